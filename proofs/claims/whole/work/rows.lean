section
-- ===== PART A: goes FIRST, ahead of the names: the tables' words, and 'selects' of the private methods out of them =====
/-- a private method of a class that the tables say can be made, by its rows of tables_1 -/
def lw_okq (q : MethodName × Nat) : Prop := (q.1.cls ≠ "java/lang/invoke/MethodHandle" ∧ q.1.cls ≠ "java/lang/invoke/VarHandle") ∧ Cond.instantiable q.1.cls q.2 ∈ tables_1 ∧ Cond.privateMethod q.1 ∈ tables_1 ∧ Cond.instanceMethod q.1 ∈ tables_1
theorem lw_p0 : lw_okq (⟨"ColdGrid", "isLetter", "(I)Z"⟩, 6) := ⟨⟨by decide +kernel, by decide +kernel⟩, List.mem_of_getElem? (i := 10) (by decide +kernel), List.mem_of_getElem? (i := 140) (by decide +kernel), List.mem_of_getElem? (i := 141) (by decide +kernel)⟩
theorem lw_p1 : lw_okq (⟨"ColdGrid", "isSetOfLetters", "(I)Z"⟩, 6) := ⟨⟨by decide +kernel, by decide +kernel⟩, List.mem_of_getElem? (i := 10) (by decide +kernel), List.mem_of_getElem? (i := 168) (by decide +kernel), List.mem_of_getElem? (i := 169) (by decide +kernel)⟩
theorem lw_p2 : lw_okq (⟨"ColdGrid$Weights", "gainOf", "(II)I"⟩, 4) := ⟨⟨by decide +kernel, by decide +kernel⟩, List.mem_of_getElem? (i := 18) (by decide +kernel), List.mem_of_getElem? (i := 183) (by decide +kernel), List.mem_of_getElem? (i := 184) (by decide +kernel)⟩
theorem lw_p3 : lw_okq (⟨"ColdGrid", "fillWeighed", "(I)V"⟩, 6) := ⟨⟨by decide +kernel, by decide +kernel⟩, List.mem_of_getElem? (i := 10) (by decide +kernel), List.mem_of_getElem? (i := 217) (by decide +kernel), List.mem_of_getElem? (i := 218) (by decide +kernel)⟩
theorem lw_p4 : lw_okq (⟨"ColdGrid", "leastOfRow", "()I"⟩, 6) := ⟨⟨by decide +kernel, by decide +kernel⟩, List.mem_of_getElem? (i := 10) (by decide +kernel), List.mem_of_getElem? (i := 235) (by decide +kernel), List.mem_of_getElem? (i := 236) (by decide +kernel)⟩
theorem lw_p5 : lw_okq (⟨"ColdGrid", "listBest", "(I)I"⟩, 6) := ⟨⟨by decide +kernel, by decide +kernel⟩, List.mem_of_getElem? (i := 10) (by decide +kernel), List.mem_of_getElem? (i := 246) (by decide +kernel), List.mem_of_getElem? (i := 247) (by decide +kernel)⟩
theorem lw_p6 : lw_okq (⟨"ColdGrid", "bestKeeper", "()I"⟩, 6) := ⟨⟨by decide +kernel, by decide +kernel⟩, List.mem_of_getElem? (i := 10) (by decide +kernel), List.mem_of_getElem? (i := 258) (by decide +kernel), List.mem_of_getElem? (i := 259) (by decide +kernel)⟩
theorem lw_p7 : lw_okq (⟨"ColdGrid$Grid", "isAnyEmpty", "(I)Z"⟩, 2) := ⟨⟨by decide +kernel, by decide +kernel⟩, List.mem_of_getElem? (i := 54) (by decide +kernel), List.mem_of_getElem? (i := 314) (by decide +kernel), List.mem_of_getElem? (i := 315) (by decide +kernel)⟩
theorem lw_p8 : lw_okq (⟨"ColdGrid$Grid", "isAnyTorn", "(I)Z"⟩, 2) := ⟨⟨by decide +kernel, by decide +kernel⟩, List.mem_of_getElem? (i := 54) (by decide +kernel), List.mem_of_getElem? (i := 327) (by decide +kernel), List.mem_of_getElem? (i := 328) (by decide +kernel)⟩
theorem lw_p9 : lw_okq (⟨"ColdGrid$Grid", "isAnyPairApart", "(LColdGrid$Weights;)Z"⟩, 2) := ⟨⟨by decide +kernel, by decide +kernel⟩, List.mem_of_getElem? (i := 54) (by decide +kernel), List.mem_of_getElem? (i := 343) (by decide +kernel), List.mem_of_getElem? (i := 344) (by decide +kernel)⟩
theorem lw_p10 : lw_okq (⟨"ColdGrid$CellEnergy", "clear", "()V"⟩, 8) := ⟨⟨by decide +kernel, by decide +kernel⟩, List.mem_of_getElem? (i := 67) (by decide +kernel), List.mem_of_getElem? (i := 370) (by decide +kernel), List.mem_of_getElem? (i := 371) (by decide +kernel)⟩
theorem lw_p11 : lw_okq (⟨"ColdGrid$CellEnergy", "listCells", "(I)V"⟩, 8) := ⟨⟨by decide +kernel, by decide +kernel⟩, List.mem_of_getElem? (i := 67) (by decide +kernel), List.mem_of_getElem? (i := 387) (by decide +kernel), List.mem_of_getElem? (i := 388) (by decide +kernel)⟩
theorem lw_p12 : lw_okq (⟨"ColdGrid$CellEnergy", "addOwn", "(II)V"⟩, 8) := ⟨⟨by decide +kernel, by decide +kernel⟩, List.mem_of_getElem? (i := 67) (by decide +kernel), List.mem_of_getElem? (i := 398) (by decide +kernel), List.mem_of_getElem? (i := 399) (by decide +kernel)⟩
theorem lw_p13 : lw_okq (⟨"ColdGrid$CellEnergy", "addLink", "(III)V"⟩, 8) := ⟨⟨by decide +kernel, by decide +kernel⟩, List.mem_of_getElem? (i := 67) (by decide +kernel), List.mem_of_getElem? (i := 405) (by decide +kernel), List.mem_of_getElem? (i := 406) (by decide +kernel)⟩
theorem lw_p14 : lw_okq (⟨"ColdGrid$CellEnergy", "gainOf", "(II)I"⟩, 8) := ⟨⟨by decide +kernel, by decide +kernel⟩, List.mem_of_getElem? (i := 67) (by decide +kernel), List.mem_of_getElem? (i := 416) (by decide +kernel), List.mem_of_getElem? (i := 417) (by decide +kernel)⟩
theorem lw_p15 : lw_okq (⟨"ColdGrid$CellEnergy", "unlikeNeighbours", "(I)I"⟩, 8) := ⟨⟨by decide +kernel, by decide +kernel⟩, List.mem_of_getElem? (i := 67) (by decide +kernel), List.mem_of_getElem? (i := 420) (by decide +kernel), List.mem_of_getElem? (i := 421) (by decide +kernel)⟩
def lw_privs_1 : List (MethodName × Nat) := [(⟨"ColdGrid", "isLetter", "(I)Z"⟩, 6), (⟨"ColdGrid", "isSetOfLetters", "(I)Z"⟩, 6), (⟨"ColdGrid$Weights", "gainOf", "(II)I"⟩, 4), (⟨"ColdGrid", "fillWeighed", "(I)V"⟩, 6), (⟨"ColdGrid", "leastOfRow", "()I"⟩, 6), (⟨"ColdGrid", "listBest", "(I)I"⟩, 6), (⟨"ColdGrid", "bestKeeper", "()I"⟩, 6), (⟨"ColdGrid$Grid", "isAnyEmpty", "(I)Z"⟩, 2), (⟨"ColdGrid$Grid", "isAnyTorn", "(I)Z"⟩, 2), (⟨"ColdGrid$Grid", "isAnyPairApart", "(LColdGrid$Weights;)Z"⟩, 2), (⟨"ColdGrid$CellEnergy", "clear", "()V"⟩, 8), (⟨"ColdGrid$CellEnergy", "listCells", "(I)V"⟩, 8), (⟨"ColdGrid$CellEnergy", "addOwn", "(II)V"⟩, 8), (⟨"ColdGrid$CellEnergy", "addLink", "(III)V"⟩, 8), (⟨"ColdGrid$CellEnergy", "gainOf", "(II)I"⟩, 8), (⟨"ColdGrid$CellEnergy", "unlikeNeighbours", "(I)I"⟩, 8)]
theorem lw_r1 : ∀ q ∈ lw_privs_1, lw_okq q := List.forall_mem_cons.mpr ⟨lw_p0, List.forall_mem_cons.mpr ⟨lw_p1, List.forall_mem_cons.mpr ⟨lw_p2, List.forall_mem_cons.mpr ⟨lw_p3, List.forall_mem_cons.mpr ⟨lw_p4, List.forall_mem_cons.mpr ⟨lw_p5, List.forall_mem_cons.mpr ⟨lw_p6, List.forall_mem_cons.mpr ⟨lw_p7, List.forall_mem_cons.mpr ⟨lw_p8, List.forall_mem_cons.mpr ⟨lw_p9, List.forall_mem_cons.mpr ⟨lw_p10, List.forall_mem_cons.mpr ⟨lw_p11, List.forall_mem_cons.mpr ⟨lw_p12, List.forall_mem_cons.mpr ⟨lw_p13, List.forall_mem_cons.mpr ⟨lw_p14, List.forall_mem_cons.mpr ⟨lw_p15, fun _ h => absurd h List.not_mem_nil⟩⟩⟩⟩⟩⟩⟩⟩⟩⟩⟩⟩⟩⟩⟩⟩
theorem lw_p16 : lw_okq (⟨"ColdGrid$Weights", "turnedBetween", "(III)I"⟩, 4) := ⟨⟨by decide +kernel, by decide +kernel⟩, List.mem_of_getElem? (i := 18) (by decide +kernel), List.mem_of_getElem? (i := 443) (by decide +kernel), List.mem_of_getElem? (i := 444) (by decide +kernel)⟩
theorem lw_p17 : lw_okq (⟨"ColdGridModel", "isLetter", "(I)Z"⟩, 15) := ⟨⟨by decide +kernel, by decide +kernel⟩, List.mem_of_getElem? (i := 493) (by decide +kernel), List.mem_of_getElem? (i := 556) (by decide +kernel), List.mem_of_getElem? (i := 557) (by decide +kernel)⟩
theorem lw_p18 : lw_okq (⟨"ColdGridModel", "putWeight", "(III)V"⟩, 15) := ⟨⟨by decide +kernel, by decide +kernel⟩, List.mem_of_getElem? (i := 493) (by decide +kernel), List.mem_of_getElem? (i := 561) (by decide +kernel), List.mem_of_getElem? (i := 562) (by decide +kernel)⟩
theorem lw_p19 : lw_okq (⟨"ColdGridModel", "isState", "(I)Z"⟩, 15) := ⟨⟨by decide +kernel, by decide +kernel⟩, List.mem_of_getElem? (i := 493) (by decide +kernel), List.mem_of_getElem? (i := 573) (by decide +kernel), List.mem_of_getElem? (i := 574) (by decide +kernel)⟩
theorem lw_p20 : lw_okq (⟨"ColdGridModel", "energyOf", "(I)I"⟩, 15) := ⟨⟨by decide +kernel, by decide +kernel⟩, List.mem_of_getElem? (i := 493) (by decide +kernel), List.mem_of_getElem? (i := 577) (by decide +kernel), List.mem_of_getElem? (i := 578) (by decide +kernel)⟩
theorem lw_p21 : lw_okq (⟨"ColdGridModel", "leastBy", "(I)I"⟩, 15) := ⟨⟨by decide +kernel, by decide +kernel⟩, List.mem_of_getElem? (i := 493) (by decide +kernel), List.mem_of_getElem? (i := 599) (by decide +kernel), List.mem_of_getElem? (i := 600) (by decide +kernel)⟩
theorem lw_p22 : lw_okq (⟨"ColdGridModel", "weighed", "(II)I"⟩, 15) := ⟨⟨by decide +kernel, by decide +kernel⟩, List.mem_of_getElem? (i := 493) (by decide +kernel), List.mem_of_getElem? (i := 603) (by decide +kernel), List.mem_of_getElem? (i := 604) (by decide +kernel)⟩
theorem lw_p23 : lw_okq (⟨"ColdGridModel", "missed", "(I)I"⟩, 15) := ⟨⟨by decide +kernel, by decide +kernel⟩, List.mem_of_getElem? (i := 493) (by decide +kernel), List.mem_of_getElem? (i := 607) (by decide +kernel), List.mem_of_getElem? (i := 608) (by decide +kernel)⟩
theorem lw_p24 : lw_okq (⟨"ColdGridModel", "fixAll", "()V"⟩, 15) := ⟨⟨by decide +kernel, by decide +kernel⟩, List.mem_of_getElem? (i := 493) (by decide +kernel), List.mem_of_getElem? (i := 627) (by decide +kernel), List.mem_of_getElem? (i := 628) (by decide +kernel)⟩
theorem lw_p25 : lw_okq (⟨"ColdGridModel", "mayBe", "(I)I"⟩, 15) := ⟨⟨by decide +kernel, by decide +kernel⟩, List.mem_of_getElem? (i := 493) (by decide +kernel), List.mem_of_getElem? (i := 631) (by decide +kernel), List.mem_of_getElem? (i := 632) (by decide +kernel)⟩
theorem lw_p26 : lw_okq (⟨"ColdGridModel", "fails", "(I)Z"⟩, 15) := ⟨⟨by decide +kernel, by decide +kernel⟩, List.mem_of_getElem? (i := 493) (by decide +kernel), List.mem_of_getElem? (i := 652) (by decide +kernel), List.mem_of_getElem? (i := 653) (by decide +kernel)⟩
theorem lw_p27 : lw_okq (⟨"ColdGridModel", "all", "()I"⟩, 15) := ⟨⟨by decide +kernel, by decide +kernel⟩, List.mem_of_getElem? (i := 493) (by decide +kernel), List.mem_of_getElem? (i := 665) (by decide +kernel), List.mem_of_getElem? (i := 666) (by decide +kernel)⟩
theorem lw_p28 : lw_okq (⟨"ColdGridModel", "together", "()I"⟩, 15) := ⟨⟨by decide +kernel, by decide +kernel⟩, List.mem_of_getElem? (i := 493) (by decide +kernel), List.mem_of_getElem? (i := 669) (by decide +kernel), List.mem_of_getElem? (i := 670) (by decide +kernel)⟩
theorem lw_p29 : lw_okq (⟨"ColdGridModel", "linkOf", "(III)I"⟩, 15) := ⟨⟨by decide +kernel, by decide +kernel⟩, List.mem_of_getElem? (i := 493) (by decide +kernel), List.mem_of_getElem? (i := 678) (by decide +kernel), List.mem_of_getElem? (i := 679) (by decide +kernel)⟩
theorem lw_p30 : lw_okq (⟨"ColdGridModel", "layGrid", "()V"⟩, 15) := ⟨⟨by decide +kernel, by decide +kernel⟩, List.mem_of_getElem? (i := 493) (by decide +kernel), List.mem_of_getElem? (i := 686) (by decide +kernel), List.mem_of_getElem? (i := 687) (by decide +kernel)⟩
theorem lw_p31 : lw_okq (⟨"ColdGridModel", "spread", "(I)I"⟩, 15) := ⟨⟨by decide +kernel, by decide +kernel⟩, List.mem_of_getElem? (i := 493) (by decide +kernel), List.mem_of_getElem? (i := 690) (by decide +kernel), List.mem_of_getElem? (i := 691) (by decide +kernel)⟩
def lw_privs_2 : List (MethodName × Nat) := [(⟨"ColdGrid$Weights", "turnedBetween", "(III)I"⟩, 4), (⟨"ColdGridModel", "isLetter", "(I)Z"⟩, 15), (⟨"ColdGridModel", "putWeight", "(III)V"⟩, 15), (⟨"ColdGridModel", "isState", "(I)Z"⟩, 15), (⟨"ColdGridModel", "energyOf", "(I)I"⟩, 15), (⟨"ColdGridModel", "leastBy", "(I)I"⟩, 15), (⟨"ColdGridModel", "weighed", "(II)I"⟩, 15), (⟨"ColdGridModel", "missed", "(I)I"⟩, 15), (⟨"ColdGridModel", "fixAll", "()V"⟩, 15), (⟨"ColdGridModel", "mayBe", "(I)I"⟩, 15), (⟨"ColdGridModel", "fails", "(I)Z"⟩, 15), (⟨"ColdGridModel", "all", "()I"⟩, 15), (⟨"ColdGridModel", "together", "()I"⟩, 15), (⟨"ColdGridModel", "linkOf", "(III)I"⟩, 15), (⟨"ColdGridModel", "layGrid", "()V"⟩, 15), (⟨"ColdGridModel", "spread", "(I)I"⟩, 15)]
theorem lw_r2 : ∀ q ∈ lw_privs_2, lw_okq q := List.forall_mem_cons.mpr ⟨lw_p16, List.forall_mem_cons.mpr ⟨lw_p17, List.forall_mem_cons.mpr ⟨lw_p18, List.forall_mem_cons.mpr ⟨lw_p19, List.forall_mem_cons.mpr ⟨lw_p20, List.forall_mem_cons.mpr ⟨lw_p21, List.forall_mem_cons.mpr ⟨lw_p22, List.forall_mem_cons.mpr ⟨lw_p23, List.forall_mem_cons.mpr ⟨lw_p24, List.forall_mem_cons.mpr ⟨lw_p25, List.forall_mem_cons.mpr ⟨lw_p26, List.forall_mem_cons.mpr ⟨lw_p27, List.forall_mem_cons.mpr ⟨lw_p28, List.forall_mem_cons.mpr ⟨lw_p29, List.forall_mem_cons.mpr ⟨lw_p30, List.forall_mem_cons.mpr ⟨lw_p31, fun _ h => absurd h List.not_mem_nil⟩⟩⟩⟩⟩⟩⟩⟩⟩⟩⟩⟩⟩⟩⟩⟩
theorem lw_p32 : lw_okq (⟨"ColdGridModel", "energyOn", "(I)I"⟩, 15) := ⟨⟨by decide +kernel, by decide +kernel⟩, List.mem_of_getElem? (i := 493) (by decide +kernel), List.mem_of_getElem? (i := 694) (by decide +kernel), List.mem_of_getElem? (i := 695) (by decide +kernel)⟩
theorem lw_p33 : lw_okq (⟨"ColdGridModel", "unlike", "(I)I"⟩, 15) := ⟨⟨by decide +kernel, by decide +kernel⟩, List.mem_of_getElem? (i := 493) (by decide +kernel), List.mem_of_getElem? (i := 698) (by decide +kernel), List.mem_of_getElem? (i := 699) (by decide +kernel)⟩
theorem lw_p34 : lw_okq (⟨"ColdGridModel", "turnOne", "(I)V"⟩, 15) := ⟨⟨by decide +kernel, by decide +kernel⟩, List.mem_of_getElem? (i := 493) (by decide +kernel), List.mem_of_getElem? (i := 710) (by decide +kernel), List.mem_of_getElem? (i := 711) (by decide +kernel)⟩
def lw_privs_3 : List (MethodName × Nat) := [(⟨"ColdGridModel", "energyOn", "(I)I"⟩, 15), (⟨"ColdGridModel", "unlike", "(I)I"⟩, 15), (⟨"ColdGridModel", "turnOne", "(I)V"⟩, 15)]
theorem lw_r3 : ∀ q ∈ lw_privs_3, lw_okq q := List.forall_mem_cons.mpr ⟨lw_p32, List.forall_mem_cons.mpr ⟨lw_p33, List.forall_mem_cons.mpr ⟨lw_p34, fun _ h => absurd h List.not_mem_nil⟩⟩⟩
def lw_privs : List (MethodName × Nat) := lw_privs_1 ++ (lw_privs_2 ++ (lw_privs_3))
def lw_tbl : List Cond := k2_sels lw_privs ++ tables_1
theorem lw_privs_ok : ∀ q ∈ lw_privs, lw_okq q := by
  show ∀ q ∈ lw_privs_1 ++ (lw_privs_2 ++ (lw_privs_3)), lw_okq q
  exact List.forall_mem_append.mpr ⟨lw_r1, List.forall_mem_append.mpr ⟨lw_r2, lw_r3⟩⟩
end
section
def RX0 : String := "ColdGrid$CellEnergy"
def TX0 : u_T := fun k => match k with
  | 0 => ("ColdGrid$CellEnergy", "own", "[I", true)
  | 1 => ("ColdGrid$CellEnergy", "toRight", "[I", true)
  | 2 => ("ColdGrid$CellEnergy", "toBelow", "[I", true)
  | 3 => ("ColdGrid$CellEnergy", "laid", "[I", true)
  | 4 => ("ColdGrid$CellEnergy", "laidCells", "I", false)
  | 5 => ("ColdGrid$CellEnergy", "constant", "I", false)
  | 6 => ("ColdGrid$CellEnergy", "boundToRight", "I", false)
  | _ => ("ColdGrid$CellEnergy", "boundToBelow", "I", false)
def tyX0 : Nat → FieldType := fun k => match k with
  | 0 => .array .int
  | 1 => .array .int
  | 2 => .array .int
  | 3 => .array .int
  | 4 => .int
  | 5 => .int
  | 6 => .int
  | _ => .int
abbrev wsX00 : List Cond := u_ws RX0 TX0 8
theorem nmX0 : ∀ a, a < 8 → ∀ b, b < 8 → a ≠ b → (TX0 a).2.1 ≠ (TX0 b).2.1 := by decide +kernel
theorem tyX0_ok : ∀ k, k < 8 → parseFieldDescriptor (TX0 k).2.2.1 = some (tyX0 k) := by decide +kernel
abbrev cX0_init : ByteArray := prog_2_method_1_code
def yX0_init : MethodName := ⟨RX0, "<init>", "()V"⟩
abbrev cX0_layOut : ByteArray := prog_2_method_2_code
def yX0_layOut : MethodName := ⟨RX0, "layOut", "(LColdGrid$Weights;LColdGrid$Grid;)V"⟩
abbrev cX0_leastHold : ByteArray := prog_2_method_3_code
def yX0_leastHold : MethodName := ⟨RX0, "leastHold", "(I)I"⟩
abbrev cX0_clear : ByteArray := prog_2_method_4_code
def yX0_clear : MethodName := ⟨RX0, "clear", "()V"⟩
abbrev cX0_listCells : ByteArray := prog_2_method_5_code
def yX0_listCells : MethodName := ⟨RX0, "listCells", "(I)V"⟩
abbrev cX0_addOwn : ByteArray := prog_2_method_6_code
def yX0_addOwn : MethodName := ⟨RX0, "addOwn", "(II)V"⟩
abbrev cX0_addLink : ByteArray := prog_2_method_7_code
def yX0_addLink : MethodName := ⟨RX0, "addLink", "(III)V"⟩
abbrev cX0_gainOf : ByteArray := prog_2_method_8_code
def yX0_gainOf : MethodName := ⟨RX0, "gainOf", "(II)I"⟩
abbrev cX0_unlikeNeighbours : ByteArray := prog_2_method_9_code
def yX0_unlikeNeighbours : MethodName := ⟨RX0, "unlikeNeighbours", "(I)I"⟩
def RX1 : String := "ColdGrid$Grid"
def TX1 : u_T := fun k => match k with
  | 0 => ("ColdGrid$Grid", "chains", "[I", true)
  | _ => ("ColdGrid$Grid", "dead", "I", false)
def tyX1 : Nat → FieldType := fun k => match k with
  | 0 => .array .int
  | _ => .int
abbrev wsX10 : List Cond := u_ws RX1 TX1 2
theorem nmX1 : ∀ a, a < 2 → ∀ b, b < 2 → a ≠ b → (TX1 a).2.1 ≠ (TX1 b).2.1 := by decide +kernel
theorem tyX1_ok : ∀ k, k < 2 → parseFieldDescriptor (TX1 k).2.2.1 = some (tyX1 k) := by decide +kernel
abbrev cX1_init : ByteArray := prog_3_method_1_code
def yX1_init : MethodName := ⟨RX1, "<init>", "()V"⟩
abbrev cX1_isDead : ByteArray := prog_3_method_2_code
def yX1_isDead : MethodName := ⟨RX1, "isDead", "(I)Z"⟩
abbrev cX1_setDead : ByteArray := prog_3_method_3_code
def yX1_setDead : MethodName := ⟨RX1, "setDead", "(IZ)V"⟩
abbrev cX1_deadCells : ByteArray := prog_3_method_4_code
def yX1_deadCells : MethodName := ⟨RX1, "deadCells", "()I"⟩
abbrev cX1_setChain : ByteArray := prog_3_method_5_code
def yX1_setChain : MethodName := ⟨RX1, "setChain", "(II)V"⟩
abbrev cX1_forgetChains : ByteArray := prog_3_method_6_code
def yX1_forgetChains : MethodName := ⟨RX1, "forgetChains", "()V"⟩
abbrev cX1_cellsOfChains : ByteArray := prog_3_method_7_code
def yX1_cellsOfChains : MethodName := ⟨RX1, "cellsOfChains", "()I"⟩
abbrev cX1_chainLengths : ByteArray := prog_3_method_8_code
def yX1_chainLengths : MethodName := ⟨RX1, "chainLengths", "()I"⟩
abbrev cX1_firstFailing : ByteArray := prog_3_method_9_code
def yX1_firstFailing : MethodName := ⟨RX1, "firstFailing", "(LColdGrid$Weights;)I"⟩
abbrev cX1_linkFrom : ByteArray := prog_3_method_10_code
def yX1_linkFrom : MethodName := ⟨RX1, "linkFrom", "(II)I"⟩
abbrev cX1_linkTo : ByteArray := prog_3_method_11_code
def yX1_linkTo : MethodName := ⟨RX1, "linkTo", "(II)I"⟩
abbrev cX1_mostOf : ByteArray := prog_3_method_12_code
def yX1_mostOf : MethodName := ⟨RX1, "mostOf", "(II)I"⟩
abbrev cX1_leastCellOf : ByteArray := prog_3_method_13_code
def yX1_leastCellOf : MethodName := ⟨RX1, "leastCellOf", "(I)I"⟩
abbrev cX1_boundToRight : ByteArray := prog_3_method_14_code
def yX1_boundToRight : MethodName := ⟨RX1, "boundToRight", "()I"⟩
abbrev cX1_boundToBelow : ByteArray := prog_3_method_15_code
def yX1_boundToBelow : MethodName := ⟨RX1, "boundToBelow", "()I"⟩
abbrev cX1_isAnyEmpty : ByteArray := prog_3_method_16_code
def yX1_isAnyEmpty : MethodName := ⟨RX1, "isAnyEmpty", "(I)Z"⟩
abbrev cX1_isAnyTorn : ByteArray := prog_3_method_17_code
def yX1_isAnyTorn : MethodName := ⟨RX1, "isAnyTorn", "(I)Z"⟩
abbrev cX1_isAnyPairApart : ByteArray := prog_3_method_18_code
def yX1_isAnyPairApart : MethodName := ⟨RX1, "isAnyPairApart", "(LColdGrid$Weights;)Z"⟩
abbrev cX1_hangsTogether : ByteArray := prog_3_method_19_code
def yX1_hangsTogether : MethodName := ⟨RX1, "hangsTogether", "(I)Z"⟩
abbrev cX1_neighboursOf : ByteArray := prog_3_method_20_code
def yX1_neighboursOf : MethodName := ⟨RX1, "neighboursOf", "(I)I"⟩
def RX2 : String := "ColdGrid$Laws"
def TX2 : u_T := fun k => match k with
  | 0 => ("ColdGrid$Laws", "sets", "[I", true)
  | 1 => ("ColdGrid$Laws", "ones", "[I", true)
  | _ => ("ColdGrid$Laws", "told", "I", false)
def tyX2 : Nat → FieldType := fun k => match k with
  | 0 => .array .int
  | 1 => .array .int
  | _ => .int
abbrev wsX20 : List Cond := u_ws RX2 TX2 3
theorem nmX2 : ∀ a, a < 3 → ∀ b, b < 3 → a ≠ b → (TX2 a).2.1 ≠ (TX2 b).2.1 := by decide +kernel
theorem tyX2_ok : ∀ k, k < 3 → parseFieldDescriptor (TX2 k).2.2.1 = some (tyX2 k) := by decide +kernel
abbrev cX2_init : ByteArray := prog_4_method_1_code
def yX2_init : MethodName := ⟨RX2, "<init>", "()V"⟩
abbrev cX2_size : ByteArray := prog_4_method_2_code
def yX2_size : MethodName := ⟨RX2, "size", "()I"⟩
abbrev cX2_add : ByteArray := prog_4_method_3_code
def yX2_add : MethodName := ⟨RX2, "add", "(II)I"⟩
abbrev cX2_dropLast : ByteArray := prog_4_method_4_code
def yX2_dropLast : MethodName := ⟨RX2, "dropLast", "()I"⟩
abbrev cX2_forgetAll : ByteArray := prog_4_method_5_code
def yX2_forgetAll : MethodName := ⟨RX2, "forgetAll", "()V"⟩
abbrev cX2_missedBy : ByteArray := prog_4_method_6_code
def yX2_missedBy : MethodName := ⟨RX2, "missedBy", "(I)I"⟩
def RX3 : String := "ColdGrid$Weights"
def TX3 : u_T := fun k => match k with
  | 0 => ("ColdGrid$Weights", "table", "[I", true)
  | 1 => ("ColdGrid$Weights", "turned", "[I", true)
  | 2 => ("ColdGrid$Weights", "n", "I", false)
  | _ => ("ColdGrid$Weights", "constant", "I", false)
def tyX3 : Nat → FieldType := fun k => match k with
  | 0 => .array .int
  | 1 => .array .int
  | 2 => .int
  | _ => .int
abbrev wsX30 : List Cond := u_ws RX3 TX3 4
theorem nmX3 : ∀ a, a < 4 → ∀ b, b < 4 → a ≠ b → (TX3 a).2.1 ≠ (TX3 b).2.1 := by decide +kernel
theorem tyX3_ok : ∀ k, k < 4 → parseFieldDescriptor (TX3 k).2.2.1 = some (tyX3 k) := by decide +kernel
abbrev cX3_init : ByteArray := prog_5_method_1_code
def yX3_init : MethodName := ⟨RX3, "<init>", "()V"⟩
abbrev cX3_startAnew : ByteArray := prog_5_method_2_code
def yX3_startAnew : MethodName := ⟨RX3, "startAnew", "(I)V"⟩
abbrev cX3_size : ByteArray := prog_5_method_3_code
def yX3_size : MethodName := ⟨RX3, "size", "()I"⟩
abbrev cX3_states : ByteArray := prog_5_method_4_code
def yX3_states : MethodName := ⟨RX3, "states", "()I"⟩
abbrev cX3_constant : ByteArray := prog_5_method_5_code
def yX3_constant : MethodName := ⟨RX3, "constant", "()I"⟩
abbrev cX3_between : ByteArray := prog_5_method_6_code
def yX3_between : MethodName := ⟨RX3, "between", "(II)I"⟩
abbrev cX3_setBetween : ByteArray := prog_5_method_7_code
def yX3_setBetween : MethodName := ⟨RX3, "setBetween", "(III)V"⟩
abbrev cX3_weightedPairs : ByteArray := prog_5_method_8_code
def yX3_weightedPairs : MethodName := ⟨RX3, "weightedPairs", "()I"⟩
abbrev cX3_energyOf : ByteArray := prog_5_method_9_code
def yX3_energyOf : MethodName := ⟨RX3, "energyOf", "(I)I"⟩
abbrev cX3_fillEnergies : ByteArray := prog_5_method_10_code
def yX3_fillEnergies : MethodName := ⟨RX3, "fillEnergies", "([I)V"⟩
abbrev cX3_changeBy : ByteArray := prog_5_method_11_code
def yX3_changeBy : MethodName := ⟨RX3, "changeBy", "(II)I"⟩
abbrev cX3_valueToFix : ByteArray := prog_5_method_12_code
def yX3_valueToFix : MethodName := ⟨RX3, "valueToFix", "(III)I"⟩
abbrev cX3_lowerBound : ByteArray := prog_5_method_13_code
def yX3_lowerBound : MethodName := ⟨RX3, "lowerBound", "()I"⟩
abbrev cX3_turnBy : ByteArray := prog_5_method_14_code
def yX3_turnBy : MethodName := ⟨RX3, "turnBy", "(I)Z"⟩
abbrev cX3_cutTo : ByteArray := prog_5_method_15_code
def yX3_cutTo : MethodName := ⟨RX3, "cutTo", "(I)V"⟩
abbrev cX3_gainOf : ByteArray := prog_5_method_16_code
def yX3_gainOf : MethodName := ⟨RX3, "gainOf", "(II)I"⟩
abbrev cX3_turnedBetween : ByteArray := prog_5_method_17_code
def yX3_turnedBetween : MethodName := ⟨RX3, "turnedBetween", "(III)I"⟩
abbrev cX3_nearestMultiple : ByteArray := prog_5_method_18_code
def yX3_nearestMultiple : MethodName := ⟨RX3, "nearestMultiple", "(II)I"⟩
abbrev cX3_place : ByteArray := prog_5_method_19_code
def yX3_place : MethodName := ⟨RX3, "place", "(II)I"⟩
def RX4 : String := "ColdGrid"
def TX4 : u_T := fun k => match k with
  | 0 => ("ColdGrid", "weights", "LColdGrid$Weights;", true)
  | 1 => ("ColdGrid", "laws", "LColdGrid$Laws;", true)
  | 2 => ("ColdGrid", "grid", "LColdGrid$Grid;", true)
  | 3 => ("ColdGrid", "cellEnergy", "LColdGrid$CellEnergy;", true)
  | 4 => ("ColdGrid", "row", "[I", true)
  | _ => ("ColdGrid", "otherRow", "[I", true)
def tyX4 : Nat → FieldType := fun k => match k with
  | 0 => .object "ColdGrid$Weights"
  | 1 => .object "ColdGrid$Laws"
  | 2 => .object "ColdGrid$Grid"
  | 3 => .object "ColdGrid$CellEnergy"
  | 4 => .array .int
  | _ => .array .int
abbrev wsX40 : List Cond := u_ws RX4 TX4 6
theorem nmX4 : ∀ a, a < 6 → ∀ b, b < 6 → a ≠ b → (TX4 a).2.1 ≠ (TX4 b).2.1 := by decide +kernel
theorem tyX4_ok : ∀ k, k < 6 → parseFieldDescriptor (TX4 k).2.2.1 = some (tyX4 k) := by decide +kernel
abbrev cX4_init : ByteArray := prog_1_method_1_code
def yX4_init : MethodName := ⟨RX4, "<init>", "()V"⟩
abbrev cX4_letters : ByteArray := prog_1_method_2_code
def yX4_letters : MethodName := ⟨RX4, "letters", "(I)I"⟩
abbrev cX4_weigh : ByteArray := prog_1_method_3_code
def yX4_weigh : MethodName := ⟨RX4, "weigh", "(III)I"⟩
abbrev cX4_weight : ByteArray := prog_1_method_4_code
def yX4_weight : MethodName := ⟨RX4, "weight", "(II)I"⟩
abbrev cX4_energy : ByteArray := prog_1_method_5_code
def yX4_energy : MethodName := ⟨RX4, "energy", "(I)I"⟩
abbrev cX4_law : ByteArray := prog_1_method_6_code
def yX4_law : MethodName := ⟨RX4, "law", "(II)I"⟩
abbrev cX4_unlaw : ByteArray := prog_1_method_7_code
def yX4_unlaw : MethodName := ⟨RX4, "unlaw", "()I"⟩
abbrev cX4_best : ByteArray := prog_1_method_8_code
def yX4_best : MethodName := ⟨RX4, "best", "(I)I"⟩
abbrev cX4_many : ByteArray := prog_1_method_9_code
def yX4_many : MethodName := ⟨RX4, "many", "(I)I"⟩
abbrev cX4_bestAt : ByteArray := prog_1_method_10_code
def yX4_bestAt : MethodName := ⟨RX4, "bestAt", "(II)I"⟩
abbrev cX4_pull : ByteArray := prog_1_method_11_code
def yX4_pull : MethodName := ⟨RX4, "pull", "()I"⟩
abbrev cX4_fixed : ByteArray := prog_1_method_12_code
def yX4_fixed : MethodName := ⟨RX4, "fixed", "(I)I"⟩
abbrev cX4_floor : ByteArray := prog_1_method_13_code
def yX4_floor : MethodName := ⟨RX4, "floor", "()I"⟩
abbrev cX4_kill : ByteArray := prog_1_method_14_code
def yX4_kill : MethodName := ⟨RX4, "kill", "(IZ)I"⟩
abbrev cX4_chain : ByteArray := prog_1_method_15_code
def yX4_chain : MethodName := ⟨RX4, "chain", "(II)I"⟩
abbrev cX4_stands : ByteArray := prog_1_method_16_code
def yX4_stands : MethodName := ⟨RX4, "stands", "()I"⟩
abbrev cX4_link : ByteArray := prog_1_method_17_code
def yX4_link : MethodName := ⟨RX4, "link", "(III)I"⟩
abbrev cX4_strong : ByteArray := prog_1_method_18_code
def yX4_strong : MethodName := ⟨RX4, "strong", "()I"⟩
abbrev cX4_readBack : ByteArray := prog_1_method_19_code
def yX4_readBack : MethodName := ⟨RX4, "readBack", "(I)I"⟩
abbrev cX4_turn : ByteArray := prog_1_method_20_code
def yX4_turn : MethodName := ⟨RX4, "turn", "(I)I"⟩
abbrev cX4_cut : ByteArray := prog_1_method_21_code
def yX4_cut : MethodName := ⟨RX4, "cut", "(I)I"⟩
abbrev cX4_walk : ByteArray := prog_1_method_22_code
def yX4_walk : MethodName := ⟨RX4, "walk", "(IIIII)I"⟩
abbrev cX4_count : ByteArray := prog_1_method_23_code
def yX4_count : MethodName := ⟨RX4, "count", "(I)I"⟩
abbrev cX4_isLetter : ByteArray := prog_1_method_24_code
def yX4_isLetter : MethodName := ⟨RX4, "isLetter", "(I)Z"⟩
abbrev cX4_isSetOfLetters : ByteArray := prog_1_method_25_code
def yX4_isSetOfLetters : MethodName := ⟨RX4, "isSetOfLetters", "(I)Z"⟩
abbrev cX4_isPull : ByteArray := prog_1_method_26_code
def yX4_isPull : MethodName := ⟨RX4, "isPull", "(I)Z"⟩
abbrev cX4_isWithin : ByteArray := prog_1_method_27_code
def yX4_isWithin : MethodName := ⟨RX4, "isWithin", "(III)Z"⟩
abbrev cX4_isIn : ByteArray := prog_1_method_28_code
def yX4_isIn : MethodName := ⟨RX4, "isIn", "(II)Z"⟩
abbrev cX4_fillWeighed : ByteArray := prog_1_method_29_code
def yX4_fillWeighed : MethodName := ⟨RX4, "fillWeighed", "(I)V"⟩
abbrev cX4_listBest : ByteArray := prog_1_method_30_code
def yX4_listBest : MethodName := ⟨RX4, "listBest", "(I)I"⟩
abbrev cX4_leastOfRow : ByteArray := prog_1_method_31_code
def yX4_leastOfRow : MethodName := ⟨RX4, "leastOfRow", "()I"⟩
abbrev cX4_bestKeeper : ByteArray := prog_1_method_32_code
def yX4_bestKeeper : MethodName := ⟨RX4, "bestKeeper", "()I"⟩
def RX5 : String := "ColdGridModel"
def TX5 : u_T := fun k => match k with
  | 0 => ("ColdGridModel", "n", "I", false)
  | 1 => ("ColdGridModel", "constant", "I", false)
  | 2 => ("ColdGridModel", "weights", "[I", true)
  | 3 => ("ColdGridModel", "laws", "I", false)
  | 4 => ("ColdGridModel", "lawSet", "[I", true)
  | 5 => ("ColdGridModel", "lawMany", "[I", true)
  | 6 => ("ColdGridModel", "dead", "I", false)
  | 7 => ("ColdGridModel", "chains", "[I", true)
  | 8 => ("ColdGridModel", "fixedSet", "I", false)
  | 9 => ("ColdGridModel", "fixedOnes", "I", false)
  | 10 => ("ColdGridModel", "cellMany", "I", false)
  | 11 => ("ColdGridModel", "cells", "[I", true)
  | 12 => ("ColdGridModel", "links", "[I", true)
  | 13 => ("ColdGridModel", "kept", "[I", true)
  | _ => ("ColdGridModel", "before", "[I", true)
def tyX5 : Nat → FieldType := fun k => match k with
  | 0 => .int
  | 1 => .int
  | 2 => .array .int
  | 3 => .int
  | 4 => .array .int
  | 5 => .array .int
  | 6 => .int
  | 7 => .array .int
  | 8 => .int
  | 9 => .int
  | 10 => .int
  | 11 => .array .int
  | 12 => .array .int
  | 13 => .array .int
  | _ => .array .int
abbrev wsX50 : List Cond := u_ws RX5 TX5 15
theorem nmX5 : ∀ a, a < 15 → ∀ b, b < 15 → a ≠ b → (TX5 a).2.1 ≠ (TX5 b).2.1 := by decide +kernel
theorem tyX5_ok : ∀ k, k < 15 → parseFieldDescriptor (TX5 k).2.2.1 = some (tyX5 k) := by decide +kernel
abbrev cX5_init : ByteArray := prog_7_method_1_code
def yX5_init : MethodName := ⟨RX5, "<init>", "()V"⟩
abbrev cX5_in : ByteArray := prog_7_method_2_code
def yX5_in : MethodName := ⟨RX5, "in", "(III)Z"⟩
abbrev cX5_size : ByteArray := prog_7_method_3_code
def yX5_size : MethodName := ⟨RX5, "size", "(I)I"⟩
abbrev cX5_ones : ByteArray := prog_7_method_4_code
def yX5_ones : MethodName := ⟨RX5, "ones", "(I)I"⟩
abbrev cX5_isLetter : ByteArray := prog_7_method_5_code
def yX5_isLetter : MethodName := ⟨RX5, "isLetter", "(I)Z"⟩
abbrev cX5_isState : ByteArray := prog_7_method_6_code
def yX5_isState : MethodName := ⟨RX5, "isState", "(I)Z"⟩
abbrev cX5_letters : ByteArray := prog_7_method_7_code
def yX5_letters : MethodName := ⟨RX5, "letters", "(I)I"⟩
abbrev cX5_putWeight : ByteArray := prog_7_method_8_code
def yX5_putWeight : MethodName := ⟨RX5, "putWeight", "(III)V"⟩
abbrev cX5_weigh : ByteArray := prog_7_method_9_code
def yX5_weigh : MethodName := ⟨RX5, "weigh", "(III)I"⟩
abbrev cX5_weight : ByteArray := prog_7_method_10_code
def yX5_weight : MethodName := ⟨RX5, "weight", "(II)I"⟩
abbrev cX5_energyOf : ByteArray := prog_7_method_11_code
def yX5_energyOf : MethodName := ⟨RX5, "energyOf", "(I)I"⟩
abbrev cX5_energy : ByteArray := prog_7_method_12_code
def yX5_energy : MethodName := ⟨RX5, "energy", "(I)I"⟩
abbrev cX5_law : ByteArray := prog_7_method_13_code
def yX5_law : MethodName := ⟨RX5, "law", "(II)I"⟩
abbrev cX5_unlaw : ByteArray := prog_7_method_14_code
def yX5_unlaw : MethodName := ⟨RX5, "unlaw", "()I"⟩
abbrev cX5_missed : ByteArray := prog_7_method_15_code
def yX5_missed : MethodName := ⟨RX5, "missed", "(I)I"⟩
abbrev cX5_weighed : ByteArray := prog_7_method_16_code
def yX5_weighed : MethodName := ⟨RX5, "weighed", "(II)I"⟩
abbrev cX5_leastBy : ByteArray := prog_7_method_17_code
def yX5_leastBy : MethodName := ⟨RX5, "leastBy", "(I)I"⟩
abbrev cX5_isPull : ByteArray := prog_7_method_18_code
def yX5_isPull : MethodName := ⟨RX5, "isPull", "(I)Z"⟩
abbrev cX5_best : ByteArray := prog_7_method_19_code
def yX5_best : MethodName := ⟨RX5, "best", "(I)I"⟩
abbrev cX5_many : ByteArray := prog_7_method_20_code
def yX5_many : MethodName := ⟨RX5, "many", "(I)I"⟩
abbrev cX5_bestAt : ByteArray := prog_7_method_21_code
def yX5_bestAt : MethodName := ⟨RX5, "bestAt", "(II)I"⟩
abbrev cX5_pull : ByteArray := prog_7_method_22_code
def yX5_pull : MethodName := ⟨RX5, "pull", "()I"⟩
abbrev cX5_mayBe : ByteArray := prog_7_method_23_code
def yX5_mayBe : MethodName := ⟨RX5, "mayBe", "(I)I"⟩
abbrev cX5_fixAll : ByteArray := prog_7_method_24_code
def yX5_fixAll : MethodName := ⟨RX5, "fixAll", "()V"⟩
abbrev cX5_fixed : ByteArray := prog_7_method_25_code
def yX5_fixed : MethodName := ⟨RX5, "fixed", "(I)I"⟩
abbrev cX5_floor : ByteArray := prog_7_method_26_code
def yX5_floor : MethodName := ⟨RX5, "floor", "()I"⟩
abbrev cX5_kill : ByteArray := prog_7_method_27_code
def yX5_kill : MethodName := ⟨RX5, "kill", "(IZ)I"⟩
abbrev cX5_chain : ByteArray := prog_7_method_28_code
def yX5_chain : MethodName := ⟨RX5, "chain", "(II)I"⟩
abbrev cX5_beside : ByteArray := prog_7_method_29_code
def yX5_beside : MethodName := ⟨RX5, "beside", "(I)I"⟩
abbrev cX5_firstOf : ByteArray := prog_7_method_30_code
def yX5_firstOf : MethodName := ⟨RX5, "firstOf", "(I)I"⟩
abbrev cX5_hangs : ByteArray := prog_7_method_31_code
def yX5_hangs : MethodName := ⟨RX5, "hangs", "(I)Z"⟩
abbrev cX5_all : ByteArray := prog_7_method_32_code
def yX5_all : MethodName := ⟨RX5, "all", "()I"⟩
abbrev cX5_together : ByteArray := prog_7_method_33_code
def yX5_together : MethodName := ⟨RX5, "together", "()I"⟩
abbrev cX5_fails : ByteArray := prog_7_method_34_code
def yX5_fails : MethodName := ⟨RX5, "fails", "(I)Z"⟩
abbrev cX5_stands : ByteArray := prog_7_method_35_code
def yX5_stands : MethodName := ⟨RX5, "stands", "()I"⟩
abbrev cX5_linkOf : ByteArray := prog_7_method_36_code
def yX5_linkOf : MethodName := ⟨RX5, "linkOf", "(III)I"⟩
abbrev cX5_link : ByteArray := prog_7_method_37_code
def yX5_link : MethodName := ⟨RX5, "link", "(III)I"⟩
abbrev cX5_spread : ByteArray := prog_7_method_38_code
def yX5_spread : MethodName := ⟨RX5, "spread", "(I)I"⟩
abbrev cX5_layGrid : ByteArray := prog_7_method_39_code
def yX5_layGrid : MethodName := ⟨RX5, "layGrid", "()V"⟩
abbrev cX5_energyOn : ByteArray := prog_7_method_40_code
def yX5_energyOn : MethodName := ⟨RX5, "energyOn", "(I)I"⟩
abbrev cX5_unlike : ByteArray := prog_7_method_41_code
def yX5_unlike : MethodName := ⟨RX5, "unlike", "(I)I"⟩
abbrev cX5_strong : ByteArray := prog_7_method_42_code
def yX5_strong : MethodName := ⟨RX5, "strong", "()I"⟩
abbrev cX5_readBack : ByteArray := prog_7_method_43_code
def yX5_readBack : MethodName := ⟨RX5, "readBack", "(I)I"⟩
abbrev cX5_turnOne : ByteArray := prog_7_method_44_code
def yX5_turnOne : MethodName := ⟨RX5, "turnOne", "(I)V"⟩
abbrev cX5_turn : ByteArray := prog_7_method_45_code
def yX5_turn : MethodName := ⟨RX5, "turn", "(I)I"⟩
abbrev cX5_cutOf : ByteArray := prog_7_method_46_code
def yX5_cutOf : MethodName := ⟨RX5, "cutOf", "(II)I"⟩
abbrev cX5_cut : ByteArray := prog_7_method_47_code
def yX5_cut : MethodName := ⟨RX5, "cut", "(I)I"⟩
abbrev cX5_walk : ByteArray := prog_7_method_48_code
def yX5_walk : MethodName := ⟨RX5, "walk", "(IIIII)I"⟩
abbrev cX5_count : ByteArray := prog_7_method_49_code
def yX5_count : MethodName := ⟨RX5, "count", "(I)I"⟩
def RJ6 : String := "java/lang/Integer"
def TJ6 : u_T := fun k => match k with
  | _ => ("", "", "", false)
def tyJ6 : Nat → FieldType := fun k => match k with
  | _ => .int
abbrev wsJ60 : List Cond := u_ws RJ6 TJ6 0
theorem nmJ6 : ∀ a, a < 0 → ∀ b, b < 0 → a ≠ b → (TJ6 a).2.1 ≠ (TJ6 b).2.1 := by decide +kernel
theorem tyJ6_ok : ∀ k, k < 0 → parseFieldDescriptor (TJ6 k).2.2.1 = some (tyJ6 k) := by decide +kernel
abbrev cJ6_lowestOneBit_0f7a4 : ByteArray := prog_8_method_46_code
def yJ6_lowestOneBit_0f7a4 : MethodName := ⟨RJ6, "lowestOneBit", "(I)I"⟩
abbrev cJ6_numberOfTrailingZeros_0f7a4 : ByteArray := prog_8_method_48_code
def yJ6_numberOfTrailingZeros_0f7a4 : MethodName := ⟨RJ6, "numberOfTrailingZeros", "(I)I"⟩
abbrev cJ6_bitCount_0f7a4 : ByteArray := prog_8_method_49_code
def yJ6_bitCount_0f7a4 : MethodName := ⟨RJ6, "bitCount", "(I)I"⟩
def RJ9 : String := "java/lang/Math"
def TJ9 : u_T := fun k => match k with
  | _ => ("", "", "", false)
def tyJ9 : Nat → FieldType := fun k => match k with
  | _ => .int
abbrev wsJ90 : List Cond := u_ws RJ9 TJ9 0
theorem nmJ9 : ∀ a, a < 0 → ∀ b, b < 0 → a ≠ b → (TJ9 a).2.1 ≠ (TJ9 b).2.1 := by decide +kernel
theorem tyJ9_ok : ∀ k, k < 0 → parseFieldDescriptor (TJ9 k).2.2.1 = some (tyJ9 k) := by decide +kernel
abbrev cJ9_abs_0f7a4 : ByteArray := prog_9_method_59_code
def yJ9_abs_0f7a4 : MethodName := ⟨RJ9, "abs", "(I)I"⟩
abbrev cJ9_max_7cf53 : ByteArray := prog_9_method_65_code
def yJ9_max_7cf53 : MethodName := ⟨RJ9, "max", "(II)I"⟩
abbrev cJ9_min_7cf53 : ByteArray := prog_9_method_69_code
def yJ9_min_7cf53 : MethodName := ⟨RJ9, "min", "(II)I"⟩
def RL : String := "ColdGridLaw"
abbrev cL_law : ByteArray := code
def yL_law : MethodName := ⟨RL, "law", "([I)Z"⟩
abbrev vwCl : List vw_C := [(RX0, TX0, 8), (RX1, TX1, 2), (RX2, TX2, 3), (RX3, TX3, 4), (RX4, TX4, 6), (RX5, TX5, 15)]
end
section
abbrev ix_E : Type := Instr × Nat × Nat × Nat × Nat × Int32
def tb_X0_clear : List (Nat × ix_E) := [(0, (.iconst 0, 1, 0, 0, 0, 0)), (1, (.istore_n 1, 2, 1, 0, 0, 0)), (2, (.iload_n 1, 3, 1, 0, 0, 0)), (3, (.bipush 20, 5, 0, 0, 0, 20)), (5, (.if_icmp .ge 30, 8, 35, 0, 0, 0)), (8, (.aload_n 0, 9, 0, 0, 0, 0)), (9, (.getfield 9, 12, 0, 0, 107, 0)), (12, (.iload_n 1, 13, 1, 0, 0, 0)), (13, (.iconst 0, 14, 0, 0, 0, 0)), (14, (.iastore, 15, 0, 0, 0, 0)), (15, (.aload_n 0, 16, 0, 0, 0, 0)), (16, (.getfield 15, 19, 1, 0, 108, 0)), (19, (.iload_n 1, 20, 1, 0, 0, 0)), (20, (.iconst 0, 21, 0, 0, 0, 0)), (21, (.iastore, 22, 0, 0, 0, 0)), (22, (.aload_n 0, 23, 0, 0, 0, 0)), (23, (.getfield 18, 26, 2, 0, 109, 0)), (26, (.iload_n 1, 27, 1, 0, 0, 0)), (27, (.iconst 0, 28, 0, 0, 0, 0)), (28, (.iastore, 29, 0, 0, 0, 0)), (29, (.iinc 1 1, 32, 1, 0, 0, 1)), (32, (.goto (-30), 35, 2, 0, 0, 0)), (35, (.return_, 36, 0, 0, 0, 0))]
def tb_X3_constant : List (Nat × ix_E) := [(0, (.aload_n 0, 1, 0, 0, 0, 0)), (1, (.getfield 22, 4, 3, 3, 61, 0)), (4, (.ireturn, 5, 0, 0, 0, 0))]
def tb_X1_boundToRight : List (Nat × ix_E) := [(0, (.iconst 0, 1, 0, 0, 0, 0)), (1, (.istore_n 1, 2, 1, 0, 0, 0)), (2, (.iconst 0, 3, 0, 0, 0, 0)), (3, (.istore_n 2, 4, 2, 0, 0, 0)), (4, (.iload_n 2, 5, 2, 0, 0, 0)), (5, (.aload_n 0, 6, 0, 0, 0, 0)), (6, (.getfield 11, 9, 0, 1, 94, 0)), (9, (.arraylength, 10, 0, 0, 0, 0)), (10, (.if_icmp .ge 30, 13, 40, 0, 0, 0)), (13, (.iload_n 1, 14, 1, 0, 0, 0)), (14, (.aload_n 0, 15, 0, 0, 0, 0)), (15, (.getfield 11, 18, 0, 1, 94, 0)), (18, (.iload_n 2, 19, 2, 0, 0, 0)), (19, (.iaload, 20, 0, 0, 0, 0)), (20, (.aload_n 0, 21, 0, 0, 0, 0)), (21, (.getfield 11, 24, 0, 1, 94, 0)), (24, (.iload_n 2, 25, 2, 0, 0, 0)), (25, (.iaload, 26, 0, 0, 0, 0)), (26, (.iconst 1, 27, 0, 0, 0, 1)), (27, (.ishr, 28, 0, 0, 0, 0)), (28, (.iand, 29, 0, 0, 0, 0)), (29, (.ldc 61, 31, 0, 0, 375, (-541201))), (31, (.iand, 32, 0, 0, 0, 0)), (32, (.ior, 33, 0, 0, 0, 0)), (33, (.istore_n 1, 34, 1, 0, 0, 0)), (34, (.iinc 2 1, 37, 2, 0, 0, 1)), (37, (.goto (-33), 40, 4, 0, 0, 0)), (40, (.iload_n 1, 41, 1, 0, 0, 0)), (41, (.ireturn, 42, 0, 0, 0, 0))]
def tb_X1_boundToBelow : List (Nat × ix_E) := [(0, (.iconst 0, 1, 0, 0, 0, 0)), (1, (.istore_n 1, 2, 1, 0, 0, 0)), (2, (.iconst 0, 3, 0, 0, 0, 0)), (3, (.istore_n 2, 4, 2, 0, 0, 0)), (4, (.iload_n 2, 5, 2, 0, 0, 0)), (5, (.aload_n 0, 6, 0, 0, 0, 0)), (6, (.getfield 11, 9, 0, 1, 94, 0)), (9, (.arraylength, 10, 0, 0, 0, 0)), (10, (.if_icmp .ge 27, 13, 37, 0, 0, 0)), (13, (.iload_n 1, 14, 1, 0, 0, 0)), (14, (.aload_n 0, 15, 0, 0, 0, 0)), (15, (.getfield 11, 18, 0, 1, 94, 0)), (18, (.iload_n 2, 19, 2, 0, 0, 0)), (19, (.iaload, 20, 0, 0, 0, 0)), (20, (.aload_n 0, 21, 0, 0, 0, 0)), (21, (.getfield 11, 24, 0, 1, 94, 0)), (24, (.iload_n 2, 25, 2, 0, 0, 0)), (25, (.iaload, 26, 0, 0, 0, 0)), (26, (.iconst 5, 27, 0, 0, 0, 5)), (27, (.ishr, 28, 0, 0, 0, 0)), (28, (.iand, 29, 0, 0, 0, 0)), (29, (.ior, 30, 0, 0, 0, 0)), (30, (.istore_n 1, 31, 1, 0, 0, 0)), (31, (.iinc 2 1, 34, 2, 0, 0, 1)), (34, (.goto (-30), 37, 4, 0, 0, 0)), (37, (.iload_n 1, 38, 1, 0, 0, 0)), (38, (.ireturn, 39, 0, 0, 0, 0))]
def tb_X1_cellsOfChains : List (Nat × ix_E) := [(0, (.iconst 0, 1, 0, 0, 0, 0)), (1, (.istore_n 1, 2, 1, 0, 0, 0)), (2, (.iconst 0, 3, 0, 0, 0, 0)), (3, (.istore_n 2, 4, 2, 0, 0, 0)), (4, (.iload_n 2, 5, 2, 0, 0, 0)), (5, (.aload_n 0, 6, 0, 0, 0, 0)), (6, (.getfield 11, 9, 0, 1, 94, 0)), (9, (.arraylength, 10, 0, 0, 0, 0)), (10, (.if_icmp .ge 18, 13, 28, 0, 0, 0)), (13, (.iload_n 1, 14, 1, 0, 0, 0)), (14, (.aload_n 0, 15, 0, 0, 0, 0)), (15, (.getfield 11, 18, 0, 1, 94, 0)), (18, (.iload_n 2, 19, 2, 0, 0, 0)), (19, (.iaload, 20, 0, 0, 0, 0)), (20, (.ior, 21, 0, 0, 0, 0)), (21, (.istore_n 1, 22, 1, 0, 0, 0)), (22, (.iinc 2 1, 25, 2, 0, 0, 1)), (25, (.goto (-21), 28, 4, 0, 0, 0)), (28, (.iload_n 1, 29, 1, 0, 0, 0)), (29, (.ireturn, 30, 0, 0, 0, 0))]
def tb_X4_isIn : List (Nat × ix_E) := [(0, (.iload_n 0, 1, 0, 0, 0, 0)), (1, (.iload_n 1, 2, 1, 0, 0, 0)), (2, (.ishr, 3, 0, 0, 0, 0)), (3, (.iconst 1, 4, 0, 0, 0, 1)), (4, (.iand, 5, 0, 0, 0, 0)), (5, (.ifCond .eq 7, 8, 12, 0, 0, 0)), (8, (.iconst 1, 9, 0, 0, 0, 1)), (9, (.goto 4, 12, 13, 0, 0, 0)), (12, (.iconst 0, 13, 0, 0, 0, 0)), (13, (.ireturn, 14, 0, 0, 0, 0))]
def tb_X0_listCells : List (Nat × ix_E) := [(0, (.aload_n 0, 1, 0, 0, 0, 0)), (1, (.iconst 0, 2, 0, 0, 0, 0)), (2, (.putfield 24, 5, 4, 0, 111, 0)), (5, (.iconst 0, 6, 0, 0, 0, 0)), (6, (.istore_n 2, 7, 2, 0, 0, 0)), (7, (.iload_n 2, 8, 2, 0, 0, 0)), (8, (.bipush 20, 10, 0, 0, 0, 20)), (10, (.if_icmp .ge 49, 13, 59, 0, 0, 0)), (13, (.iload_n 1, 14, 1, 0, 0, 0)), (14, (.iload_n 2, 15, 2, 0, 0, 0)), (15, (.invokestatic 89, 18, 5, 1, 425, 0)), (18, (.ifCond .eq 35, 21, 53, 0, 0, 0)), (21, (.aload_n 0, 22, 0, 0, 0, 0)), (22, (.getfield 24, 25, 4, 0, 111, 0)), (25, (.aload_n 0, 26, 0, 0, 0, 0)), (26, (.getfield 21, 29, 3, 0, 110, 0)), (29, (.arraylength, 30, 0, 0, 0, 0)), (30, (.if_icmp .ge 23, 33, 53, 0, 0, 0)), (33, (.aload_n 0, 34, 0, 0, 0, 0)), (34, (.getfield 21, 37, 3, 0, 110, 0)), (37, (.aload_n 0, 38, 0, 0, 0, 0)), (38, (.getfield 24, 41, 4, 0, 111, 0)), (41, (.iload_n 2, 42, 2, 0, 0, 0)), (42, (.iastore, 43, 0, 0, 0, 0)), (43, (.aload_n 0, 44, 0, 0, 0, 0)), (44, (.dup, 45, 0, 0, 0, 0)), (45, (.getfield 24, 48, 4, 0, 111, 0)), (48, (.iconst 1, 49, 0, 0, 0, 1)), (49, (.iadd, 50, 0, 0, 0, 0)), (50, (.putfield 24, 53, 4, 0, 111, 0)), (53, (.iinc 2 1, 56, 2, 0, 0, 1)), (56, (.goto (-49), 59, 7, 0, 0, 0)), (59, (.return_, 60, 0, 0, 0, 0))]
def tb_X3_size : List (Nat × ix_E) := [(0, (.aload_n 0, 1, 0, 0, 0, 0)), (1, (.getfield 18, 4, 2, 3, 60, 0)), (4, (.ireturn, 5, 0, 0, 0, 0))]
def tb_J6_numberOfTrailingZeros_0f7a4 : List (Nat × ix_E) := [(0, (.iload_n 0, 1, 0, 0, 0, 0)), (1, (.iconst (-1), 2, 0, 0, 0, (-1))), (2, (.ixor, 3, 0, 0, 0, 0)), (3, (.iload_n 0, 4, 0, 0, 0, 0)), (4, (.iconst 1, 5, 0, 0, 0, 1)), (5, (.isub, 6, 0, 0, 0, 0)), (6, (.iand, 7, 0, 0, 0, 0)), (7, (.istore_n 0, 8, 0, 0, 0, 0)), (8, (.iload_n 0, 9, 0, 0, 0, 0)), (9, (.ifCond .gt 8, 12, 17, 0, 0, 0)), (12, (.iload_n 0, 13, 0, 0, 0, 0)), (13, (.bipush 32, 15, 0, 0, 0, 32)), (15, (.iand, 16, 0, 0, 0, 0)), (16, (.ireturn, 17, 0, 0, 0, 0)), (17, (.iconst 1, 18, 0, 0, 0, 1)), (18, (.istore_n 1, 19, 1, 0, 0, 0)), (19, (.iload_n 0, 20, 0, 0, 0, 0)), (20, (.ldc_w 264, 23, 0, 0, 263, 65536)), (23, (.if_icmp .le 11, 26, 34, 0, 0, 0)), (26, (.iinc 1 16, 29, 1, 0, 0, 16)), (29, (.iload_n 0, 30, 0, 0, 0, 0)), (30, (.bipush 16, 32, 0, 0, 0, 16)), (32, (.iushr, 33, 0, 0, 0, 0)), (33, (.istore_n 0, 34, 0, 0, 0, 0)), (34, (.iload_n 0, 35, 0, 0, 0, 0)), (35, (.sipush 256, 38, 0, 0, 0, 256)), (38, (.if_icmp .le 11, 41, 49, 0, 0, 0)), (41, (.iinc 1 8, 44, 1, 0, 0, 8)), (44, (.iload_n 0, 45, 0, 0, 0, 0)), (45, (.bipush 8, 47, 0, 0, 0, 8)), (47, (.iushr, 48, 0, 0, 0, 0)), (48, (.istore_n 0, 49, 0, 0, 0, 0)), (49, (.iload_n 0, 50, 0, 0, 0, 0)), (50, (.bipush 16, 52, 0, 0, 0, 16)), (52, (.if_icmp .le 10, 55, 62, 0, 0, 0)), (55, (.iinc 1 4, 58, 1, 0, 0, 4)), (58, (.iload_n 0, 59, 0, 0, 0, 0)), (59, (.iconst 4, 60, 0, 0, 0, 4)), (60, (.iushr, 61, 0, 0, 0, 0)), (61, (.istore_n 0, 62, 0, 0, 0, 0)), (62, (.iload_n 0, 63, 0, 0, 0, 0)), (63, (.iconst 4, 64, 0, 0, 0, 4)), (64, (.if_icmp .le 10, 67, 74, 0, 0, 0)), (67, (.iinc 1 2, 70, 1, 0, 0, 2)), (70, (.iload_n 0, 71, 0, 0, 0, 0)), (71, (.iconst 2, 72, 0, 0, 0, 2)), (72, (.iushr, 73, 0, 0, 0, 0)), (73, (.istore_n 0, 74, 0, 0, 0, 0)), (74, (.iload_n 1, 75, 1, 0, 0, 0)), (75, (.iload_n 0, 76, 0, 0, 0, 0)), (76, (.iconst 1, 77, 0, 0, 0, 1)), (77, (.iushr, 78, 0, 0, 0, 0)), (78, (.iadd, 79, 0, 0, 0, 0)), (79, (.ireturn, 80, 0, 0, 0, 0))]
def tb_X1_leastCellOf : List (Nat × ix_E) := [(0, (.aload_n 0, 1, 0, 0, 0, 0)), (1, (.getfield 11, 4, 0, 1, 94, 0)), (4, (.iload_n 1, 5, 1, 0, 0, 0)), (5, (.iaload, 6, 0, 0, 0, 0)), (6, (.invokestatic 55, 9, 8, 0, 391, 0)), (9, (.ireturn, 10, 0, 0, 0, 0))]
def tb_X3_place : List (Nat × ix_E) := [(0, (.iload_n 0, 1, 0, 0, 0, 0)), (1, (.bipush 8, 3, 0, 0, 0, 8)), (3, (.imul, 4, 0, 0, 0, 0)), (4, (.iload_n 1, 5, 1, 0, 0, 0)), (5, (.iadd, 6, 0, 0, 0, 0)), (6, (.ireturn, 7, 0, 0, 0, 0))]
def tb_X3_between : List (Nat × ix_E) := [(0, (.aload_n 0, 1, 0, 0, 0, 0)), (1, (.getfield 9, 4, 0, 3, 58, 0)), (4, (.iload_n 1, 5, 1, 0, 0, 0)), (5, (.iload_n 2, 6, 2, 0, 0, 0)), (6, (.invokestatic 25, 9, 10, 0, 187, 0)), (9, (.iaload, 10, 0, 0, 0, 0)), (10, (.ireturn, 11, 0, 0, 0, 0))]
def tb_X4_isWithin : List (Nat × ix_E) := [(0, (.iload_n 0, 1, 0, 0, 0, 0)), (1, (.iload_n 1, 2, 1, 0, 0, 0)), (2, (.if_icmp .lt 12, 5, 14, 0, 0, 0)), (5, (.iload_n 0, 6, 0, 0, 0, 0)), (6, (.iload_n 2, 7, 2, 0, 0, 0)), (7, (.if_icmp .gt 7, 10, 14, 0, 0, 0)), (10, (.iconst 1, 11, 0, 0, 0, 1)), (11, (.goto 4, 14, 15, 0, 0, 0)), (14, (.iconst 0, 15, 0, 0, 0, 0)), (15, (.ireturn, 16, 0, 0, 0, 0))]
def tb_X0_addOwn : List (Nat × ix_E) := [(0, (.iload_n 1, 1, 1, 0, 0, 0)), (1, (.iconst 0, 2, 0, 0, 0, 0)), (2, (.bipush 19, 4, 0, 0, 0, 19)), (4, (.invokestatic 98, 7, 12, 1, 436, 0)), (7, (.ifCond .eq 10, 10, 17, 0, 0, 0)), (10, (.aload_n 0, 11, 0, 0, 0, 0)), (11, (.getfield 9, 14, 0, 0, 107, 0)), (14, (.iload_n 1, 15, 1, 0, 0, 0)), (15, (.iload_n 2, 16, 2, 0, 0, 0)), (16, (.iastore, 17, 0, 0, 0, 0)), (17, (.return_, 18, 0, 0, 0, 0))]
def tb_X1_neighboursOf : List (Nat × ix_E) := [(0, (.iload_n 0, 1, 0, 0, 0, 0)), (1, (.ldc 72, 3, 0, 0, 374, (-33826))), (3, (.iand, 4, 0, 0, 0, 0)), (4, (.iconst 1, 5, 0, 0, 0, 1)), (5, (.ishr, 6, 0, 0, 0, 0)), (6, (.istore_n 1, 7, 1, 0, 0, 0)), (7, (.iload_n 0, 8, 0, 0, 0, 0)), (8, (.ldc 61, 10, 0, 0, 375, (-541201))), (10, (.iand, 11, 0, 0, 0, 0)), (11, (.iconst 1, 12, 0, 0, 0, 1)), (12, (.ishl, 13, 0, 0, 0, 0)), (13, (.istore_n 2, 14, 2, 0, 0, 0)), (14, (.iload_n 0, 15, 0, 0, 0, 0)), (15, (.iconst 5, 16, 0, 0, 0, 5)), (16, (.ishr, 17, 0, 0, 0, 0)), (17, (.istore_n 3, 18, 3, 0, 0, 0)), (18, (.iload_n 0, 19, 0, 0, 0, 0)), (19, (.iconst 5, 20, 0, 0, 0, 5)), (20, (.ishl, 21, 0, 0, 0, 0)), (21, (.ldc 73, 23, 0, 0, 376, 1048575)), (23, (.iand, 24, 0, 0, 0, 0)), (24, (.istore 4, 26, 4, 0, 0, 0)), (26, (.iload_n 1, 27, 1, 0, 0, 0)), (27, (.iload_n 2, 28, 2, 0, 0, 0)), (28, (.ior, 29, 0, 0, 0, 0)), (29, (.iload_n 3, 30, 3, 0, 0, 0)), (30, (.ior, 31, 0, 0, 0, 0)), (31, (.iload 4, 33, 4, 0, 0, 0)), (33, (.ior, 34, 0, 0, 0, 0)), (34, (.ireturn, 35, 0, 0, 0, 0))]
def tb_X1_linkFrom : List (Nat × ix_E) := [(0, (.aload_n 0, 1, 0, 0, 0, 0)), (1, (.getfield 11, 4, 0, 1, 94, 0)), (4, (.iload_n 1, 5, 1, 0, 0, 0)), (5, (.iaload, 6, 0, 0, 0, 0)), (6, (.aload_n 0, 7, 0, 0, 0, 0)), (7, (.getfield 11, 10, 0, 1, 94, 0)), (10, (.iload_n 2, 11, 2, 0, 0, 0)), (11, (.iaload, 12, 0, 0, 0, 0)), (12, (.invokestatic 52, 15, 14, 0, 371, 0)), (15, (.iand, 16, 0, 0, 0, 0)), (16, (.invokestatic 55, 19, 8, 0, 391, 0)), (19, (.ireturn, 20, 0, 0, 0, 0))]
def tb_X1_linkTo : List (Nat × ix_E) := [(0, (.aload_n 0, 1, 0, 0, 0, 0)), (1, (.getfield 11, 4, 0, 1, 94, 0)), (4, (.iload_n 2, 5, 2, 0, 0, 0)), (5, (.iaload, 6, 0, 0, 0, 0)), (6, (.iconst 1, 7, 0, 0, 0, 1)), (7, (.iload_n 1, 8, 1, 0, 0, 0)), (8, (.ishl, 9, 0, 0, 0, 0)), (9, (.invokestatic 52, 12, 14, 0, 371, 0)), (12, (.iand, 13, 0, 0, 0, 0)), (13, (.invokestatic 55, 16, 8, 0, 391, 0)), (16, (.ireturn, 17, 0, 0, 0, 0))]
def tb_J9_min_7cf53 : List (Nat × ix_E) := [(0, (.iload_n 0, 1, 0, 0, 0, 0)), (1, (.iload_n 1, 2, 1, 0, 0, 0)), (2, (.if_icmp .gt 7, 5, 9, 0, 0, 0)), (5, (.iload_n 0, 6, 0, 0, 0, 0)), (6, (.goto 4, 9, 10, 0, 0, 0)), (9, (.iload_n 1, 10, 1, 0, 0, 0)), (10, (.ireturn, 11, 0, 0, 0, 0))]
def tb_J9_max_7cf53 : List (Nat × ix_E) := [(0, (.iload_n 0, 1, 0, 0, 0, 0)), (1, (.iload_n 1, 2, 1, 0, 0, 0)), (2, (.if_icmp .lt 7, 5, 9, 0, 0, 0)), (5, (.iload_n 0, 6, 0, 0, 0, 0)), (6, (.goto 4, 9, 10, 0, 0, 0)), (9, (.iload_n 1, 10, 1, 0, 0, 0)), (10, (.ireturn, 11, 0, 0, 0, 0))]
def tb_X0_addLink : List (Nat × ix_E) := [(0, (.iload_n 1, 1, 1, 0, 0, 0)), (1, (.iload_n 2, 2, 2, 0, 0, 0)), (2, (.invokestatic 102, 5, 17, 0, 443, 0)), (5, (.istore 4, 7, 4, 0, 0, 0)), (7, (.iload 4, 9, 4, 0, 0, 0)), (9, (.iconst 0, 10, 0, 0, 0, 0)), (10, (.bipush 19, 12, 0, 0, 0, 19)), (12, (.invokestatic 98, 15, 12, 1, 436, 0)), (15, (.ifCond .ne 4, 18, 19, 0, 0, 0)), (18, (.return_, 19, 0, 0, 0, 0)), (19, (.iload_n 1, 20, 1, 0, 0, 0)), (20, (.iload_n 2, 21, 2, 0, 0, 0)), (21, (.invokestatic 107, 24, 18, 0, 444, 0)), (24, (.iload 4, 26, 4, 0, 0, 0)), (26, (.iconst 1, 27, 0, 0, 0, 1)), (27, (.iadd, 28, 0, 0, 0, 0)), (28, (.if_icmp .ne 14, 31, 42, 0, 0, 0)), (31, (.aload_n 0, 32, 0, 0, 0, 0)), (32, (.getfield 15, 35, 1, 0, 108, 0)), (35, (.iload 4, 37, 4, 0, 0, 0)), (37, (.iload_n 3, 38, 3, 0, 0, 0)), (38, (.iastore, 39, 0, 0, 0, 0)), (39, (.goto 11, 42, 50, 0, 0, 0)), (42, (.aload_n 0, 43, 0, 0, 0, 0)), (43, (.getfield 18, 46, 2, 0, 109, 0)), (46, (.iload 4, 48, 4, 0, 0, 0)), (48, (.iload_n 3, 49, 3, 0, 0, 0)), (49, (.iastore, 50, 0, 0, 0, 0)), (50, (.return_, 51, 0, 0, 0, 0))]
def tb_X0_layOut : List (Nat × ix_E) := [(0, (.aload_n 0, 1, 0, 0, 0, 0)), (1, (.invokevirtual 37, 4, 0, 0, 404, 0)), (4, (.aload_n 0, 5, 0, 0, 0, 0)), (5, (.aload_n 1, 6, 1, 0, 0, 0)), (6, (.invokevirtual 40, 9, 1, 0, 408, 0)), (9, (.putfield 28, 12, 5, 0, 112, 0)), (12, (.aload_n 0, 13, 0, 0, 0, 0)), (13, (.aload_n 2, 14, 2, 0, 0, 0)), (14, (.invokevirtual 45, 17, 2, 0, 412, 0)), (17, (.putfield 31, 20, 6, 0, 113, 0)), (20, (.aload_n 0, 21, 0, 0, 0, 0)), (21, (.aload_n 2, 22, 2, 0, 0, 0)), (22, (.invokevirtual 47, 25, 3, 0, 416, 0)), (25, (.putfield 34, 28, 7, 0, 114, 0)), (28, (.aload_n 0, 29, 0, 0, 0, 0)), (29, (.aload_n 2, 30, 2, 0, 0, 0)), (30, (.invokevirtual 49, 33, 4, 0, 420, 0)), (33, (.invokevirtual 52, 36, 6, 0, 421, 0)), (36, (.iconst 0, 37, 0, 0, 0, 0)), (37, (.istore_n 3, 38, 3, 0, 0, 0)), (38, (.iload_n 3, 39, 3, 0, 0, 0)), (39, (.aload_n 1, 40, 1, 0, 0, 0)), (40, (.invokevirtual 56, 43, 7, 0, 426, 0)), (43, (.if_icmp .ge 84, 46, 127, 0, 0, 0)), (46, (.aload_n 0, 47, 0, 0, 0, 0)), (47, (.aload_n 2, 48, 2, 0, 0, 0)), (48, (.iload_n 3, 49, 3, 0, 0, 0)), (49, (.invokevirtual 59, 52, 9, 0, 427, 0)), (52, (.aload_n 1, 53, 1, 0, 0, 0)), (53, (.iload_n 3, 54, 3, 0, 0, 0)), (54, (.iload_n 3, 55, 3, 0, 0, 0)), (55, (.invokevirtual 63, 58, 11, 0, 431, 0)), (58, (.invokevirtual 67, 61, 13, 0, 432, 0)), (61, (.iload_n 3, 62, 3, 0, 0, 0)), (62, (.iconst 1, 63, 0, 0, 0, 1)), (63, (.iadd, 64, 0, 0, 0, 0)), (64, (.istore 4, 66, 4, 0, 0, 0)), (66, (.iload 4, 68, 4, 0, 0, 0)), (68, (.aload_n 1, 69, 1, 0, 0, 0)), (69, (.invokevirtual 56, 72, 7, 0, 426, 0)), (72, (.if_icmp .ge 49, 75, 121, 0, 0, 0)), (75, (.aload_n 1, 76, 1, 0, 0, 0)), (76, (.iload_n 3, 77, 3, 0, 0, 0)), (77, (.iload 4, 79, 4, 0, 0, 0)), (79, (.invokevirtual 63, 82, 11, 0, 431, 0)), (82, (.ifCond .eq 33, 85, 115, 0, 0, 0)), (85, (.aload_n 2, 86, 2, 0, 0, 0)), (86, (.iload_n 3, 87, 3, 0, 0, 0)), (87, (.iload 4, 89, 4, 0, 0, 0)), (89, (.invokevirtual 71, 92, 15, 0, 437, 0)), (92, (.istore 5, 94, 5, 0, 0, 0)), (94, (.aload_n 0, 95, 0, 0, 0, 0)), (95, (.iload 5, 97, 5, 0, 0, 0)), (97, (.aload_n 2, 98, 2, 0, 0, 0)), (98, (.iload 5, 100, 5, 0, 0, 0)), (100, (.iload 4, 102, 4, 0, 0, 0)), (102, (.invokevirtual 74, 105, 16, 0, 438, 0)), (105, (.aload_n 1, 106, 1, 0, 0, 0)), (106, (.iload_n 3, 107, 3, 0, 0, 0)), (107, (.iload 4, 109, 4, 0, 0, 0)), (109, (.invokevirtual 63, 112, 11, 0, 431, 0)), (112, (.invokevirtual 77, 115, 19, 0, 439, 0)), (115, (.iinc 4 1, 118, 4, 0, 0, 1)), (118, (.goto (-52), 121, 66, 0, 0, 0)), (121, (.iinc 3 1, 124, 3, 0, 0, 1)), (124, (.goto (-86), 127, 38, 0, 0, 0)), (127, (.return_, 128, 0, 0, 0, 0))]
def tb_X0_gainOf : List (Nat × ix_E) := [(0, (.aload_n 0, 1, 0, 0, 0, 0)), (1, (.getfield 9, 4, 0, 0, 107, 0)), (4, (.iload_n 1, 5, 1, 0, 0, 0)), (5, (.iaload, 6, 0, 0, 0, 0)), (6, (.istore_n 3, 7, 3, 0, 0, 0)), (7, (.iload_n 2, 8, 2, 0, 0, 0)), (8, (.iload_n 1, 9, 1, 0, 0, 0)), (9, (.iconst 1, 10, 0, 0, 0, 1)), (10, (.iadd, 11, 0, 0, 0, 0)), (11, (.invokestatic 89, 14, 5, 1, 425, 0)), (14, (.ifCond .eq 12, 17, 26, 0, 0, 0)), (17, (.iload_n 3, 18, 3, 0, 0, 0)), (18, (.aload_n 0, 19, 0, 0, 0, 0)), (19, (.getfield 15, 22, 1, 0, 108, 0)), (22, (.iload_n 1, 23, 1, 0, 0, 0)), (23, (.iaload, 24, 0, 0, 0, 0)), (24, (.iadd, 25, 0, 0, 0, 0)), (25, (.istore_n 3, 26, 3, 0, 0, 0)), (26, (.iload_n 2, 27, 2, 0, 0, 0)), (27, (.iload_n 1, 28, 1, 0, 0, 0)), (28, (.iconst 5, 29, 0, 0, 0, 5)), (29, (.iadd, 30, 0, 0, 0, 0)), (30, (.invokestatic 89, 33, 5, 1, 425, 0)), (33, (.ifCond .eq 12, 36, 45, 0, 0, 0)), (36, (.iload_n 3, 37, 3, 0, 0, 0)), (37, (.aload_n 0, 38, 0, 0, 0, 0)), (38, (.getfield 18, 41, 2, 0, 109, 0)), (41, (.iload_n 1, 42, 1, 0, 0, 0)), (42, (.iaload, 43, 0, 0, 0, 0)), (43, (.iadd, 44, 0, 0, 0, 0)), (44, (.istore_n 3, 45, 3, 0, 0, 0)), (45, (.iload_n 1, 46, 1, 0, 0, 0)), (46, (.iconst 1, 47, 0, 0, 0, 1)), (47, (.if_icmp .lt 24, 50, 71, 0, 0, 0)), (50, (.iload_n 2, 51, 2, 0, 0, 0)), (51, (.iload_n 1, 52, 1, 0, 0, 0)), (52, (.iconst 1, 53, 0, 0, 0, 1)), (53, (.isub, 54, 0, 0, 0, 0)), (54, (.invokestatic 89, 57, 5, 1, 425, 0)), (57, (.ifCond .eq 14, 60, 71, 0, 0, 0)), (60, (.iload_n 3, 61, 3, 0, 0, 0)), (61, (.aload_n 0, 62, 0, 0, 0, 0)), (62, (.getfield 15, 65, 1, 0, 108, 0)), (65, (.iload_n 1, 66, 1, 0, 0, 0)), (66, (.iconst 1, 67, 0, 0, 0, 1)), (67, (.isub, 68, 0, 0, 0, 0)), (68, (.iaload, 69, 0, 0, 0, 0)), (69, (.iadd, 70, 0, 0, 0, 0)), (70, (.istore_n 3, 71, 3, 0, 0, 0)), (71, (.iload_n 1, 72, 1, 0, 0, 0)), (72, (.iconst 5, 73, 0, 0, 0, 5)), (73, (.if_icmp .lt 24, 76, 97, 0, 0, 0)), (76, (.iload_n 2, 77, 2, 0, 0, 0)), (77, (.iload_n 1, 78, 1, 0, 0, 0)), (78, (.iconst 5, 79, 0, 0, 0, 5)), (79, (.isub, 80, 0, 0, 0, 0)), (80, (.invokestatic 89, 83, 5, 1, 425, 0)), (83, (.ifCond .eq 14, 86, 97, 0, 0, 0)), (86, (.iload_n 3, 87, 3, 0, 0, 0)), (87, (.aload_n 0, 88, 0, 0, 0, 0)), (88, (.getfield 18, 91, 2, 0, 109, 0)), (91, (.iload_n 1, 92, 1, 0, 0, 0)), (92, (.iconst 5, 93, 0, 0, 0, 5)), (93, (.isub, 94, 0, 0, 0, 0)), (94, (.iaload, 95, 0, 0, 0, 0)), (95, (.iadd, 96, 0, 0, 0, 0)), (96, (.istore_n 3, 97, 3, 0, 0, 0)), (97, (.iload_n 3, 98, 3, 0, 0, 0)), (98, (.ireturn, 99, 0, 0, 0, 0))]
def tb_J6_bitCount_0f7a4 : List (Nat × ix_E) := [(0, (.iload_n 0, 1, 0, 0, 0, 0)), (1, (.iload_n 0, 2, 0, 0, 0, 0)), (2, (.iconst 1, 3, 0, 0, 0, 1)), (3, (.iushr, 4, 0, 0, 0, 0)), (4, (.ldc_w 265, 7, 0, 0, 229, 1431655765)), (7, (.iand, 8, 0, 0, 0, 0)), (8, (.isub, 9, 0, 0, 0, 0)), (9, (.istore_n 0, 10, 0, 0, 0, 0)), (10, (.iload_n 0, 11, 0, 0, 0, 0)), (11, (.ldc_w 266, 14, 0, 0, 230, 858993459)), (14, (.iand, 15, 0, 0, 0, 0)), (15, (.iload_n 0, 16, 0, 0, 0, 0)), (16, (.iconst 2, 17, 0, 0, 0, 2)), (17, (.iushr, 18, 0, 0, 0, 0)), (18, (.ldc_w 266, 21, 0, 0, 230, 858993459)), (21, (.iand, 22, 0, 0, 0, 0)), (22, (.iadd, 23, 0, 0, 0, 0)), (23, (.istore_n 0, 24, 0, 0, 0, 0)), (24, (.iload_n 0, 25, 0, 0, 0, 0)), (25, (.iload_n 0, 26, 0, 0, 0, 0)), (26, (.iconst 4, 27, 0, 0, 0, 4)), (27, (.iushr, 28, 0, 0, 0, 0)), (28, (.iadd, 29, 0, 0, 0, 0)), (29, (.ldc_w 267, 32, 0, 0, 231, 252645135)), (32, (.iand, 33, 0, 0, 0, 0)), (33, (.istore_n 0, 34, 0, 0, 0, 0)), (34, (.iload_n 0, 35, 0, 0, 0, 0)), (35, (.iload_n 0, 36, 0, 0, 0, 0)), (36, (.bipush 8, 38, 0, 0, 0, 8)), (38, (.iushr, 39, 0, 0, 0, 0)), (39, (.iadd, 40, 0, 0, 0, 0)), (40, (.istore_n 0, 41, 0, 0, 0, 0)), (41, (.iload_n 0, 42, 0, 0, 0, 0)), (42, (.iload_n 0, 43, 0, 0, 0, 0)), (43, (.bipush 16, 45, 0, 0, 0, 16)), (45, (.iushr, 46, 0, 0, 0, 0)), (46, (.iadd, 47, 0, 0, 0, 0)), (47, (.istore_n 0, 48, 0, 0, 0, 0)), (48, (.iload_n 0, 49, 0, 0, 0, 0)), (49, (.bipush 63, 51, 0, 0, 0, 63)), (51, (.iand, 52, 0, 0, 0, 0)), (52, (.ireturn, 53, 0, 0, 0, 0))]
def tb_X0_unlikeNeighbours : List (Nat × ix_E) := [(0, (.iload_n 1, 1, 1, 0, 0, 0)), (1, (.iload_n 1, 2, 1, 0, 0, 0)), (2, (.iconst 1, 3, 0, 0, 0, 1)), (3, (.ishr, 4, 0, 0, 0, 0)), (4, (.ixor, 5, 0, 0, 0, 0)), (5, (.aload_n 0, 6, 0, 0, 0, 0)), (6, (.getfield 31, 9, 6, 0, 113, 0)), (9, (.iand, 10, 0, 0, 0, 0)), (10, (.istore_n 2, 11, 2, 0, 0, 0)), (11, (.iload_n 1, 12, 1, 0, 0, 0)), (12, (.iload_n 1, 13, 1, 0, 0, 0)), (13, (.iconst 5, 14, 0, 0, 0, 5)), (14, (.ishr, 15, 0, 0, 0, 0)), (15, (.ixor, 16, 0, 0, 0, 0)), (16, (.aload_n 0, 17, 0, 0, 0, 0)), (17, (.getfield 34, 20, 7, 0, 114, 0)), (20, (.iand, 21, 0, 0, 0, 0)), (21, (.istore_n 3, 22, 3, 0, 0, 0)), (22, (.iload_n 2, 23, 2, 0, 0, 0)), (23, (.invokestatic 110, 26, 22, 0, 458, 0)), (26, (.iload_n 3, 27, 3, 0, 0, 0)), (27, (.invokestatic 110, 30, 22, 0, 458, 0)), (30, (.iadd, 31, 0, 0, 0, 0)), (31, (.ireturn, 32, 0, 0, 0, 0))]
def tb_X0_leastHold : List (Nat × ix_E) := [(0, (.iconst 0, 1, 0, 0, 0, 0)), (1, (.istore_n 2, 2, 2, 0, 0, 0)), (2, (.iconst 0, 3, 0, 0, 0, 0)), (3, (.istore_n 3, 4, 3, 0, 0, 0)), (4, (.aload_n 0, 5, 0, 0, 0, 0)), (5, (.getfield 28, 8, 5, 0, 112, 0)), (8, (.istore 4, 10, 4, 0, 0, 0)), (10, (.iconst 1, 11, 0, 0, 0, 1)), (11, (.istore 5, 13, 5, 0, 0, 0)), (13, (.iload 5, 15, 5, 0, 0, 0)), (15, (.iconst 1, 16, 0, 0, 0, 1)), (16, (.aload_n 0, 17, 0, 0, 0, 0)), (17, (.getfield 24, 20, 4, 0, 111, 0)), (20, (.ishl, 21, 0, 0, 0, 0)), (21, (.if_icmp .ge 92, 24, 113, 0, 0, 0)), (24, (.aload_n 0, 25, 0, 0, 0, 0)), (25, (.getfield 21, 28, 3, 0, 110, 0)), (28, (.iload 5, 30, 5, 0, 0, 0)), (30, (.invokestatic 81, 33, 8, 0, 449, 0)), (33, (.iaload, 34, 0, 0, 0, 0)), (34, (.istore 6, 36, 6, 0, 0, 0)), (36, (.aload_n 0, 37, 0, 0, 0, 0)), (37, (.iload 6, 39, 6, 0, 0, 0)), (39, (.iload_n 3, 40, 3, 0, 0, 0)), (40, (.invokevirtual 86, 43, 21, 0, 450, 0)), (43, (.istore 7, 45, 7, 0, 0, 0)), (45, (.iload 4, 47, 4, 0, 0, 0)), (47, (.iload_n 3, 48, 3, 0, 0, 0)), (48, (.iload 6, 50, 6, 0, 0, 0)), (50, (.invokestatic 89, 53, 5, 1, 425, 0)), (53, (.ifCond .eq 9, 56, 62, 0, 0, 0)), (56, (.iload 7, 58, 7, 0, 0, 0)), (58, (.ineg, 59, 0, 0, 0, 0)), (59, (.goto 5, 62, 64, 0, 0, 0)), (62, (.iload 7, 64, 7, 0, 0, 0)), (64, (.iadd, 65, 0, 0, 0, 0)), (65, (.istore 4, 67, 4, 0, 0, 0)), (67, (.iload_n 3, 68, 3, 0, 0, 0)), (68, (.iconst 1, 69, 0, 0, 0, 1)), (69, (.iload 6, 71, 6, 0, 0, 0)), (71, (.ishl, 72, 0, 0, 0, 0)), (72, (.ixor, 73, 0, 0, 0, 0)), (73, (.istore_n 3, 74, 3, 0, 0, 0)), (74, (.aload_n 0, 75, 0, 0, 0, 0)), (75, (.iload_n 3, 76, 3, 0, 0, 0)), (76, (.invokevirtual 95, 79, 23, 0, 454, 0)), (79, (.istore 8, 81, 8, 0, 0, 0)), (81, (.iload 8, 83, 8, 0, 0, 0)), (83, (.ifCond .le 24, 86, 107, 0, 0, 0)), (86, (.iload 4, 88, 4, 0, 0, 0)), (88, (.iload_n 2, 89, 2, 0, 0, 0)), (89, (.iload 8, 91, 8, 0, 0, 0)), (91, (.imul, 92, 0, 0, 0, 0)), (92, (.iadd, 93, 0, 0, 0, 0)), (93, (.iload_n 1, 94, 1, 0, 0, 0)), (94, (.if_icmp .gt 13, 97, 107, 0, 0, 0)), (97, (.iload_n 1, 98, 1, 0, 0, 0)), (98, (.iload 4, 100, 4, 0, 0, 0)), (100, (.isub, 101, 0, 0, 0, 0)), (101, (.iload 8, 103, 8, 0, 0, 0)), (103, (.idiv, 104, 0, 0, 0, 0)), (104, (.iconst 1, 105, 0, 0, 0, 1)), (105, (.iadd, 106, 0, 0, 0, 0)), (106, (.istore_n 2, 107, 2, 0, 0, 0)), (107, (.iinc 5 1, 110, 5, 0, 0, 1)), (110, (.goto (-97), 113, 13, 0, 0, 0)), (113, (.iload_n 2, 114, 2, 0, 0, 0)), (114, (.ireturn, 115, 0, 0, 0, 0))]
def tb_X1_isDead : List (Nat × ix_E) := [(0, (.aload_n 0, 1, 0, 0, 0, 0)), (1, (.getfield 15, 4, 1, 1, 95, 0)), (4, (.iload_n 1, 5, 1, 0, 0, 0)), (5, (.invokestatic 19, 8, 5, 1, 325, 0)), (8, (.ireturn, 9, 0, 0, 0, 0))]
def tb_X1_setDead : List (Nat × ix_E) := [(0, (.aload_n 0, 1, 0, 0, 0, 0)), (1, (.iload_n 2, 2, 2, 0, 0, 0)), (2, (.ifCond .eq 14, 5, 16, 0, 0, 0)), (5, (.aload_n 0, 6, 0, 0, 0, 0)), (6, (.getfield 15, 9, 1, 1, 95, 0)), (9, (.iconst 1, 10, 0, 0, 0, 1)), (10, (.iload_n 1, 11, 1, 0, 0, 0)), (11, (.ishl, 12, 0, 0, 0, 0)), (12, (.ior, 13, 0, 0, 0, 0)), (13, (.goto 13, 16, 26, 0, 0, 0)), (16, (.aload_n 0, 17, 0, 0, 0, 0)), (17, (.getfield 15, 20, 1, 1, 95, 0)), (20, (.iconst 1, 21, 0, 0, 0, 1)), (21, (.iload_n 1, 22, 1, 0, 0, 0)), (22, (.ishl, 23, 0, 0, 0, 0)), (23, (.iconst (-1), 24, 0, 0, 0, (-1))), (24, (.ixor, 25, 0, 0, 0, 0)), (25, (.iand, 26, 0, 0, 0, 0)), (26, (.putfield 15, 29, 1, 1, 95, 0)), (29, (.return_, 30, 0, 0, 0, 0))]
def tb_X1_deadCells : List (Nat × ix_E) := [(0, (.aload_n 0, 1, 0, 0, 0, 0)), (1, (.getfield 15, 4, 1, 1, 95, 0)), (4, (.invokestatic 23, 7, 22, 0, 360, 0)), (7, (.ireturn, 8, 0, 0, 0, 0))]
def tb_X1_setChain : List (Nat × ix_E) := [(0, (.aload_n 0, 1, 0, 0, 0, 0)), (1, (.getfield 11, 4, 0, 1, 94, 0)), (4, (.iload_n 1, 5, 1, 0, 0, 0)), (5, (.iload_n 2, 6, 2, 0, 0, 0)), (6, (.iastore, 7, 0, 0, 0, 0)), (7, (.return_, 8, 0, 0, 0, 0))]
def tb_X1_forgetChains : List (Nat × ix_E) := [(0, (.iconst 0, 1, 0, 0, 0, 0)), (1, (.istore_n 1, 2, 1, 0, 0, 0)), (2, (.iload_n 1, 3, 1, 0, 0, 0)), (3, (.aload_n 0, 4, 0, 0, 0, 0)), (4, (.getfield 11, 7, 0, 1, 94, 0)), (7, (.arraylength, 8, 0, 0, 0, 0)), (8, (.if_icmp .ge 16, 11, 24, 0, 0, 0)), (11, (.aload_n 0, 12, 0, 0, 0, 0)), (12, (.getfield 11, 15, 0, 1, 94, 0)), (15, (.iload_n 1, 16, 1, 0, 0, 0)), (16, (.iconst 0, 17, 0, 0, 0, 0)), (17, (.iastore, 18, 0, 0, 0, 0)), (18, (.iinc 1 1, 21, 1, 0, 0, 1)), (21, (.goto (-19), 24, 2, 0, 0, 0)), (24, (.return_, 25, 0, 0, 0, 0))]
def tb_X1_chainLengths : List (Nat × ix_E) := [(0, (.iconst 0, 1, 0, 0, 0, 0)), (1, (.istore_n 1, 2, 1, 0, 0, 0)), (2, (.iconst 0, 3, 0, 0, 0, 0)), (3, (.istore_n 2, 4, 2, 0, 0, 0)), (4, (.iload_n 2, 5, 2, 0, 0, 0)), (5, (.aload_n 0, 6, 0, 0, 0, 0)), (6, (.getfield 11, 9, 0, 1, 94, 0)), (9, (.arraylength, 10, 0, 0, 0, 0)), (10, (.if_icmp .ge 21, 13, 31, 0, 0, 0)), (13, (.iload_n 1, 14, 1, 0, 0, 0)), (14, (.aload_n 0, 15, 0, 0, 0, 0)), (15, (.getfield 11, 18, 0, 1, 94, 0)), (18, (.iload_n 2, 19, 2, 0, 0, 0)), (19, (.iaload, 20, 0, 0, 0, 0)), (20, (.invokestatic 23, 23, 22, 0, 360, 0)), (23, (.iadd, 24, 0, 0, 0, 0)), (24, (.istore_n 1, 25, 1, 0, 0, 0)), (25, (.iinc 2 1, 28, 2, 0, 0, 1)), (28, (.goto (-24), 31, 4, 0, 0, 0)), (31, (.iload_n 1, 32, 1, 0, 0, 0)), (32, (.ireturn, 33, 0, 0, 0, 0))]
def tb_X1_isAnyEmpty : List (Nat × ix_E) := [(0, (.iconst 0, 1, 0, 0, 0, 0)), (1, (.istore_n 2, 2, 2, 0, 0, 0)), (2, (.iload_n 2, 3, 2, 0, 0, 0)), (3, (.iload_n 1, 4, 1, 0, 0, 0)), (4, (.if_icmp .ge 20, 7, 24, 0, 0, 0)), (7, (.aload_n 0, 8, 0, 0, 0, 0)), (8, (.getfield 11, 11, 0, 1, 94, 0)), (11, (.iload_n 2, 12, 2, 0, 0, 0)), (12, (.iaload, 13, 0, 0, 0, 0)), (13, (.ifCond .ne 5, 16, 18, 0, 0, 0)), (16, (.iconst 1, 17, 0, 0, 0, 1)), (17, (.ireturn, 18, 0, 0, 0, 0)), (18, (.iinc 2 1, 21, 2, 0, 0, 1)), (21, (.goto (-19), 24, 2, 0, 0, 0)), (24, (.iconst 0, 25, 0, 0, 0, 0)), (25, (.ireturn, 26, 0, 0, 0, 0))]
def tb_J6_lowestOneBit_0f7a4 : List (Nat × ix_E) := [(0, (.iload_n 0, 1, 0, 0, 0, 0)), (1, (.iload_n 0, 2, 0, 0, 0, 0)), (2, (.ineg, 3, 0, 0, 0, 0)), (3, (.iand, 4, 0, 0, 0, 0)), (4, (.ireturn, 5, 0, 0, 0, 0))]
def tb_X1_hangsTogether : List (Nat × ix_E) := [(0, (.iload_n 0, 1, 0, 0, 0, 0)), (1, (.invokestatic 69, 4, 32, 0, 368, 0)), (4, (.istore_n 1, 5, 1, 0, 0, 0)), (5, (.iconst 0, 6, 0, 0, 0, 0)), (6, (.istore_n 2, 7, 2, 0, 0, 0)), (7, (.iload_n 2, 8, 2, 0, 0, 0)), (8, (.bipush 20, 10, 0, 0, 0, 20)), (10, (.if_icmp .ge 18, 13, 28, 0, 0, 0)), (13, (.iload_n 1, 14, 1, 0, 0, 0)), (14, (.iload_n 0, 15, 0, 0, 0, 0)), (15, (.iload_n 1, 16, 1, 0, 0, 0)), (16, (.invokestatic 52, 19, 14, 0, 371, 0)), (19, (.iand, 20, 0, 0, 0, 0)), (20, (.ior, 21, 0, 0, 0, 0)), (21, (.istore_n 1, 22, 1, 0, 0, 0)), (22, (.iinc 2 1, 25, 2, 0, 0, 1)), (25, (.goto (-18), 28, 7, 0, 0, 0)), (28, (.iload_n 1, 29, 1, 0, 0, 0)), (29, (.iload_n 0, 30, 0, 0, 0, 0)), (30, (.if_icmp .ne 7, 33, 37, 0, 0, 0)), (33, (.iconst 1, 34, 0, 0, 0, 1)), (34, (.goto 4, 37, 38, 0, 0, 0)), (37, (.iconst 0, 38, 0, 0, 0, 0)), (38, (.ireturn, 39, 0, 0, 0, 0))]
def tb_X1_isAnyTorn : List (Nat × ix_E) := [(0, (.iconst 0, 1, 0, 0, 0, 0)), (1, (.istore_n 2, 2, 2, 0, 0, 0)), (2, (.iload_n 2, 3, 2, 0, 0, 0)), (3, (.iload_n 1, 4, 1, 0, 0, 0)), (4, (.if_icmp .ge 23, 7, 27, 0, 0, 0)), (7, (.aload_n 0, 8, 0, 0, 0, 0)), (8, (.getfield 11, 11, 0, 1, 94, 0)), (11, (.iload_n 2, 12, 2, 0, 0, 0)), (12, (.iaload, 13, 0, 0, 0, 0)), (13, (.invokestatic 62, 16, 33, 0, 365, 0)), (16, (.ifCond .ne 5, 19, 21, 0, 0, 0)), (19, (.iconst 1, 20, 0, 0, 0, 1)), (20, (.ireturn, 21, 0, 0, 0, 0)), (21, (.iinc 2 1, 24, 2, 0, 0, 1)), (24, (.goto (-22), 27, 2, 0, 0, 0)), (27, (.iconst 0, 28, 0, 0, 0, 0)), (28, (.ireturn, 29, 0, 0, 0, 0))]
def tb_X1_isAnyPairApart : List (Nat × ix_E) := [(0, (.iconst 0, 1, 0, 0, 0, 0)), (1, (.istore_n 2, 2, 2, 0, 0, 0)), (2, (.iload_n 2, 3, 2, 0, 0, 0)), (3, (.aload_n 1, 4, 1, 0, 0, 0)), (4, (.invokevirtual 29, 7, 7, 0, 347, 0)), (7, (.if_icmp .ge 52, 10, 59, 0, 0, 0)), (10, (.iconst 0, 11, 0, 0, 0, 0)), (11, (.istore_n 3, 12, 3, 0, 0, 0)), (12, (.iload_n 3, 13, 3, 0, 0, 0)), (13, (.iload_n 2, 14, 2, 0, 0, 0)), (14, (.if_icmp .ge 39, 17, 53, 0, 0, 0)), (17, (.aload_n 1, 18, 1, 0, 0, 0)), (18, (.iload_n 2, 19, 2, 0, 0, 0)), (19, (.iload_n 3, 20, 3, 0, 0, 0)), (20, (.invokevirtual 65, 23, 11, 0, 381, 0)), (23, (.ifCond .eq 24, 26, 47, 0, 0, 0)), (26, (.aload_n 0, 27, 0, 0, 0, 0)), (27, (.getfield 11, 30, 0, 1, 94, 0)), (30, (.iload_n 2, 31, 2, 0, 0, 0)), (31, (.iaload, 32, 0, 0, 0, 0)), (32, (.aload_n 0, 33, 0, 0, 0, 0)), (33, (.getfield 11, 36, 0, 1, 94, 0)), (36, (.iload_n 3, 37, 3, 0, 0, 0)), (37, (.iaload, 38, 0, 0, 0, 0)), (38, (.invokestatic 52, 41, 14, 0, 371, 0)), (41, (.iand, 42, 0, 0, 0, 0)), (42, (.ifCond .ne 5, 45, 47, 0, 0, 0)), (45, (.iconst 1, 46, 0, 0, 0, 1)), (46, (.ireturn, 47, 0, 0, 0, 0)), (47, (.iinc 3 1, 50, 3, 0, 0, 1)), (50, (.goto (-38), 53, 12, 0, 0, 0)), (53, (.iinc 2 1, 56, 2, 0, 0, 1)), (56, (.goto (-54), 59, 2, 0, 0, 0)), (59, (.iconst 0, 60, 0, 0, 0, 0)), (60, (.ireturn, 61, 0, 0, 0, 0))]
def tb_X1_firstFailing : List (Nat × ix_E) := [(0, (.aload_n 0, 1, 0, 0, 0, 0)), (1, (.aload_n 1, 2, 1, 0, 0, 0)), (2, (.invokevirtual 29, 5, 7, 0, 347, 0)), (5, (.invokevirtual 35, 8, 31, 0, 348, 0)), (8, (.ifCond .eq 5, 11, 13, 0, 0, 0)), (11, (.iconst 1, 12, 0, 0, 0, 1)), (12, (.ireturn, 13, 0, 0, 0, 0)), (13, (.aload_n 0, 14, 0, 0, 0, 0)), (14, (.invokevirtual 39, 17, 4, 0, 352, 0)), (17, (.aload_n 0, 18, 0, 0, 0, 0)), (18, (.getfield 15, 21, 1, 1, 95, 0)), (21, (.iand, 22, 0, 0, 0, 0)), (22, (.ifCond .eq 5, 25, 27, 0, 0, 0)), (25, (.iconst 2, 26, 0, 0, 0, 2)), (26, (.ireturn, 27, 0, 0, 0, 0)), (27, (.aload_n 0, 28, 0, 0, 0, 0)), (28, (.invokevirtual 42, 31, 30, 0, 356, 0)), (31, (.aload_n 0, 32, 0, 0, 0, 0)), (32, (.invokevirtual 39, 35, 4, 0, 352, 0)), (35, (.invokestatic 23, 38, 22, 0, 360, 0)), (38, (.if_icmp .eq 5, 41, 43, 0, 0, 0)), (41, (.iconst 3, 42, 0, 0, 0, 3)), (42, (.ireturn, 43, 0, 0, 0, 0)), (43, (.aload_n 0, 44, 0, 0, 0, 0)), (44, (.aload_n 1, 45, 1, 0, 0, 0)), (45, (.invokevirtual 29, 48, 7, 0, 347, 0)), (48, (.invokevirtual 45, 51, 34, 0, 361, 0)), (51, (.ifCond .eq 5, 54, 56, 0, 0, 0)), (54, (.iconst 4, 55, 0, 0, 0, 4)), (55, (.ireturn, 56, 0, 0, 0, 0)), (56, (.aload_n 0, 57, 0, 0, 0, 0)), (57, (.aload_n 1, 58, 1, 0, 0, 0)), (58, (.invokevirtual 48, 61, 35, 0, 377, 0)), (61, (.ifCond .eq 5, 64, 66, 0, 0, 0)), (64, (.iconst 5, 65, 0, 0, 0, 5)), (65, (.ireturn, 66, 0, 0, 0, 0)), (66, (.aload_n 0, 67, 0, 0, 0, 0)), (67, (.invokevirtual 42, 70, 30, 0, 356, 0)), (70, (.bipush 14, 72, 0, 0, 0, 14)), (72, (.if_icmp .le 8, 75, 80, 0, 0, 0)), (75, (.bipush 6, 77, 0, 0, 0, 6)), (77, (.goto 4, 80, 81, 0, 0, 0)), (80, (.iconst 0, 81, 0, 0, 0, 0)), (81, (.ireturn, 82, 0, 0, 0, 0))]
def tb_X1_mostOf : List (Nat × ix_E) := [(0, (.aload_n 0, 1, 0, 0, 0, 0)), (1, (.getfield 11, 4, 0, 1, 94, 0)), (4, (.iload_n 1, 5, 1, 0, 0, 0)), (5, (.iaload, 6, 0, 0, 0, 0)), (6, (.iload_n 2, 7, 2, 0, 0, 0)), (7, (.iand, 8, 0, 0, 0, 0)), (8, (.invokestatic 23, 11, 22, 0, 360, 0)), (11, (.istore_n 3, 12, 3, 0, 0, 0)), (12, (.aload_n 0, 13, 0, 0, 0, 0)), (13, (.getfield 11, 16, 0, 1, 94, 0)), (16, (.iload_n 1, 17, 1, 0, 0, 0)), (17, (.iaload, 18, 0, 0, 0, 0)), (18, (.invokestatic 23, 21, 22, 0, 360, 0)), (21, (.iload_n 3, 22, 3, 0, 0, 0)), (22, (.isub, 23, 0, 0, 0, 0)), (23, (.istore 4, 25, 4, 0, 0, 0)), (25, (.iload_n 3, 26, 3, 0, 0, 0)), (26, (.iload 4, 28, 4, 0, 0, 0)), (28, (.if_icmp .ne 21, 31, 49, 0, 0, 0)), (31, (.iload_n 2, 32, 2, 0, 0, 0)), (32, (.aload_n 0, 33, 0, 0, 0, 0)), (33, (.iload_n 1, 34, 1, 0, 0, 0)), (34, (.invokevirtual 58, 37, 9, 0, 468, 0)), (37, (.invokestatic 19, 40, 5, 1, 325, 0)), (40, (.ifCond .eq 7, 43, 47, 0, 0, 0)), (43, (.iconst 1, 44, 0, 0, 0, 1)), (44, (.goto 4, 47, 48, 0, 0, 0)), (47, (.iconst 0, 48, 0, 0, 0, 0)), (48, (.ireturn, 49, 0, 0, 0, 0)), (49, (.iload_n 3, 50, 3, 0, 0, 0)), (50, (.iload 4, 52, 4, 0, 0, 0)), (52, (.if_icmp .le 7, 55, 59, 0, 0, 0)), (55, (.iconst 1, 56, 0, 0, 0, 1)), (56, (.goto 4, 59, 60, 0, 0, 0)), (59, (.iconst 0, 60, 0, 0, 0, 0)), (60, (.ireturn, 61, 0, 0, 0, 0))]
def tb_X2_size : List (Nat × ix_E) := [(0, (.aload_n 0, 1, 0, 0, 0, 0)), (1, (.getfield 18, 4, 2, 2, 80, 0)), (4, (.ireturn, 5, 0, 0, 0, 0))]
def tb_X2_add : List (Nat × ix_E) := [(0, (.aload_n 0, 1, 0, 0, 0, 0)), (1, (.getfield 18, 4, 2, 2, 80, 0)), (4, (.bipush 6, 6, 0, 0, 0, 6)), (6, (.if_icmp .lt 6, 9, 12, 0, 0, 0)), (9, (.bipush (-4), 11, 0, 0, 0, (-4))), (11, (.ireturn, 12, 0, 0, 0, 0)), (12, (.aload_n 0, 13, 0, 0, 0, 0)), (13, (.getfield 11, 16, 0, 2, 78, 0)), (16, (.aload_n 0, 17, 0, 0, 0, 0)), (17, (.getfield 18, 20, 2, 2, 80, 0)), (20, (.iload_n 1, 21, 1, 0, 0, 0)), (21, (.iastore, 22, 0, 0, 0, 0)), (22, (.aload_n 0, 23, 0, 0, 0, 0)), (23, (.getfield 15, 26, 1, 2, 79, 0)), (26, (.aload_n 0, 27, 0, 0, 0, 0)), (27, (.getfield 18, 30, 2, 2, 80, 0)), (30, (.iload_n 2, 31, 2, 0, 0, 0)), (31, (.iastore, 32, 0, 0, 0, 0)), (32, (.aload_n 0, 33, 0, 0, 0, 0)), (33, (.dup, 34, 0, 0, 0, 0)), (34, (.getfield 18, 37, 2, 2, 80, 0)), (37, (.iconst 1, 38, 0, 0, 0, 1)), (38, (.iadd, 39, 0, 0, 0, 0)), (39, (.putfield 18, 42, 2, 2, 80, 0)), (42, (.aload_n 0, 43, 0, 0, 0, 0)), (43, (.getfield 18, 46, 2, 2, 80, 0)), (46, (.iconst 1, 47, 0, 0, 0, 1)), (47, (.isub, 48, 0, 0, 0, 0)), (48, (.ireturn, 49, 0, 0, 0, 0))]
def tb_X2_dropLast : List (Nat × ix_E) := [(0, (.aload_n 0, 1, 0, 0, 0, 0)), (1, (.getfield 18, 4, 2, 2, 80, 0)), (4, (.ifCond .ne 6, 7, 10, 0, 0, 0)), (7, (.bipush (-3), 9, 0, 0, 0, (-3))), (9, (.ireturn, 10, 0, 0, 0, 0)), (10, (.aload_n 0, 11, 0, 0, 0, 0)), (11, (.dup, 12, 0, 0, 0, 0)), (12, (.getfield 18, 15, 2, 2, 80, 0)), (15, (.iconst 1, 16, 0, 0, 0, 1)), (16, (.isub, 17, 0, 0, 0, 0)), (17, (.putfield 18, 20, 2, 2, 80, 0)), (20, (.aload_n 0, 21, 0, 0, 0, 0)), (21, (.getfield 18, 24, 2, 2, 80, 0)), (24, (.ireturn, 25, 0, 0, 0, 0))]
def tb_X2_forgetAll : List (Nat × ix_E) := [(0, (.aload_n 0, 1, 0, 0, 0, 0)), (1, (.iconst 0, 2, 0, 0, 0, 0)), (2, (.putfield 18, 5, 2, 2, 80, 0)), (5, (.return_, 6, 0, 0, 0, 0))]
def tb_X2_missedBy : List (Nat × ix_E) := [(0, (.iconst 0, 1, 0, 0, 0, 0)), (1, (.istore_n 2, 2, 2, 0, 0, 0)), (2, (.iconst 0, 3, 0, 0, 0, 0)), (3, (.istore_n 3, 4, 3, 0, 0, 0)), (4, (.iload_n 3, 5, 3, 0, 0, 0)), (5, (.aload_n 0, 6, 0, 0, 0, 0)), (6, (.getfield 18, 9, 2, 2, 80, 0)), (9, (.if_icmp .ge 37, 12, 46, 0, 0, 0)), (12, (.iload_n 1, 13, 1, 0, 0, 0)), (13, (.aload_n 0, 14, 0, 0, 0, 0)), (14, (.getfield 11, 17, 0, 2, 78, 0)), (17, (.iload_n 3, 18, 3, 0, 0, 0)), (18, (.iaload, 19, 0, 0, 0, 0)), (19, (.iand, 20, 0, 0, 0, 0)), (20, (.invokestatic 22, 23, 22, 0, 268, 0)), (23, (.aload_n 0, 24, 0, 0, 0, 0)), (24, (.getfield 15, 27, 1, 2, 79, 0)), (27, (.iload_n 3, 28, 3, 0, 0, 0)), (28, (.iaload, 29, 0, 0, 0, 0)), (29, (.isub, 30, 0, 0, 0, 0)), (30, (.istore 4, 32, 4, 0, 0, 0)), (32, (.iload_n 2, 33, 2, 0, 0, 0)), (33, (.iload 4, 35, 4, 0, 0, 0)), (35, (.iload 4, 37, 4, 0, 0, 0)), (37, (.imul, 38, 0, 0, 0, 0)), (38, (.iadd, 39, 0, 0, 0, 0)), (39, (.istore_n 2, 40, 2, 0, 0, 0)), (40, (.iinc 3 1, 43, 3, 0, 0, 1)), (43, (.goto (-39), 46, 4, 0, 0, 0)), (46, (.iload_n 2, 47, 2, 0, 0, 0)), (47, (.ireturn, 48, 0, 0, 0, 0))]
def tb_X3_startAnew : List (Nat × ix_E) := [(0, (.aload_n 0, 1, 0, 0, 0, 0)), (1, (.iload_n 1, 2, 1, 0, 0, 0)), (2, (.putfield 18, 5, 2, 3, 60, 0)), (5, (.aload_n 0, 6, 0, 0, 0, 0)), (6, (.iconst 0, 7, 0, 0, 0, 0)), (7, (.putfield 22, 10, 3, 3, 61, 0)), (10, (.iconst 0, 11, 0, 0, 0, 0)), (11, (.istore_n 2, 12, 2, 0, 0, 0)), (12, (.iload_n 2, 13, 2, 0, 0, 0)), (13, (.aload_n 0, 14, 0, 0, 0, 0)), (14, (.getfield 9, 17, 0, 3, 58, 0)), (17, (.arraylength, 18, 0, 0, 0, 0)), (18, (.if_icmp .ge 16, 21, 34, 0, 0, 0)), (21, (.aload_n 0, 22, 0, 0, 0, 0)), (22, (.getfield 9, 25, 0, 3, 58, 0)), (25, (.iload_n 2, 26, 2, 0, 0, 0)), (26, (.iconst 0, 27, 0, 0, 0, 0)), (27, (.iastore, 28, 0, 0, 0, 0)), (28, (.iinc 2 1, 31, 2, 0, 0, 1)), (31, (.goto (-19), 34, 12, 0, 0, 0)), (34, (.return_, 35, 0, 0, 0, 0))]
def tb_X3_states : List (Nat × ix_E) := [(0, (.iconst 1, 1, 0, 0, 0, 1)), (1, (.aload_n 0, 2, 0, 0, 0, 0)), (2, (.getfield 18, 5, 2, 3, 60, 0)), (5, (.ishl, 6, 0, 0, 0, 0)), (6, (.ireturn, 7, 0, 0, 0, 0))]
def tb_X3_setBetween : List (Nat × ix_E) := [(0, (.aload_n 0, 1, 0, 0, 0, 0)), (1, (.getfield 9, 4, 0, 3, 58, 0)), (4, (.iload_n 1, 5, 1, 0, 0, 0)), (5, (.iload_n 2, 6, 2, 0, 0, 0)), (6, (.invokestatic 25, 9, 10, 0, 187, 0)), (9, (.iload_n 3, 10, 3, 0, 0, 0)), (10, (.iastore, 11, 0, 0, 0, 0)), (11, (.aload_n 0, 12, 0, 0, 0, 0)), (12, (.getfield 9, 15, 0, 3, 58, 0)), (15, (.iload_n 2, 16, 2, 0, 0, 0)), (16, (.iload_n 1, 17, 1, 0, 0, 0)), (17, (.invokestatic 25, 20, 10, 0, 187, 0)), (20, (.iload_n 3, 21, 3, 0, 0, 0)), (21, (.iastore, 22, 0, 0, 0, 0)), (22, (.return_, 23, 0, 0, 0, 0))]
def tb_X3_weightedPairs : List (Nat × ix_E) := [(0, (.iconst 0, 1, 0, 0, 0, 0)), (1, (.istore_n 1, 2, 1, 0, 0, 0)), (2, (.iconst 0, 3, 0, 0, 0, 0)), (3, (.istore_n 2, 4, 2, 0, 0, 0)), (4, (.iload_n 2, 5, 2, 0, 0, 0)), (5, (.aload_n 0, 6, 0, 0, 0, 0)), (6, (.getfield 18, 9, 2, 3, 60, 0)), (9, (.if_icmp .ge 34, 12, 43, 0, 0, 0)), (12, (.iconst 0, 13, 0, 0, 0, 0)), (13, (.istore_n 3, 14, 3, 0, 0, 0)), (14, (.iload_n 3, 15, 3, 0, 0, 0)), (15, (.iload_n 2, 16, 2, 0, 0, 0)), (16, (.if_icmp .ge 21, 19, 37, 0, 0, 0)), (19, (.aload_n 0, 20, 0, 0, 0, 0)), (20, (.iload_n 2, 21, 2, 0, 0, 0)), (21, (.iload_n 3, 22, 3, 0, 0, 0)), (22, (.invokevirtual 29, 25, 11, 0, 221, 0)), (25, (.ifCond .eq 6, 28, 31, 0, 0, 0)), (28, (.iinc 1 1, 31, 1, 0, 0, 1)), (31, (.iinc 3 1, 34, 3, 0, 0, 1)), (34, (.goto (-20), 37, 14, 0, 0, 0)), (37, (.iinc 2 1, 40, 2, 0, 0, 1)), (40, (.goto (-36), 43, 4, 0, 0, 0)), (43, (.iload_n 1, 44, 1, 0, 0, 0)), (44, (.ireturn, 45, 0, 0, 0, 0))]
def tb_X3_gainOf : List (Nat × ix_E) := [(0, (.aload_n 0, 1, 0, 0, 0, 0)), (1, (.iload_n 1, 2, 1, 0, 0, 0)), (2, (.iload_n 1, 3, 1, 0, 0, 0)), (3, (.invokevirtual 29, 6, 11, 0, 221, 0)), (6, (.istore_n 3, 7, 3, 0, 0, 0)), (7, (.iconst 0, 8, 0, 0, 0, 0)), (8, (.istore 4, 10, 4, 0, 0, 0)), (10, (.iload 4, 12, 4, 0, 0, 0)), (12, (.aload_n 0, 13, 0, 0, 0, 0)), (13, (.getfield 18, 16, 2, 3, 60, 0)), (16, (.if_icmp .ge 34, 19, 50, 0, 0, 0)), (19, (.iload 4, 21, 4, 0, 0, 0)), (21, (.iload_n 1, 22, 1, 0, 0, 0)), (22, (.if_icmp .eq 22, 25, 44, 0, 0, 0)), (25, (.iload_n 2, 26, 2, 0, 0, 0)), (26, (.iload 4, 28, 4, 0, 0, 0)), (28, (.invokestatic 32, 31, 5, 1, 214, 0)), (31, (.ifCond .eq 13, 34, 44, 0, 0, 0)), (34, (.iload_n 3, 35, 3, 0, 0, 0)), (35, (.aload_n 0, 36, 0, 0, 0, 0)), (36, (.iload_n 1, 37, 1, 0, 0, 0)), (37, (.iload 4, 39, 4, 0, 0, 0)), (39, (.invokevirtual 29, 42, 11, 0, 221, 0)), (42, (.iadd, 43, 0, 0, 0, 0)), (43, (.istore_n 3, 44, 3, 0, 0, 0)), (44, (.iinc 4 1, 47, 4, 0, 0, 1)), (47, (.goto (-37), 50, 10, 0, 0, 0)), (50, (.iload_n 3, 51, 3, 0, 0, 0)), (51, (.ireturn, 52, 0, 0, 0, 0))]
def tb_X3_energyOf : List (Nat × ix_E) := [(0, (.aload_n 0, 1, 0, 0, 0, 0)), (1, (.getfield 22, 4, 3, 3, 61, 0)), (4, (.istore_n 2, 5, 2, 0, 0, 0)), (5, (.iconst 0, 6, 0, 0, 0, 0)), (6, (.istore_n 3, 7, 3, 0, 0, 0)), (7, (.iload_n 3, 8, 3, 0, 0, 0)), (8, (.aload_n 0, 9, 0, 0, 0, 0)), (9, (.getfield 18, 12, 2, 3, 60, 0)), (12, (.if_icmp .ge 32, 15, 44, 0, 0, 0)), (15, (.iload_n 1, 16, 1, 0, 0, 0)), (16, (.iload_n 3, 17, 3, 0, 0, 0)), (17, (.invokestatic 32, 20, 5, 1, 214, 0)), (20, (.ifCond .eq 18, 23, 38, 0, 0, 0)), (23, (.iload_n 2, 24, 2, 0, 0, 0)), (24, (.aload_n 0, 25, 0, 0, 0, 0)), (25, (.iload_n 3, 26, 3, 0, 0, 0)), (26, (.iload_n 1, 27, 1, 0, 0, 0)), (27, (.iconst 1, 28, 0, 0, 0, 1)), (28, (.iload_n 3, 29, 3, 0, 0, 0)), (29, (.ishl, 30, 0, 0, 0, 0)), (30, (.iconst 1, 31, 0, 0, 0, 1)), (31, (.isub, 32, 0, 0, 0, 0)), (32, (.iand, 33, 0, 0, 0, 0)), (33, (.invokevirtual 36, 36, 47, 0, 217, 0)), (36, (.iadd, 37, 0, 0, 0, 0)), (37, (.istore_n 2, 38, 2, 0, 0, 0)), (38, (.iinc 3 1, 41, 3, 0, 0, 1)), (41, (.goto (-34), 44, 7, 0, 0, 0)), (44, (.iload_n 2, 45, 2, 0, 0, 0)), (45, (.ireturn, 46, 0, 0, 0, 0))]
def tb_X3_fillEnergies : List (Nat × ix_E) := [(0, (.aload_n 1, 1, 1, 0, 0, 0)), (1, (.iconst 0, 2, 0, 0, 0, 0)), (2, (.aload_n 0, 3, 0, 0, 0, 0)), (3, (.getfield 22, 6, 3, 3, 61, 0)), (6, (.iastore, 7, 0, 0, 0, 0)), (7, (.iconst 1, 8, 0, 0, 0, 1)), (8, (.istore_n 2, 9, 2, 0, 0, 0)), (9, (.iload_n 2, 10, 2, 0, 0, 0)), (10, (.aload_n 0, 11, 0, 0, 0, 0)), (11, (.invokevirtual 39, 14, 44, 0, 259, 0)), (14, (.if_icmp .ge 31, 17, 45, 0, 0, 0)), (17, (.iload_n 2, 18, 2, 0, 0, 0)), (18, (.iload_n 2, 19, 2, 0, 0, 0)), (19, (.iconst 1, 20, 0, 0, 0, 1)), (20, (.isub, 21, 0, 0, 0, 0)), (21, (.iand, 22, 0, 0, 0, 0)), (22, (.istore_n 3, 23, 3, 0, 0, 0)), (23, (.aload_n 1, 24, 1, 0, 0, 0)), (24, (.iload_n 2, 25, 2, 0, 0, 0)), (25, (.aload_n 1, 26, 1, 0, 0, 0)), (26, (.iload_n 3, 27, 3, 0, 0, 0)), (27, (.iaload, 28, 0, 0, 0, 0)), (28, (.aload_n 0, 29, 0, 0, 0, 0)), (29, (.iload_n 2, 30, 2, 0, 0, 0)), (30, (.invokestatic 43, 33, 8, 0, 260, 0)), (33, (.iload_n 3, 34, 3, 0, 0, 0)), (34, (.invokevirtual 36, 37, 47, 0, 217, 0)), (37, (.iadd, 38, 0, 0, 0, 0)), (38, (.iastore, 39, 0, 0, 0, 0)), (39, (.iinc 2 1, 42, 2, 0, 0, 1)), (42, (.goto (-33), 45, 9, 0, 0, 0)), (45, (.return_, 46, 0, 0, 0, 0))]
def tb_X3_changeBy : List (Nat × ix_E) := [(0, (.aload_n 0, 1, 0, 0, 0, 0)), (1, (.iload_n 1, 2, 1, 0, 0, 0)), (2, (.iload_n 2, 3, 2, 0, 0, 0)), (3, (.invokevirtual 36, 6, 47, 0, 217, 0)), (6, (.istore_n 3, 7, 3, 0, 0, 0)), (7, (.iload_n 2, 8, 2, 0, 0, 0)), (8, (.iload_n 1, 9, 1, 0, 0, 0)), (9, (.invokestatic 32, 12, 5, 1, 214, 0)), (12, (.ifCond .eq 8, 15, 20, 0, 0, 0)), (15, (.iload_n 3, 16, 3, 0, 0, 0)), (16, (.ineg, 17, 0, 0, 0, 0)), (17, (.goto 4, 20, 21, 0, 0, 0)), (20, (.iload_n 3, 21, 3, 0, 0, 0)), (21, (.ireturn, 22, 0, 0, 0, 0))]
def tb_X3_valueToFix : List (Nat × ix_E) := [(0, (.aload_n 0, 1, 0, 0, 0, 0)), (1, (.iload_n 1, 2, 1, 0, 0, 0)), (2, (.iload_n 3, 3, 3, 0, 0, 0)), (3, (.invokevirtual 36, 6, 47, 0, 217, 0)), (6, (.istore 4, 8, 4, 0, 0, 0)), (8, (.iconst 0, 9, 0, 0, 0, 0)), (9, (.istore 5, 11, 5, 0, 0, 0)), (11, (.iconst 0, 12, 0, 0, 0, 0)), (12, (.istore 6, 14, 6, 0, 0, 0)), (14, (.iconst 0, 15, 0, 0, 0, 0)), (15, (.istore 7, 17, 7, 0, 0, 0)), (17, (.iload 7, 19, 7, 0, 0, 0)), (19, (.aload_n 0, 20, 0, 0, 0, 0)), (20, (.getfield 18, 23, 2, 3, 60, 0)), (23, (.if_icmp .ge 56, 26, 79, 0, 0, 0)), (26, (.iload 7, 28, 7, 0, 0, 0)), (28, (.iload_n 1, 29, 1, 0, 0, 0)), (29, (.if_icmp .eq 44, 32, 73, 0, 0, 0)), (32, (.iload_n 2, 33, 2, 0, 0, 0)), (33, (.iload 7, 35, 7, 0, 0, 0)), (35, (.invokestatic 32, 38, 5, 1, 214, 0)), (38, (.ifCond .ne 35, 41, 73, 0, 0, 0)), (41, (.iload 5, 43, 5, 0, 0, 0)), (43, (.aload_n 0, 44, 0, 0, 0, 0)), (44, (.iload_n 1, 45, 1, 0, 0, 0)), (45, (.iload 7, 47, 7, 0, 0, 0)), (47, (.invokevirtual 29, 50, 11, 0, 221, 0)), (50, (.iconst 0, 51, 0, 0, 0, 0)), (51, (.invokestatic 49, 54, 17, 0, 305, 0)), (54, (.iadd, 55, 0, 0, 0, 0)), (55, (.istore 5, 57, 5, 0, 0, 0)), (57, (.iload 6, 59, 6, 0, 0, 0)), (59, (.aload_n 0, 60, 0, 0, 0, 0)), (60, (.iload_n 1, 61, 1, 0, 0, 0)), (61, (.iload 7, 63, 7, 0, 0, 0)), (63, (.invokevirtual 29, 66, 11, 0, 221, 0)), (66, (.iconst 0, 67, 0, 0, 0, 0)), (67, (.invokestatic 54, 70, 18, 0, 306, 0)), (70, (.iadd, 71, 0, 0, 0, 0)), (71, (.istore 6, 73, 6, 0, 0, 0)), (73, (.iinc 7 1, 76, 7, 0, 0, 1)), (76, (.goto (-59), 79, 17, 0, 0, 0)), (79, (.iload 4, 81, 4, 0, 0, 0)), (81, (.iload 5, 83, 5, 0, 0, 0)), (83, (.iadd, 84, 0, 0, 0, 0)), (84, (.ifCond .lt 5, 87, 89, 0, 0, 0)), (87, (.iconst 0, 88, 0, 0, 0, 0)), (88, (.ireturn, 89, 0, 0, 0, 0)), (89, (.iload 4, 91, 4, 0, 0, 0)), (91, (.iload 6, 93, 6, 0, 0, 0)), (93, (.iadd, 94, 0, 0, 0, 0)), (94, (.ifCond .gt 7, 97, 101, 0, 0, 0)), (97, (.iconst 1, 98, 0, 0, 0, 1)), (98, (.goto 4, 101, 102, 0, 0, 0)), (101, (.iconst (-1), 102, 0, 0, 0, (-1))), (102, (.ireturn, 103, 0, 0, 0, 0))]
def tb_X3_lowerBound : List (Nat × ix_E) := [(0, (.aload_n 0, 1, 0, 0, 0, 0)), (1, (.getfield 22, 4, 3, 3, 61, 0)), (4, (.istore_n 1, 5, 1, 0, 0, 0)), (5, (.iconst 0, 6, 0, 0, 0, 0)), (6, (.istore_n 2, 7, 2, 0, 0, 0)), (7, (.iload_n 2, 8, 2, 0, 0, 0)), (8, (.aload_n 0, 9, 0, 0, 0, 0)), (9, (.getfield 18, 12, 2, 3, 60, 0)), (12, (.if_icmp .ge 35, 15, 47, 0, 0, 0)), (15, (.iconst 0, 16, 0, 0, 0, 0)), (16, (.istore_n 3, 17, 3, 0, 0, 0)), (17, (.iload_n 3, 18, 3, 0, 0, 0)), (18, (.iload_n 2, 19, 2, 0, 0, 0)), (19, (.if_icmp .gt 22, 22, 41, 0, 0, 0)), (22, (.iload_n 1, 23, 1, 0, 0, 0)), (23, (.aload_n 0, 24, 0, 0, 0, 0)), (24, (.iload_n 2, 25, 2, 0, 0, 0)), (25, (.iload_n 3, 26, 3, 0, 0, 0)), (26, (.invokevirtual 29, 29, 11, 0, 221, 0)), (29, (.iconst 0, 30, 0, 0, 0, 0)), (30, (.invokestatic 49, 33, 17, 0, 305, 0)), (33, (.iadd, 34, 0, 0, 0, 0)), (34, (.istore_n 1, 35, 1, 0, 0, 0)), (35, (.iinc 3 1, 38, 3, 0, 0, 1)), (38, (.goto (-21), 41, 17, 0, 0, 0)), (41, (.iinc 2 1, 44, 2, 0, 0, 1)), (44, (.goto (-37), 47, 7, 0, 0, 0)), (47, (.iload_n 1, 48, 1, 0, 0, 0)), (48, (.ireturn, 49, 0, 0, 0, 0))]
def tb_X3_turnedBetween : List (Nat × ix_E) := [(0, (.iload_n 1, 1, 1, 0, 0, 0)), (1, (.iload_n 2, 2, 2, 0, 0, 0)), (2, (.if_icmp .ne 28, 5, 30, 0, 0, 0)), (5, (.aload_n 0, 6, 0, 0, 0, 0)), (6, (.iload_n 1, 7, 1, 0, 0, 0)), (7, (.iload_n 3, 8, 3, 0, 0, 0)), (8, (.invokevirtual 36, 11, 47, 0, 217, 0)), (11, (.istore 4, 13, 4, 0, 0, 0)), (13, (.iload_n 3, 14, 3, 0, 0, 0)), (14, (.iload_n 1, 15, 1, 0, 0, 0)), (15, (.invokestatic 32, 18, 5, 1, 214, 0)), (18, (.ifCond .eq 9, 21, 27, 0, 0, 0)), (21, (.iload 4, 23, 4, 0, 0, 0)), (23, (.ineg, 24, 0, 0, 0, 0)), (24, (.goto 5, 27, 29, 0, 0, 0)), (27, (.iload 4, 29, 4, 0, 0, 0)), (29, (.ireturn, 30, 0, 0, 0, 0)), (30, (.iload_n 3, 31, 3, 0, 0, 0)), (31, (.iload_n 1, 32, 1, 0, 0, 0)), (32, (.invokestatic 32, 35, 5, 1, 214, 0)), (35, (.iload_n 3, 36, 3, 0, 0, 0)), (36, (.iload_n 2, 37, 2, 0, 0, 0)), (37, (.invokestatic 32, 40, 5, 1, 214, 0)), (40, (.if_icmp .ne 12, 43, 52, 0, 0, 0)), (43, (.aload_n 0, 44, 0, 0, 0, 0)), (44, (.iload_n 1, 45, 1, 0, 0, 0)), (45, (.iload_n 2, 46, 2, 0, 0, 0)), (46, (.invokevirtual 29, 49, 11, 0, 221, 0)), (49, (.goto 10, 52, 59, 0, 0, 0)), (52, (.aload_n 0, 53, 0, 0, 0, 0)), (53, (.iload_n 1, 54, 1, 0, 0, 0)), (54, (.iload_n 2, 55, 2, 0, 0, 0)), (55, (.invokevirtual 29, 58, 11, 0, 221, 0)), (58, (.ineg, 59, 0, 0, 0, 0)), (59, (.ireturn, 60, 0, 0, 0, 0))]
def tb_X3_turnBy : List (Nat × ix_E) := [(0, (.iconst 0, 1, 0, 0, 0, 0)), (1, (.istore_n 2, 2, 2, 0, 0, 0)), (2, (.iload_n 2, 3, 2, 0, 0, 0)), (3, (.aload_n 0, 4, 0, 0, 0, 0)), (4, (.getfield 18, 7, 2, 3, 60, 0)), (7, (.if_icmp .ge 60, 10, 67, 0, 0, 0)), (10, (.iconst 0, 11, 0, 0, 0, 0)), (11, (.istore_n 3, 12, 3, 0, 0, 0)), (12, (.iload_n 3, 13, 3, 0, 0, 0)), (13, (.aload_n 0, 14, 0, 0, 0, 0)), (14, (.getfield 18, 17, 2, 3, 60, 0)), (17, (.if_icmp .ge 44, 20, 61, 0, 0, 0)), (20, (.aload_n 0, 21, 0, 0, 0, 0)), (21, (.iload_n 2, 22, 2, 0, 0, 0)), (22, (.iload_n 3, 23, 3, 0, 0, 0)), (23, (.iload_n 1, 24, 1, 0, 0, 0)), (24, (.invokevirtual 57, 27, 53, 0, 477, 0)), (27, (.istore 4, 29, 4, 0, 0, 0)), (29, (.iload 4, 31, 4, 0, 0, 0)), (31, (.bipush (-60), 33, 0, 0, 0, (-60))), (33, (.bipush 60, 35, 0, 0, 0, 60)), (35, (.invokestatic 61, 38, 12, 1, 481, 0)), (38, (.ifCond .ne 5, 41, 43, 0, 0, 0)), (41, (.iconst 0, 42, 0, 0, 0, 0)), (42, (.ireturn, 43, 0, 0, 0, 0)), (43, (.aload_n 0, 44, 0, 0, 0, 0)), (44, (.getfield 15, 47, 1, 3, 59, 0)), (47, (.iload_n 2, 48, 2, 0, 0, 0)), (48, (.iload_n 3, 49, 3, 0, 0, 0)), (49, (.invokestatic 25, 52, 10, 0, 187, 0)), (52, (.iload 4, 54, 4, 0, 0, 0)), (54, (.iastore, 55, 0, 0, 0, 0)), (55, (.iinc 3 1, 58, 3, 0, 0, 1)), (58, (.goto (-46), 61, 12, 0, 0, 0)), (61, (.iinc 2 1, 64, 2, 0, 0, 1)), (64, (.goto (-62), 67, 2, 0, 0, 0)), (67, (.aload_n 0, 68, 0, 0, 0, 0)), (68, (.aload_n 0, 69, 0, 0, 0, 0)), (69, (.iload_n 1, 70, 1, 0, 0, 0)), (70, (.invokevirtual 65, 73, 48, 0, 482, 0)), (73, (.putfield 22, 76, 3, 3, 61, 0)), (76, (.iconst 0, 77, 0, 0, 0, 0)), (77, (.istore_n 2, 78, 2, 0, 0, 0)), (78, (.iload_n 2, 79, 2, 0, 0, 0)), (79, (.aload_n 0, 80, 0, 0, 0, 0)), (80, (.getfield 18, 83, 2, 3, 60, 0)), (83, (.if_icmp .ge 45, 86, 128, 0, 0, 0)), (86, (.iconst 0, 87, 0, 0, 0, 0)), (87, (.istore_n 3, 88, 3, 0, 0, 0)), (88, (.iload_n 3, 89, 3, 0, 0, 0)), (89, (.aload_n 0, 90, 0, 0, 0, 0)), (90, (.getfield 18, 93, 2, 3, 60, 0)), (93, (.if_icmp .ge 29, 96, 122, 0, 0, 0)), (96, (.aload_n 0, 97, 0, 0, 0, 0)), (97, (.getfield 9, 100, 0, 3, 58, 0)), (100, (.iload_n 2, 101, 2, 0, 0, 0)), (101, (.iload_n 3, 102, 3, 0, 0, 0)), (102, (.invokestatic 25, 105, 10, 0, 187, 0)), (105, (.aload_n 0, 106, 0, 0, 0, 0)), (106, (.getfield 15, 109, 1, 3, 59, 0)), (109, (.iload_n 2, 110, 2, 0, 0, 0)), (110, (.iload_n 3, 111, 3, 0, 0, 0)), (111, (.invokestatic 25, 114, 10, 0, 187, 0)), (114, (.iaload, 115, 0, 0, 0, 0)), (115, (.iastore, 116, 0, 0, 0, 0)), (116, (.iinc 3 1, 119, 3, 0, 0, 1)), (119, (.goto (-31), 122, 88, 0, 0, 0)), (122, (.iinc 2 1, 125, 2, 0, 0, 1)), (125, (.goto (-47), 128, 78, 0, 0, 0)), (128, (.iconst 1, 129, 0, 0, 0, 1)), (129, (.ireturn, 130, 0, 0, 0, 0))]
def tb_J9_abs_0f7a4 : List (Nat × ix_E) := [(0, (.iload_n 0, 1, 0, 0, 0, 0)), (1, (.ifCond .ge 8, 4, 9, 0, 0, 0)), (4, (.iload_n 0, 5, 0, 0, 0, 0)), (5, (.ineg, 6, 0, 0, 0, 0)), (6, (.goto 4, 9, 10, 0, 0, 0)), (9, (.iload_n 0, 10, 0, 0, 0, 0)), (10, (.ireturn, 11, 0, 0, 0, 0))]
def tb_X3_nearestMultiple : List (Nat × ix_E) := [(0, (.iload_n 0, 1, 0, 0, 0, 0)), (1, (.invokestatic 71, 4, 55, 0, 495, 0)), (4, (.istore_n 2, 5, 2, 0, 0, 0)), (5, (.iload_n 2, 6, 2, 0, 0, 0)), (6, (.iload_n 1, 7, 1, 0, 0, 0)), (7, (.irem, 8, 0, 0, 0, 0)), (8, (.istore_n 3, 9, 3, 0, 0, 0)), (9, (.iload_n 3, 10, 3, 0, 0, 0)), (10, (.iconst 2, 11, 0, 0, 0, 2)), (11, (.imul, 12, 0, 0, 0, 0)), (12, (.iload_n 1, 13, 1, 0, 0, 0)), (13, (.if_icmp .le 11, 16, 24, 0, 0, 0)), (16, (.iload_n 2, 17, 2, 0, 0, 0)), (17, (.iload_n 3, 18, 3, 0, 0, 0)), (18, (.isub, 19, 0, 0, 0, 0)), (19, (.iload_n 1, 20, 1, 0, 0, 0)), (20, (.iadd, 21, 0, 0, 0, 0)), (21, (.goto 6, 24, 27, 0, 0, 0)), (24, (.iload_n 2, 25, 2, 0, 0, 0)), (25, (.iload_n 3, 26, 3, 0, 0, 0)), (26, (.isub, 27, 0, 0, 0, 0)), (27, (.istore 4, 29, 4, 0, 0, 0)), (29, (.iload_n 0, 30, 0, 0, 0, 0)), (30, (.ifCond .ge 9, 33, 39, 0, 0, 0)), (33, (.iload 4, 35, 4, 0, 0, 0)), (35, (.ineg, 36, 0, 0, 0, 0)), (36, (.goto 5, 39, 41, 0, 0, 0)), (39, (.iload 4, 41, 4, 0, 0, 0)), (41, (.ireturn, 42, 0, 0, 0, 0))]
def tb_X3_cutTo : List (Nat × ix_E) := [(0, (.iconst 0, 1, 0, 0, 0, 0)), (1, (.istore_n 2, 2, 2, 0, 0, 0)), (2, (.iload_n 2, 3, 2, 0, 0, 0)), (3, (.aload_n 0, 4, 0, 0, 0, 0)), (4, (.getfield 9, 7, 0, 3, 58, 0)), (7, (.arraylength, 8, 0, 0, 0, 0)), (8, (.if_icmp .ge 25, 11, 33, 0, 0, 0)), (11, (.aload_n 0, 12, 0, 0, 0, 0)), (12, (.getfield 9, 15, 0, 3, 58, 0)), (15, (.iload_n 2, 16, 2, 0, 0, 0)), (16, (.aload_n 0, 17, 0, 0, 0, 0)), (17, (.getfield 9, 20, 0, 3, 58, 0)), (20, (.iload_n 2, 21, 2, 0, 0, 0)), (21, (.iaload, 22, 0, 0, 0, 0)), (22, (.iload_n 1, 23, 1, 0, 0, 0)), (23, (.invokestatic 68, 26, 56, 0, 492, 0)), (26, (.iastore, 27, 0, 0, 0, 0)), (27, (.iinc 2 1, 30, 2, 0, 0, 1)), (30, (.goto (-28), 33, 2, 0, 0, 0)), (33, (.return_, 34, 0, 0, 0, 0))]
def tb_X4_letters : List (Nat × ix_E) := [(0, (.iload_n 1, 1, 1, 0, 0, 0)), (1, (.iconst 1, 2, 0, 0, 0, 1)), (2, (.bipush 8, 4, 0, 0, 0, 8)), (4, (.invokestatic 44, 7, 12, 0, 155, 0)), (7, (.ifCond .ne 6, 10, 13, 0, 0, 0)), (10, (.bipush (-2), 12, 0, 0, 0, (-2))), (12, (.ireturn, 13, 0, 0, 0, 0)), (13, (.aload_n 0, 14, 0, 0, 0, 0)), (14, (.getfield 10, 17, 0, 4, 132, 0)), (17, (.iload_n 1, 18, 1, 0, 0, 0)), (18, (.invokevirtual 48, 21, 43, 0, 158, 0)), (21, (.aload_n 0, 22, 0, 0, 0, 0)), (22, (.getfield 19, 25, 1, 4, 133, 0)), (25, (.invokevirtual 52, 28, 41, 0, 162, 0)), (28, (.aload_n 0, 29, 0, 0, 0, 0)), (29, (.getfield 26, 32, 2, 4, 134, 0)), (32, (.invokevirtual 55, 35, 29, 0, 166, 0)), (35, (.iconst 1, 36, 0, 0, 0, 1)), (36, (.ireturn, 37, 0, 0, 0, 0))]
def tb_X4_isLetter : List (Nat × ix_E) := [(0, (.iload_n 1, 1, 1, 0, 0, 0)), (1, (.iconst 0, 2, 0, 0, 0, 0)), (2, (.aload_n 0, 3, 0, 0, 0, 0)), (3, (.getfield 10, 6, 0, 4, 132, 0)), (6, (.invokevirtual 120, 9, 7, 0, 178, 0)), (9, (.iconst 1, 10, 0, 0, 0, 1)), (10, (.isub, 11, 0, 0, 0, 0)), (11, (.invokestatic 44, 14, 12, 0, 155, 0)), (14, (.ireturn, 15, 0, 0, 0, 0))]
def tb_X4_weigh : List (Nat × ix_E) := [(0, (.aload_n 0, 1, 0, 0, 0, 0)), (1, (.iload_n 1, 2, 1, 0, 0, 0)), (2, (.invokevirtual 58, 5, 59, 0, 174, 0)), (5, (.ifCond .eq 22, 8, 27, 0, 0, 0)), (8, (.aload_n 0, 9, 0, 0, 0, 0)), (9, (.iload_n 2, 10, 2, 0, 0, 0)), (10, (.invokevirtual 58, 13, 59, 0, 174, 0)), (13, (.ifCond .eq 14, 16, 27, 0, 0, 0)), (16, (.iload_n 3, 17, 3, 0, 0, 0)), (17, (.bipush (-60), 19, 0, 0, 0, (-60))), (19, (.bipush 60, 21, 0, 0, 0, 60)), (21, (.invokestatic 44, 24, 12, 0, 155, 0)), (24, (.ifCond .ne 6, 27, 30, 0, 0, 0)), (27, (.ldc 62, 29, 0, 0, 182, (-2147483648))), (29, (.ireturn, 30, 0, 0, 0, 0)), (30, (.aload_n 0, 31, 0, 0, 0, 0)), (31, (.getfield 10, 34, 0, 4, 132, 0)), (34, (.iload_n 1, 35, 1, 0, 0, 0)), (35, (.iload_n 2, 36, 2, 0, 0, 0)), (36, (.invokevirtual 63, 39, 11, 0, 183, 0)), (39, (.istore 4, 41, 4, 0, 0, 0)), (41, (.aload_n 0, 42, 0, 0, 0, 0)), (42, (.getfield 10, 45, 0, 4, 132, 0)), (45, (.iload_n 1, 46, 1, 0, 0, 0)), (46, (.iload_n 2, 47, 2, 0, 0, 0)), (47, (.iload_n 3, 48, 3, 0, 0, 0)), (48, (.invokevirtual 67, 51, 45, 0, 190, 0)), (51, (.iload 4, 53, 4, 0, 0, 0)), (53, (.ireturn, 54, 0, 0, 0, 0))]
def tb_X4_weight : List (Nat × ix_E) := [(0, (.aload_n 0, 1, 0, 0, 0, 0)), (1, (.iload_n 1, 2, 1, 0, 0, 0)), (2, (.invokevirtual 58, 5, 59, 0, 174, 0)), (5, (.ifCond .eq 11, 8, 16, 0, 0, 0)), (8, (.aload_n 0, 9, 0, 0, 0, 0)), (9, (.iload_n 2, 10, 2, 0, 0, 0)), (10, (.invokevirtual 58, 13, 59, 0, 174, 0)), (13, (.ifCond .ne 6, 16, 19, 0, 0, 0)), (16, (.ldc 62, 18, 0, 0, 182, (-2147483648))), (18, (.ireturn, 19, 0, 0, 0, 0)), (19, (.aload_n 0, 20, 0, 0, 0, 0)), (20, (.getfield 10, 23, 0, 4, 132, 0)), (23, (.iload_n 1, 24, 1, 0, 0, 0)), (24, (.iload_n 2, 25, 2, 0, 0, 0)), (25, (.invokevirtual 63, 28, 11, 0, 183, 0)), (28, (.ireturn, 29, 0, 0, 0, 0))]
def tb_X4_isSetOfLetters : List (Nat × ix_E) := [(0, (.iload_n 1, 1, 1, 0, 0, 0)), (1, (.iconst 0, 2, 0, 0, 0, 0)), (2, (.aload_n 0, 3, 0, 0, 0, 0)), (3, (.getfield 10, 6, 0, 4, 132, 0)), (6, (.invokevirtual 109, 9, 44, 0, 206, 0)), (9, (.iconst 1, 10, 0, 0, 0, 1)), (10, (.isub, 11, 0, 0, 0, 0)), (11, (.invokestatic 44, 14, 12, 0, 155, 0)), (14, (.ireturn, 15, 0, 0, 0, 0))]
def tb_X4_energy : List (Nat × ix_E) := [(0, (.aload_n 0, 1, 0, 0, 0, 0)), (1, (.iload_n 1, 2, 1, 0, 0, 0)), (2, (.invokevirtual 71, 5, 62, 0, 202, 0)), (5, (.ifCond .ne 6, 8, 11, 0, 0, 0)), (8, (.ldc 62, 10, 0, 0, 182, (-2147483648))), (10, (.ireturn, 11, 0, 0, 0, 0)), (11, (.aload_n 0, 12, 0, 0, 0, 0)), (12, (.getfield 10, 15, 0, 4, 132, 0)), (15, (.iload_n 1, 16, 1, 0, 0, 0)), (16, (.invokevirtual 74, 19, 48, 0, 210, 0)), (19, (.ireturn, 20, 0, 0, 0, 0))]
def tb_X4_law : List (Nat × ix_E) := [(0, (.aload_n 0, 1, 0, 0, 0, 0)), (1, (.iload_n 1, 2, 1, 0, 0, 0)), (2, (.invokevirtual 71, 5, 62, 0, 202, 0)), (5, (.ifCond .eq 19, 8, 24, 0, 0, 0)), (8, (.iload_n 1, 9, 1, 0, 0, 0)), (9, (.ifCond .eq 15, 12, 24, 0, 0, 0)), (12, (.iload_n 2, 13, 2, 0, 0, 0)), (13, (.iconst 0, 14, 0, 0, 0, 0)), (14, (.iload_n 1, 15, 1, 0, 0, 0)), (15, (.invokestatic 78, 18, 22, 0, 226, 0)), (18, (.invokestatic 44, 21, 12, 0, 155, 0)), (21, (.ifCond .ne 6, 24, 27, 0, 0, 0)), (24, (.bipush (-2), 26, 0, 0, 0, (-2))), (26, (.ireturn, 27, 0, 0, 0, 0)), (27, (.aload_n 0, 28, 0, 0, 0, 0)), (28, (.getfield 19, 31, 1, 4, 133, 0)), (31, (.iload_n 1, 32, 1, 0, 0, 0)), (32, (.iload_n 2, 33, 2, 0, 0, 0)), (33, (.invokevirtual 83, 36, 39, 0, 232, 0)), (36, (.ireturn, 37, 0, 0, 0, 0))]
def tb_X4_unlaw : List (Nat × ix_E) := [(0, (.aload_n 0, 1, 0, 0, 0, 0)), (1, (.getfield 19, 4, 1, 4, 133, 0)), (4, (.invokevirtual 86, 7, 40, 0, 240, 0)), (7, (.ireturn, 8, 0, 0, 0, 0))]
def tb_X4_isPull : List (Nat × ix_E) := [(0, (.iload_n 0, 1, 0, 0, 0, 0)), (1, (.iconst 0, 2, 0, 0, 0, 0)), (2, (.sipush 1000, 5, 0, 0, 0, 1000)), (5, (.invokestatic 44, 8, 12, 0, 155, 0)), (8, (.ireturn, 9, 0, 0, 0, 0))]
def tb_X4_fillWeighed : List (Nat × ix_E) := [(0, (.aload_n 0, 1, 0, 0, 0, 0)), (1, (.getfield 10, 4, 0, 4, 132, 0)), (4, (.aload_n 0, 5, 0, 0, 0, 0)), (5, (.getfield 37, 8, 4, 4, 136, 0)), (8, (.invokevirtual 102, 11, 49, 0, 255, 0)), (11, (.iconst 0, 12, 0, 0, 0, 0)), (12, (.istore_n 2, 13, 2, 0, 0, 0)), (13, (.iload_n 2, 14, 2, 0, 0, 0)), (14, (.aload_n 0, 15, 0, 0, 0, 0)), (15, (.getfield 10, 18, 0, 4, 132, 0)), (18, (.invokevirtual 109, 21, 44, 0, 206, 0)), (21, (.if_icmp .ge 28, 24, 49, 0, 0, 0)), (24, (.aload_n 0, 25, 0, 0, 0, 0)), (25, (.getfield 37, 28, 4, 4, 136, 0)), (28, (.iload_n 2, 29, 2, 0, 0, 0)), (29, (.dup2, 30, 0, 0, 0, 0)), (30, (.iaload, 31, 0, 0, 0, 0)), (31, (.iload_n 1, 32, 1, 0, 0, 0)), (32, (.aload_n 0, 33, 0, 0, 0, 0)), (33, (.getfield 19, 36, 1, 4, 133, 0)), (36, (.iload_n 2, 37, 2, 0, 0, 0)), (37, (.invokevirtual 112, 40, 42, 0, 264, 0)), (40, (.imul, 41, 0, 0, 0, 0)), (41, (.iadd, 42, 0, 0, 0, 0)), (42, (.iastore, 43, 0, 0, 0, 0)), (43, (.iinc 2 1, 46, 2, 0, 0, 1)), (46, (.goto (-33), 49, 13, 0, 0, 0)), (49, (.return_, 50, 0, 0, 0, 0))]
def tb_X4_leastOfRow : List (Nat × ix_E) := [(0, (.aload_n 0, 1, 0, 0, 0, 0)), (1, (.getfield 37, 4, 4, 4, 136, 0)), (4, (.iconst 0, 5, 0, 0, 0, 0)), (5, (.iaload, 6, 0, 0, 0, 0)), (6, (.istore_n 1, 7, 1, 0, 0, 0)), (7, (.iconst 1, 8, 0, 0, 0, 1)), (8, (.istore_n 2, 9, 2, 0, 0, 0)), (9, (.iload_n 2, 10, 2, 0, 0, 0)), (10, (.aload_n 0, 11, 0, 0, 0, 0)), (11, (.getfield 10, 14, 0, 4, 132, 0)), (14, (.invokevirtual 109, 17, 44, 0, 206, 0)), (17, (.if_icmp .ge 20, 20, 37, 0, 0, 0)), (20, (.iload_n 1, 21, 1, 0, 0, 0)), (21, (.aload_n 0, 22, 0, 0, 0, 0)), (22, (.getfield 37, 25, 4, 4, 136, 0)), (25, (.iload_n 2, 26, 2, 0, 0, 0)), (26, (.iaload, 27, 0, 0, 0, 0)), (27, (.invokestatic 115, 30, 17, 0, 273, 0)), (30, (.istore_n 1, 31, 1, 0, 0, 0)), (31, (.iinc 2 1, 34, 2, 0, 0, 1)), (34, (.goto (-25), 37, 9, 0, 0, 0)), (37, (.iload_n 1, 38, 1, 0, 0, 0)), (38, (.ireturn, 39, 0, 0, 0, 0))]
def tb_X4_best : List (Nat × ix_E) := [(0, (.iload_n 1, 1, 1, 0, 0, 0)), (1, (.invokestatic 90, 4, 66, 0, 248, 0)), (4, (.ifCond .ne 6, 7, 10, 0, 0, 0)), (7, (.ldc 62, 9, 0, 0, 182, (-2147483648))), (9, (.ireturn, 10, 0, 0, 0, 0)), (10, (.aload_n 0, 11, 0, 0, 0, 0)), (11, (.iload_n 1, 12, 1, 0, 0, 0)), (12, (.invokevirtual 93, 15, 67, 0, 251, 0)), (15, (.aload_n 0, 16, 0, 0, 0, 0)), (16, (.invokevirtual 96, 19, 68, 0, 269, 0)), (19, (.ireturn, 20, 0, 0, 0, 0))]
def tb_X4_listBest : List (Nat × ix_E) := [(0, (.aload_n 0, 1, 0, 0, 0, 0)), (1, (.iload_n 1, 2, 1, 0, 0, 0)), (2, (.invokevirtual 93, 5, 67, 0, 251, 0)), (5, (.aload_n 0, 6, 0, 0, 0, 0)), (6, (.invokevirtual 96, 9, 68, 0, 269, 0)), (9, (.istore_n 2, 10, 2, 0, 0, 0)), (10, (.iconst 0, 11, 0, 0, 0, 0)), (11, (.istore_n 3, 12, 3, 0, 0, 0)), (12, (.iconst 0, 13, 0, 0, 0, 0)), (13, (.istore 4, 15, 4, 0, 0, 0)), (15, (.iload 4, 17, 4, 0, 0, 0)), (17, (.aload_n 0, 18, 0, 0, 0, 0)), (18, (.getfield 10, 21, 0, 4, 132, 0)), (21, (.invokevirtual 109, 24, 44, 0, 206, 0)), (24, (.if_icmp .ge 31, 27, 55, 0, 0, 0)), (27, (.aload_n 0, 28, 0, 0, 0, 0)), (28, (.getfield 37, 31, 4, 4, 136, 0)), (31, (.iload 4, 33, 4, 0, 0, 0)), (33, (.iaload, 34, 0, 0, 0, 0)), (34, (.iload_n 2, 35, 2, 0, 0, 0)), (35, (.if_icmp .ne 14, 38, 49, 0, 0, 0)), (38, (.aload_n 0, 39, 0, 0, 0, 0)), (39, (.getfield 41, 42, 5, 4, 137, 0)), (42, (.iload_n 3, 43, 3, 0, 0, 0)), (43, (.iload 4, 45, 4, 0, 0, 0)), (45, (.iastore, 46, 0, 0, 0, 0)), (46, (.iinc 3 1, 49, 3, 0, 0, 1)), (49, (.iinc 4 1, 52, 4, 0, 0, 1)), (52, (.goto (-37), 55, 15, 0, 0, 0)), (55, (.iload_n 3, 56, 3, 0, 0, 0)), (56, (.ireturn, 57, 0, 0, 0, 0))]
def tb_X4_many : List (Nat × ix_E) := [(0, (.iload_n 1, 1, 1, 0, 0, 0)), (1, (.invokestatic 90, 4, 66, 0, 248, 0)), (4, (.ifCond .ne 6, 7, 10, 0, 0, 0)), (7, (.bipush (-2), 9, 0, 0, 0, (-2))), (9, (.ireturn, 10, 0, 0, 0, 0)), (10, (.aload_n 0, 11, 0, 0, 0, 0)), (11, (.iload_n 1, 12, 1, 0, 0, 0)), (12, (.invokevirtual 99, 15, 70, 0, 280, 0)), (15, (.ireturn, 16, 0, 0, 0, 0))]
def tb_X4_bestAt : List (Nat × ix_E) := [(0, (.iload_n 1, 1, 1, 0, 0, 0)), (1, (.invokestatic 90, 4, 66, 0, 248, 0)), (4, (.ifCond .ne 6, 7, 10, 0, 0, 0)), (7, (.bipush (-2), 9, 0, 0, 0, (-2))), (9, (.ireturn, 10, 0, 0, 0, 0)), (10, (.aload_n 0, 11, 0, 0, 0, 0)), (11, (.iload_n 1, 12, 1, 0, 0, 0)), (12, (.invokevirtual 99, 15, 70, 0, 280, 0)), (15, (.istore_n 3, 16, 3, 0, 0, 0)), (16, (.iload_n 2, 17, 2, 0, 0, 0)), (17, (.iconst 0, 18, 0, 0, 0, 0)), (18, (.iload_n 3, 19, 3, 0, 0, 0)), (19, (.iconst 1, 20, 0, 0, 0, 1)), (20, (.isub, 21, 0, 0, 0, 0)), (21, (.invokestatic 44, 24, 12, 0, 155, 0)), (24, (.ifCond .eq 12, 27, 36, 0, 0, 0)), (27, (.aload_n 0, 28, 0, 0, 0, 0)), (28, (.getfield 41, 31, 5, 4, 137, 0)), (31, (.iload_n 2, 32, 2, 0, 0, 0)), (32, (.iaload, 33, 0, 0, 0, 0)), (33, (.goto 5, 36, 38, 0, 0, 0)), (36, (.bipush (-2), 38, 0, 0, 0, (-2))), (38, (.ireturn, 39, 0, 0, 0, 0))]
def tb_X4_bestKeeper : List (Nat × ix_E) := [(0, (.iconst (-1), 1, 0, 0, 0, (-1))), (1, (.istore_n 1, 2, 1, 0, 0, 0)), (2, (.iconst 0, 3, 0, 0, 0, 0)), (3, (.istore_n 2, 4, 2, 0, 0, 0)), (4, (.iload_n 2, 5, 2, 0, 0, 0)), (5, (.aload_n 0, 6, 0, 0, 0, 0)), (6, (.getfield 10, 9, 0, 4, 132, 0)), (9, (.invokevirtual 109, 12, 44, 0, 206, 0)), (12, (.if_icmp .ge 42, 15, 54, 0, 0, 0)), (15, (.aload_n 0, 16, 0, 0, 0, 0)), (16, (.getfield 19, 19, 1, 4, 133, 0)), (19, (.iload_n 2, 20, 2, 0, 0, 0)), (20, (.invokevirtual 112, 23, 42, 0, 264, 0)), (23, (.ifCond .ne 25, 26, 48, 0, 0, 0)), (26, (.iload_n 1, 27, 1, 0, 0, 0)), (27, (.iconst (-1), 28, 0, 0, 0, (-1))), (28, (.if_icmp .eq 18, 31, 46, 0, 0, 0)), (31, (.aload_n 0, 32, 0, 0, 0, 0)), (32, (.getfield 37, 35, 4, 4, 136, 0)), (35, (.iload_n 2, 36, 2, 0, 0, 0)), (36, (.iaload, 37, 0, 0, 0, 0)), (37, (.aload_n 0, 38, 0, 0, 0, 0)), (38, (.getfield 37, 41, 4, 4, 136, 0)), (41, (.iload_n 1, 42, 1, 0, 0, 0)), (42, (.iaload, 43, 0, 0, 0, 0)), (43, (.if_icmp .ge 5, 46, 48, 0, 0, 0)), (46, (.iload_n 2, 47, 2, 0, 0, 0)), (47, (.istore_n 1, 48, 1, 0, 0, 0)), (48, (.iinc 2 1, 51, 2, 0, 0, 1)), (51, (.goto (-47), 54, 4, 0, 0, 0)), (54, (.iload_n 1, 55, 1, 0, 0, 0)), (55, (.ireturn, 56, 0, 0, 0, 0))]
def tb_X4_pull : List (Nat × ix_E) := [(0, (.aload_n 0, 1, 0, 0, 0, 0)), (1, (.getfield 10, 4, 0, 4, 132, 0)), (4, (.aload_n 0, 5, 0, 0, 0, 0)), (5, (.getfield 37, 8, 4, 4, 136, 0)), (8, (.invokevirtual 102, 11, 49, 0, 255, 0)), (11, (.aload_n 0, 12, 0, 0, 0, 0)), (12, (.invokevirtual 106, 15, 73, 0, 292, 0)), (15, (.istore_n 1, 16, 1, 0, 0, 0)), (16, (.iload_n 1, 17, 1, 0, 0, 0)), (17, (.iconst (-1), 18, 0, 0, 0, (-1))), (18, (.if_icmp .ne 5, 21, 23, 0, 0, 0)), (21, (.iconst (-1), 22, 0, 0, 0, (-1))), (22, (.ireturn, 23, 0, 0, 0, 0)), (23, (.iconst 0, 24, 0, 0, 0, 0)), (24, (.istore_n 2, 25, 2, 0, 0, 0)), (25, (.iconst 0, 26, 0, 0, 0, 0)), (26, (.istore_n 3, 27, 3, 0, 0, 0)), (27, (.iload_n 3, 28, 3, 0, 0, 0)), (28, (.aload_n 0, 29, 0, 0, 0, 0)), (29, (.getfield 10, 32, 0, 4, 132, 0)), (32, (.invokevirtual 109, 35, 44, 0, 206, 0)), (35, (.if_icmp .ge 63, 38, 98, 0, 0, 0)), (38, (.aload_n 0, 39, 0, 0, 0, 0)), (39, (.getfield 19, 42, 1, 4, 133, 0)), (42, (.iload_n 3, 43, 3, 0, 0, 0)), (43, (.invokevirtual 112, 46, 42, 0, 264, 0)), (46, (.istore 4, 48, 4, 0, 0, 0)), (48, (.iload 4, 50, 4, 0, 0, 0)), (50, (.ifCond .le 42, 53, 92, 0, 0, 0)), (53, (.aload_n 0, 54, 0, 0, 0, 0)), (54, (.getfield 37, 57, 4, 4, 136, 0)), (57, (.iload_n 3, 58, 3, 0, 0, 0)), (58, (.iaload, 59, 0, 0, 0, 0)), (59, (.iload_n 2, 60, 2, 0, 0, 0)), (60, (.iload 4, 62, 4, 0, 0, 0)), (62, (.imul, 63, 0, 0, 0, 0)), (63, (.iadd, 64, 0, 0, 0, 0)), (64, (.aload_n 0, 65, 0, 0, 0, 0)), (65, (.getfield 37, 68, 4, 4, 136, 0)), (68, (.iload_n 1, 69, 1, 0, 0, 0)), (69, (.iaload, 70, 0, 0, 0, 0)), (70, (.if_icmp .gt 22, 73, 92, 0, 0, 0)), (73, (.aload_n 0, 74, 0, 0, 0, 0)), (74, (.getfield 37, 77, 4, 4, 136, 0)), (77, (.iload_n 1, 78, 1, 0, 0, 0)), (78, (.iaload, 79, 0, 0, 0, 0)), (79, (.aload_n 0, 80, 0, 0, 0, 0)), (80, (.getfield 37, 83, 4, 4, 136, 0)), (83, (.iload_n 3, 84, 3, 0, 0, 0)), (84, (.iaload, 85, 0, 0, 0, 0)), (85, (.isub, 86, 0, 0, 0, 0)), (86, (.iload 4, 88, 4, 0, 0, 0)), (88, (.idiv, 89, 0, 0, 0, 0)), (89, (.iconst 1, 90, 0, 0, 0, 1)), (90, (.iadd, 91, 0, 0, 0, 0)), (91, (.istore_n 2, 92, 2, 0, 0, 0)), (92, (.iinc 3 1, 95, 3, 0, 0, 1)), (95, (.goto (-68), 98, 27, 0, 0, 0)), (98, (.iload_n 2, 99, 2, 0, 0, 0)), (99, (.sipush 1001, 102, 0, 0, 0, 1001)), (102, (.invokestatic 115, 105, 17, 0, 273, 0)), (105, (.ireturn, 106, 0, 0, 0, 0))]
def tb_X4_fixed : List (Nat × ix_E) := [(0, (.iload_n 1, 1, 1, 0, 0, 0)), (1, (.iconst 0, 2, 0, 0, 0, 0)), (2, (.iconst 1, 3, 0, 0, 0, 1)), (3, (.invokestatic 44, 6, 12, 0, 155, 0)), (6, (.ifCond .ne 6, 9, 12, 0, 0, 0)), (9, (.bipush (-2), 11, 0, 0, 0, (-2))), (11, (.ireturn, 12, 0, 0, 0, 0)), (12, (.iconst 0, 13, 0, 0, 0, 0)), (13, (.istore_n 2, 14, 2, 0, 0, 0)), (14, (.iconst 0, 15, 0, 0, 0, 0)), (15, (.istore_n 3, 16, 3, 0, 0, 0)), (16, (.iconst 1, 17, 0, 0, 0, 1)), (17, (.istore 4, 19, 4, 0, 0, 0)), (19, (.iconst 0, 20, 0, 0, 0, 0)), (20, (.istore 5, 22, 5, 0, 0, 0)), (22, (.iload 4, 24, 4, 0, 0, 0)), (24, (.ifCond .eq 90, 27, 114, 0, 0, 0)), (27, (.iload 5, 29, 5, 0, 0, 0)), (29, (.bipush 8, 31, 0, 0, 0, 8)), (31, (.if_icmp .ge 83, 34, 114, 0, 0, 0)), (34, (.iconst 0, 35, 0, 0, 0, 0)), (35, (.istore 4, 37, 4, 0, 0, 0)), (37, (.iconst 0, 38, 0, 0, 0, 0)), (38, (.istore 6, 40, 6, 0, 0, 0)), (40, (.iload 6, 42, 6, 0, 0, 0)), (42, (.aload_n 0, 43, 0, 0, 0, 0)), (43, (.getfield 10, 46, 0, 4, 132, 0)), (46, (.invokevirtual 120, 49, 7, 0, 178, 0)), (49, (.if_icmp .ge 59, 52, 108, 0, 0, 0)), (52, (.iload_n 2, 53, 2, 0, 0, 0)), (53, (.iload 6, 55, 6, 0, 0, 0)), (55, (.invokestatic 123, 58, 5, 0, 300, 0)), (58, (.ifCond .eq 7, 61, 65, 0, 0, 0)), (61, (.iconst (-1), 62, 0, 0, 0, (-1))), (62, (.goto 14, 65, 76, 0, 0, 0)), (65, (.aload_n 0, 66, 0, 0, 0, 0)), (66, (.getfield 10, 69, 0, 4, 132, 0)), (69, (.iload 6, 71, 6, 0, 0, 0)), (71, (.iload_n 2, 72, 2, 0, 0, 0)), (72, (.iload_n 3, 73, 3, 0, 0, 0)), (73, (.invokevirtual 127, 76, 51, 0, 301, 0)), (76, (.istore 7, 78, 7, 0, 0, 0)), (78, (.iload 7, 80, 7, 0, 0, 0)), (80, (.iconst (-1), 81, 0, 0, 0, (-1))), (81, (.if_icmp .eq 21, 84, 102, 0, 0, 0)), (84, (.iload_n 2, 85, 2, 0, 0, 0)), (85, (.iconst 1, 86, 0, 0, 0, 1)), (86, (.iload 6, 88, 6, 0, 0, 0)), (88, (.ishl, 89, 0, 0, 0, 0)), (89, (.ior, 90, 0, 0, 0, 0)), (90, (.istore_n 2, 91, 2, 0, 0, 0)), (91, (.iload_n 3, 92, 3, 0, 0, 0)), (92, (.iload 7, 94, 7, 0, 0, 0)), (94, (.iload 6, 96, 6, 0, 0, 0)), (96, (.ishl, 97, 0, 0, 0, 0)), (97, (.ior, 98, 0, 0, 0, 0)), (98, (.istore_n 3, 99, 3, 0, 0, 0)), (99, (.iconst 1, 100, 0, 0, 0, 1)), (100, (.istore 4, 102, 4, 0, 0, 0)), (102, (.iinc 6 1, 105, 6, 0, 0, 1)), (105, (.goto (-65), 108, 40, 0, 0, 0)), (108, (.iinc 5 1, 111, 5, 0, 0, 1)), (111, (.goto (-89), 114, 22, 0, 0, 0)), (114, (.iload_n 1, 115, 1, 0, 0, 0)), (115, (.ifCond .ne 7, 118, 122, 0, 0, 0)), (118, (.iload_n 2, 119, 2, 0, 0, 0)), (119, (.goto 4, 122, 123, 0, 0, 0)), (122, (.iload_n 3, 123, 3, 0, 0, 0)), (123, (.ireturn, 124, 0, 0, 0, 0))]
def tb_X4_floor : List (Nat × ix_E) := [(0, (.aload_n 0, 1, 0, 0, 0, 0)), (1, (.getfield 10, 4, 0, 4, 132, 0)), (4, (.invokevirtual 131, 7, 52, 0, 313, 0)), (7, (.ireturn, 8, 0, 0, 0, 0))]
def tb_X4_kill : List (Nat × ix_E) := [(0, (.iload_n 1, 1, 1, 0, 0, 0)), (1, (.iconst 0, 2, 0, 0, 0, 0)), (2, (.bipush 19, 4, 0, 0, 0, 19)), (4, (.invokestatic 44, 7, 12, 0, 155, 0)), (7, (.ifCond .ne 6, 10, 13, 0, 0, 0)), (10, (.bipush (-2), 12, 0, 0, 0, (-2))), (12, (.ireturn, 13, 0, 0, 0, 0)), (13, (.aload_n 0, 14, 0, 0, 0, 0)), (14, (.getfield 26, 17, 2, 4, 134, 0)), (17, (.iload_n 1, 18, 1, 0, 0, 0)), (18, (.invokevirtual 134, 21, 25, 0, 321, 0)), (21, (.istore_n 3, 22, 3, 0, 0, 0)), (22, (.aload_n 0, 23, 0, 0, 0, 0)), (23, (.getfield 26, 26, 2, 4, 134, 0)), (26, (.iload_n 1, 27, 1, 0, 0, 0)), (27, (.iload_n 2, 28, 2, 0, 0, 0)), (28, (.invokevirtual 137, 31, 26, 0, 326, 0)), (31, (.iload_n 3, 32, 3, 0, 0, 0)), (32, (.ifCond .eq 7, 35, 39, 0, 0, 0)), (35, (.iconst 1, 36, 0, 0, 0, 1)), (36, (.goto 4, 39, 40, 0, 0, 0)), (39, (.iconst 0, 40, 0, 0, 0, 0)), (40, (.ireturn, 41, 0, 0, 0, 0))]
def tb_X4_chain : List (Nat × ix_E) := [(0, (.aload_n 0, 1, 0, 0, 0, 0)), (1, (.iload_n 1, 2, 1, 0, 0, 0)), (2, (.invokevirtual 58, 5, 59, 0, 174, 0)), (5, (.ifCond .eq 13, 8, 18, 0, 0, 0)), (8, (.iload_n 2, 9, 2, 0, 0, 0)), (9, (.iconst 0, 10, 0, 0, 0, 0)), (10, (.ldc 141, 12, 0, 0, 334, 1048575)), (12, (.invokestatic 44, 15, 12, 0, 155, 0)), (15, (.ifCond .ne 6, 18, 21, 0, 0, 0)), (18, (.bipush (-2), 20, 0, 0, 0, (-2))), (20, (.ireturn, 21, 0, 0, 0, 0)), (21, (.aload_n 0, 22, 0, 0, 0, 0)), (22, (.getfield 26, 25, 2, 4, 134, 0)), (25, (.iload_n 1, 26, 1, 0, 0, 0)), (26, (.iload_n 2, 27, 2, 0, 0, 0)), (27, (.invokevirtual 142, 30, 28, 0, 335, 0)), (30, (.iload_n 2, 31, 2, 0, 0, 0)), (31, (.invokestatic 78, 34, 22, 0, 226, 0)), (34, (.ireturn, 35, 0, 0, 0, 0))]
def tb_X4_stands : List (Nat × ix_E) := [(0, (.aload_n 0, 1, 0, 0, 0, 0)), (1, (.getfield 26, 4, 2, 4, 134, 0)), (4, (.aload_n 0, 5, 0, 0, 0, 0)), (5, (.getfield 10, 8, 0, 4, 132, 0)), (8, (.invokevirtual 146, 11, 36, 0, 343, 0)), (11, (.ireturn, 12, 0, 0, 0, 0))]
def tb_X4_link : List (Nat × ix_E) := [(0, (.aload_n 0, 1, 0, 0, 0, 0)), (1, (.iload_n 1, 2, 1, 0, 0, 0)), (2, (.invokevirtual 58, 5, 59, 0, 174, 0)), (5, (.ifCond .eq 25, 8, 30, 0, 0, 0)), (8, (.aload_n 0, 9, 0, 0, 0, 0)), (9, (.iload_n 2, 10, 2, 0, 0, 0)), (10, (.invokevirtual 58, 13, 59, 0, 174, 0)), (13, (.ifCond .eq 17, 16, 30, 0, 0, 0)), (16, (.iload_n 1, 17, 1, 0, 0, 0)), (17, (.iload_n 2, 18, 2, 0, 0, 0)), (18, (.if_icmp .eq 12, 21, 30, 0, 0, 0)), (21, (.iload_n 3, 22, 3, 0, 0, 0)), (22, (.iconst 0, 23, 0, 0, 0, 0)), (23, (.iconst 1, 24, 0, 0, 0, 1)), (24, (.invokestatic 44, 27, 12, 0, 155, 0)), (27, (.ifCond .ne 6, 30, 33, 0, 0, 0)), (30, (.bipush (-2), 32, 0, 0, 0, (-2))), (32, (.ireturn, 33, 0, 0, 0, 0)), (33, (.aload_n 0, 34, 0, 0, 0, 0)), (34, (.getfield 10, 37, 0, 4, 132, 0)), (37, (.iload_n 1, 38, 1, 0, 0, 0)), (38, (.iload_n 2, 39, 2, 0, 0, 0)), (39, (.invokevirtual 63, 42, 11, 0, 183, 0)), (42, (.ifCond .eq 17, 45, 59, 0, 0, 0)), (45, (.aload_n 0, 46, 0, 0, 0, 0)), (46, (.getfield 26, 49, 2, 4, 134, 0)), (49, (.aload_n 0, 50, 0, 0, 0, 0)), (50, (.getfield 10, 53, 0, 4, 132, 0)), (53, (.invokevirtual 146, 56, 36, 0, 343, 0)), (56, (.ifCond .eq 6, 59, 62, 0, 0, 0)), (59, (.bipush (-3), 61, 0, 0, 0, (-3))), (61, (.ireturn, 62, 0, 0, 0, 0)), (62, (.iload_n 1, 63, 1, 0, 0, 0)), (63, (.iload_n 2, 64, 2, 0, 0, 0)), (64, (.invokestatic 115, 67, 17, 0, 273, 0)), (67, (.istore 4, 69, 4, 0, 0, 0)), (69, (.iload_n 1, 70, 1, 0, 0, 0)), (70, (.iload_n 2, 71, 2, 0, 0, 0)), (71, (.invokestatic 150, 74, 18, 0, 386, 0)), (74, (.istore 5, 76, 5, 0, 0, 0)), (76, (.aload_n 0, 77, 0, 0, 0, 0)), (77, (.getfield 26, 80, 2, 4, 134, 0)), (80, (.iload 4, 82, 4, 0, 0, 0)), (82, (.iload 5, 84, 5, 0, 0, 0)), (84, (.invokevirtual 153, 87, 15, 0, 387, 0)), (87, (.istore 6, 89, 6, 0, 0, 0)), (89, (.iload_n 3, 90, 3, 0, 0, 0)), (90, (.ifCond .ne 8, 93, 98, 0, 0, 0)), (93, (.iload 6, 95, 6, 0, 0, 0)), (95, (.goto 14, 98, 109, 0, 0, 0)), (98, (.aload_n 0, 99, 0, 0, 0, 0)), (99, (.getfield 26, 102, 2, 4, 134, 0)), (102, (.iload 6, 104, 6, 0, 0, 0)), (104, (.iload 5, 106, 5, 0, 0, 0)), (106, (.invokevirtual 156, 109, 16, 0, 392, 0)), (109, (.ireturn, 110, 0, 0, 0, 0))]
def tb_X4_strong : List (Nat × ix_E) := [(0, (.aload_n 0, 1, 0, 0, 0, 0)), (1, (.getfield 26, 4, 2, 4, 134, 0)), (4, (.aload_n 0, 5, 0, 0, 0, 0)), (5, (.getfield 10, 8, 0, 4, 132, 0)), (8, (.invokevirtual 146, 11, 36, 0, 343, 0)), (11, (.ifCond .eq 6, 14, 17, 0, 0, 0)), (14, (.bipush (-3), 16, 0, 0, 0, (-3))), (16, (.ireturn, 17, 0, 0, 0, 0)), (17, (.aload_n 0, 18, 0, 0, 0, 0)), (18, (.getfield 10, 21, 0, 4, 132, 0)), (21, (.aload_n 0, 22, 0, 0, 0, 0)), (22, (.getfield 37, 25, 4, 4, 136, 0)), (25, (.invokevirtual 102, 28, 49, 0, 255, 0)), (28, (.aload_n 0, 29, 0, 0, 0, 0)), (29, (.getfield 33, 32, 3, 4, 135, 0)), (32, (.aload_n 0, 33, 0, 0, 0, 0)), (33, (.getfield 10, 36, 0, 4, 132, 0)), (36, (.aload_n 0, 37, 0, 0, 0, 0)), (37, (.getfield 26, 40, 2, 4, 134, 0)), (40, (.invokevirtual 159, 43, 20, 0, 400, 0)), (43, (.aload_n 0, 44, 0, 0, 0, 0)), (44, (.getfield 33, 47, 3, 4, 135, 0)), (47, (.aload_n 0, 48, 0, 0, 0, 0)), (48, (.invokevirtual 96, 51, 68, 0, 269, 0)), (51, (.invokevirtual 163, 54, 24, 0, 445, 0)), (54, (.ireturn, 55, 0, 0, 0, 0))]
def tb_X4_readBack : List (Nat × ix_E) := [(0, (.iload_n 1, 1, 1, 0, 0, 0)), (1, (.aload_n 0, 2, 0, 0, 0, 0)), (2, (.getfield 26, 5, 2, 4, 134, 0)), (5, (.invokevirtual 166, 8, 4, 0, 463, 0)), (8, (.iconst (-1), 9, 0, 0, 0, (-1))), (9, (.ixor, 10, 0, 0, 0, 0)), (10, (.iand, 11, 0, 0, 0, 0)), (11, (.ifCond .eq 6, 14, 17, 0, 0, 0)), (14, (.bipush (-2), 16, 0, 0, 0, (-2))), (16, (.ireturn, 17, 0, 0, 0, 0)), (17, (.aload_n 0, 18, 0, 0, 0, 0)), (18, (.getfield 26, 21, 2, 4, 134, 0)), (21, (.aload_n 0, 22, 0, 0, 0, 0)), (22, (.getfield 10, 25, 0, 4, 132, 0)), (25, (.invokevirtual 146, 28, 36, 0, 343, 0)), (28, (.ifCond .eq 6, 31, 34, 0, 0, 0)), (31, (.bipush (-3), 33, 0, 0, 0, (-3))), (33, (.ireturn, 34, 0, 0, 0, 0)), (34, (.iconst 0, 35, 0, 0, 0, 0)), (35, (.istore_n 2, 36, 2, 0, 0, 0)), (36, (.iconst 0, 37, 0, 0, 0, 0)), (37, (.istore_n 3, 38, 3, 0, 0, 0)), (38, (.iload_n 3, 39, 3, 0, 0, 0)), (39, (.aload_n 0, 40, 0, 0, 0, 0)), (40, (.getfield 10, 43, 0, 4, 132, 0)), (43, (.invokevirtual 120, 46, 7, 0, 178, 0)), (46, (.if_icmp .ge 23, 49, 69, 0, 0, 0)), (49, (.iload_n 2, 50, 2, 0, 0, 0)), (50, (.aload_n 0, 51, 0, 0, 0, 0)), (51, (.getfield 26, 54, 2, 4, 134, 0)), (54, (.iload_n 3, 55, 3, 0, 0, 0)), (55, (.iload_n 1, 56, 1, 0, 0, 0)), (56, (.invokevirtual 169, 59, 37, 0, 464, 0)), (59, (.iload_n 3, 60, 3, 0, 0, 0)), (60, (.ishl, 61, 0, 0, 0, 0)), (61, (.ior, 62, 0, 0, 0, 0)), (62, (.istore_n 2, 63, 2, 0, 0, 0)), (63, (.iinc 3 1, 66, 3, 0, 0, 1)), (66, (.goto (-28), 69, 38, 0, 0, 0)), (69, (.iload_n 2, 70, 2, 0, 0, 0)), (70, (.ireturn, 71, 0, 0, 0, 0))]
def tb_X4_turn : List (Nat × ix_E) := [(0, (.aload_n 0, 1, 0, 0, 0, 0)), (1, (.iload_n 1, 2, 1, 0, 0, 0)), (2, (.invokevirtual 71, 5, 62, 0, 202, 0)), (5, (.ifCond .ne 6, 8, 11, 0, 0, 0)), (8, (.ldc 62, 10, 0, 0, 182, (-2147483648))), (10, (.ireturn, 11, 0, 0, 0, 0)), (11, (.aload_n 0, 12, 0, 0, 0, 0)), (12, (.getfield 10, 15, 0, 4, 132, 0)), (15, (.iload_n 1, 16, 1, 0, 0, 0)), (16, (.invokevirtual 172, 19, 54, 0, 473, 0)), (19, (.ifCond .ne 6, 22, 25, 0, 0, 0)), (22, (.bipush (-3), 24, 0, 0, 0, (-3))), (24, (.ireturn, 25, 0, 0, 0, 0)), (25, (.aload_n 0, 26, 0, 0, 0, 0)), (26, (.getfield 10, 29, 0, 4, 132, 0)), (29, (.invokevirtual 175, 32, 1, 0, 483, 0)), (32, (.ireturn, 33, 0, 0, 0, 0))]
def tb_X4_cut : List (Nat × ix_E) := [(0, (.iload_n 1, 1, 1, 0, 0, 0)), (1, (.iconst 1, 2, 0, 0, 0, 1)), (2, (.bipush 20, 4, 0, 0, 0, 20)), (4, (.invokestatic 44, 7, 12, 0, 155, 0)), (7, (.ifCond .ne 6, 10, 13, 0, 0, 0)), (10, (.bipush (-2), 12, 0, 0, 0, (-2))), (12, (.ireturn, 13, 0, 0, 0, 0)), (13, (.aload_n 0, 14, 0, 0, 0, 0)), (14, (.getfield 10, 17, 0, 4, 132, 0)), (17, (.aload_n 0, 18, 0, 0, 0, 0)), (18, (.getfield 37, 21, 4, 4, 136, 0)), (21, (.invokevirtual 102, 24, 49, 0, 255, 0)), (24, (.aload_n 0, 25, 0, 0, 0, 0)), (25, (.getfield 10, 28, 0, 4, 132, 0)), (28, (.iload_n 1, 29, 1, 0, 0, 0)), (29, (.invokevirtual 178, 32, 57, 0, 488, 0)), (32, (.aload_n 0, 33, 0, 0, 0, 0)), (33, (.getfield 10, 36, 0, 4, 132, 0)), (36, (.aload_n 0, 37, 0, 0, 0, 0)), (37, (.getfield 41, 40, 5, 4, 137, 0)), (40, (.invokevirtual 102, 43, 49, 0, 255, 0)), (43, (.iconst 0, 44, 0, 0, 0, 0)), (44, (.istore_n 2, 45, 2, 0, 0, 0)), (45, (.iconst 0, 46, 0, 0, 0, 0)), (46, (.istore_n 3, 47, 3, 0, 0, 0)), (47, (.iload_n 3, 48, 3, 0, 0, 0)), (48, (.aload_n 0, 49, 0, 0, 0, 0)), (49, (.getfield 10, 52, 0, 4, 132, 0)), (52, (.invokevirtual 109, 55, 44, 0, 206, 0)), (55, (.if_icmp .ge 30, 58, 85, 0, 0, 0)), (58, (.iload_n 2, 59, 2, 0, 0, 0)), (59, (.aload_n 0, 60, 0, 0, 0, 0)), (60, (.getfield 41, 63, 5, 4, 137, 0)), (63, (.iload_n 3, 64, 3, 0, 0, 0)), (64, (.iaload, 65, 0, 0, 0, 0)), (65, (.aload_n 0, 66, 0, 0, 0, 0)), (66, (.getfield 37, 69, 4, 4, 136, 0)), (69, (.iload_n 3, 70, 3, 0, 0, 0)), (70, (.iaload, 71, 0, 0, 0, 0)), (71, (.isub, 72, 0, 0, 0, 0)), (72, (.invokestatic 181, 75, 55, 0, 498, 0)), (75, (.invokestatic 150, 78, 18, 0, 386, 0)), (78, (.istore_n 2, 79, 2, 0, 0, 0)), (79, (.iinc 3 1, 82, 3, 0, 0, 1)), (82, (.goto (-35), 85, 47, 0, 0, 0)), (85, (.iload_n 2, 86, 2, 0, 0, 0)), (86, (.ireturn, 87, 0, 0, 0, 0))]
def tb_X4_walk : List (Nat × ix_E) := [(0, (.aload_n 0, 1, 0, 0, 0, 0)), (1, (.iload_n 1, 2, 1, 0, 0, 0)), (2, (.invokevirtual 71, 5, 62, 0, 202, 0)), (5, (.ifCond .eq 35, 8, 40, 0, 0, 0)), (8, (.iload_n 3, 9, 3, 0, 0, 0)), (9, (.iconst 0, 10, 0, 0, 0, 0)), (10, (.bipush 100, 12, 0, 0, 0, 100)), (12, (.invokestatic 44, 15, 12, 0, 155, 0)), (15, (.ifCond .eq 25, 18, 40, 0, 0, 0)), (18, (.iload 4, 20, 4, 0, 0, 0)), (20, (.iconst 1, 21, 0, 0, 0, 1)), (21, (.sipush 200, 24, 0, 0, 0, 200)), (24, (.invokestatic 44, 27, 12, 0, 155, 0)), (27, (.ifCond .eq 13, 30, 40, 0, 0, 0)), (30, (.iload 5, 32, 5, 0, 0, 0)), (32, (.iconst 0, 33, 0, 0, 0, 0)), (33, (.iconst 1, 34, 0, 0, 0, 1)), (34, (.invokestatic 44, 37, 12, 0, 155, 0)), (37, (.ifCond .ne 6, 40, 43, 0, 0, 0)), (40, (.ldc 62, 42, 0, 0, 182, (-2147483648))), (42, (.ireturn, 43, 0, 0, 0, 0)), (43, (.iload_n 2, 44, 2, 0, 0, 0)), (44, (.istore 6, 46, 6, 0, 0, 0)), (46, (.iload_n 3, 47, 3, 0, 0, 0)), (47, (.istore 7, 49, 7, 0, 0, 0)), (49, (.iload_n 1, 50, 1, 0, 0, 0)), (50, (.istore 8, 52, 8, 0, 0, 0)), (52, (.aload_n 0, 53, 0, 0, 0, 0)), (53, (.getfield 10, 56, 0, 4, 132, 0)), (56, (.iload_n 1, 57, 1, 0, 0, 0)), (57, (.invokevirtual 74, 60, 48, 0, 210, 0)), (60, (.istore 9, 62, 9, 0, 0, 0)), (62, (.iload 9, 64, 9, 0, 0, 0)), (64, (.istore 10, 66, 10, 0, 0, 0)), (66, (.iconst 1, 67, 0, 0, 0, 1)), (67, (.istore 11, 69, 11, 0, 0, 0)), (69, (.iload 11, 71, 11, 0, 0, 0)), (71, (.iload 4, 73, 4, 0, 0, 0)), (73, (.if_icmp .gt 110, 76, 183, 0, 0, 0)), (76, (.iload 6, 78, 6, 0, 0, 0)), (78, (.ldc 184, 80, 0, 0, 503, 1103515245)), (80, (.imul, 81, 0, 0, 0, 0)), (81, (.sipush 12345, 84, 0, 0, 0, 12345)), (84, (.iadd, 85, 0, 0, 0, 0)), (85, (.ldc 185, 87, 0, 0, 504, 2147483647)), (87, (.iand, 88, 0, 0, 0, 0)), (88, (.istore 6, 90, 6, 0, 0, 0)), (90, (.iload 6, 92, 6, 0, 0, 0)), (92, (.ldc 186, 94, 0, 0, 505, 65536)), (94, (.idiv, 95, 0, 0, 0, 0)), (95, (.aload_n 0, 96, 0, 0, 0, 0)), (96, (.getfield 10, 99, 0, 4, 132, 0)), (99, (.invokevirtual 120, 102, 7, 0, 178, 0)), (102, (.irem, 103, 0, 0, 0, 0)), (103, (.istore 12, 105, 12, 0, 0, 0)), (105, (.aload_n 0, 106, 0, 0, 0, 0)), (106, (.getfield 10, 109, 0, 4, 132, 0)), (109, (.iload 12, 111, 12, 0, 0, 0)), (111, (.iload 8, 113, 8, 0, 0, 0)), (113, (.invokevirtual 187, 116, 50, 0, 506, 0)), (116, (.istore 13, 118, 13, 0, 0, 0)), (118, (.iload 13, 120, 13, 0, 0, 0)), (120, (.iload 6, 122, 6, 0, 0, 0)), (122, (.sipush 256, 125, 0, 0, 0, 256)), (125, (.idiv, 126, 0, 0, 0, 0)), (126, (.iload 7, 128, 7, 0, 0, 0)), (128, (.iconst 1, 129, 0, 0, 0, 1)), (129, (.iadd, 130, 0, 0, 0, 0)), (130, (.irem, 131, 0, 0, 0, 0)), (131, (.if_icmp .gt 28, 134, 159, 0, 0, 0)), (134, (.iload 8, 136, 8, 0, 0, 0)), (136, (.iconst 1, 137, 0, 0, 0, 1)), (137, (.iload 12, 139, 12, 0, 0, 0)), (139, (.ishl, 140, 0, 0, 0, 0)), (140, (.ixor, 141, 0, 0, 0, 0)), (141, (.istore 8, 143, 8, 0, 0, 0)), (143, (.iload 9, 145, 9, 0, 0, 0)), (145, (.iload 13, 147, 13, 0, 0, 0)), (147, (.iadd, 148, 0, 0, 0, 0)), (148, (.istore 9, 150, 9, 0, 0, 0)), (150, (.iload 10, 152, 10, 0, 0, 0)), (152, (.iload 9, 154, 9, 0, 0, 0)), (154, (.invokestatic 115, 157, 17, 0, 273, 0)), (157, (.istore 10, 159, 10, 0, 0, 0)), (159, (.iload 11, 161, 11, 0, 0, 0)), (161, (.bipush 10, 163, 0, 0, 0, 10)), (163, (.irem, 164, 0, 0, 0, 0)), (164, (.ifCond .ne 13, 167, 177, 0, 0, 0)), (167, (.iload 7, 169, 7, 0, 0, 0)), (169, (.bipush 9, 171, 0, 0, 0, 9)), (171, (.imul, 172, 0, 0, 0, 0)), (172, (.bipush 10, 174, 0, 0, 0, 10)), (174, (.idiv, 175, 0, 0, 0, 0)), (175, (.istore 7, 177, 7, 0, 0, 0)), (177, (.iinc 11 1, 180, 11, 0, 0, 1)), (180, (.goto (-111), 183, 69, 0, 0, 0)), (183, (.iload 5, 185, 5, 0, 0, 0)), (185, (.ifCond .ne 8, 188, 193, 0, 0, 0)), (188, (.iload 8, 190, 8, 0, 0, 0)), (190, (.goto 5, 193, 195, 0, 0, 0)), (193, (.iload 10, 195, 10, 0, 0, 0)), (195, (.ireturn, 196, 0, 0, 0, 0))]
def tb_X4_count : List (Nat × ix_E) := [(0, (.iload_n 1, 1, 1, 0, 0, 0)), (1, (.tableswitch 87 0 5 #[39, 47, 55, 63, 71, 79], 40, 0, 39, 0, 0)), (40, (.aload_n 0, 41, 0, 0, 0, 0)), (41, (.getfield 10, 44, 0, 4, 132, 0)), (44, (.invokevirtual 120, 47, 7, 0, 178, 0)), (47, (.ireturn, 48, 0, 0, 0, 0)), (48, (.aload_n 0, 49, 0, 0, 0, 0)), (49, (.getfield 10, 52, 0, 4, 132, 0)), (52, (.invokevirtual 190, 55, 46, 0, 514, 0)), (55, (.ireturn, 56, 0, 0, 0, 0)), (56, (.aload_n 0, 57, 0, 0, 0, 0)), (57, (.getfield 19, 60, 1, 4, 133, 0)), (60, (.invokevirtual 193, 63, 38, 0, 518, 0)), (63, (.ireturn, 64, 0, 0, 0, 0)), (64, (.aload_n 0, 65, 0, 0, 0, 0)), (65, (.getfield 26, 68, 2, 4, 134, 0)), (68, (.invokevirtual 194, 71, 27, 0, 522, 0)), (71, (.ireturn, 72, 0, 0, 0, 0)), (72, (.aload_n 0, 73, 0, 0, 0, 0)), (73, (.getfield 26, 76, 2, 4, 134, 0)), (76, (.invokevirtual 197, 79, 30, 0, 526, 0)), (79, (.ireturn, 80, 0, 0, 0, 0)), (80, (.aload_n 0, 81, 0, 0, 0, 0)), (81, (.getfield 10, 84, 0, 4, 132, 0)), (84, (.invokevirtual 175, 87, 1, 0, 483, 0)), (87, (.ireturn, 88, 0, 0, 0, 0)), (88, (.ldc 62, 90, 0, 0, 182, (-2147483648))), (90, (.ireturn, 91, 0, 0, 0, 0))]
def tb_X5_in : List (Nat × ix_E) := [(0, (.iload_n 0, 1, 0, 0, 0, 0)), (1, (.iload_n 1, 2, 1, 0, 0, 0)), (2, (.if_icmp .lt 12, 5, 14, 0, 0, 0)), (5, (.iload_n 0, 6, 0, 0, 0, 0)), (6, (.iload_n 2, 7, 2, 0, 0, 0)), (7, (.if_icmp .gt 7, 10, 14, 0, 0, 0)), (10, (.iconst 1, 11, 0, 0, 0, 1)), (11, (.goto 4, 14, 15, 0, 0, 0)), (14, (.iconst 0, 15, 0, 0, 0, 0)), (15, (.ireturn, 16, 0, 0, 0, 0))]
def tb_X5_size : List (Nat × ix_E) := [(0, (.iload_n 0, 1, 0, 0, 0, 0)), (1, (.ifCond .ge 8, 4, 9, 0, 0, 0)), (4, (.iload_n 0, 5, 0, 0, 0, 0)), (5, (.ineg, 6, 0, 0, 0, 0)), (6, (.goto 4, 9, 10, 0, 0, 0)), (9, (.iload_n 0, 10, 0, 0, 0, 0)), (10, (.ireturn, 11, 0, 0, 0, 0))]
def tb_X5_ones : List (Nat × ix_E) := [(0, (.iconst 0, 1, 0, 0, 0, 0)), (1, (.istore_n 1, 2, 1, 0, 0, 0)), (2, (.iconst 0, 3, 0, 0, 0, 0)), (3, (.istore_n 2, 4, 2, 0, 0, 0)), (4, (.iload_n 2, 5, 2, 0, 0, 0)), (5, (.bipush 20, 7, 0, 0, 0, 20)), (7, (.if_icmp .ge 17, 10, 24, 0, 0, 0)), (10, (.iload_n 1, 11, 1, 0, 0, 0)), (11, (.iload_n 0, 12, 0, 0, 0, 0)), (12, (.iload_n 2, 13, 2, 0, 0, 0)), (13, (.ishr, 14, 0, 0, 0, 0)), (14, (.iconst 1, 15, 0, 0, 0, 1)), (15, (.iand, 16, 0, 0, 0, 0)), (16, (.iadd, 17, 0, 0, 0, 0)), (17, (.istore_n 1, 18, 1, 0, 0, 0)), (18, (.iinc 2 1, 21, 2, 0, 0, 1)), (21, (.goto (-17), 24, 4, 0, 0, 0)), (24, (.iload_n 1, 25, 1, 0, 0, 0)), (25, (.ireturn, 26, 0, 0, 0, 0))]
def tb_X5_isLetter : List (Nat × ix_E) := [(0, (.iload_n 1, 1, 1, 0, 0, 0)), (1, (.iconst 0, 2, 0, 0, 0, 0)), (2, (.aload_n 0, 3, 0, 0, 0, 0)), (3, (.getfield 7, 6, 0, 5, 533, 0)), (6, (.iconst 1, 7, 0, 0, 0, 1)), (7, (.isub, 8, 0, 0, 0, 0)), (8, (.invokestatic 38, 11, 87, 0, 583, 0)), (11, (.ireturn, 12, 0, 0, 0, 0))]
def tb_X5_isState : List (Nat × ix_E) := [(0, (.iload_n 1, 1, 1, 0, 0, 0)), (1, (.iconst 0, 2, 0, 0, 0, 0)), (2, (.iconst 1, 3, 0, 0, 0, 1)), (3, (.aload_n 0, 4, 0, 0, 0, 0)), (4, (.getfield 7, 7, 0, 5, 533, 0)), (7, (.ishl, 8, 0, 0, 0, 0)), (8, (.iconst 1, 9, 0, 0, 0, 1)), (9, (.isub, 10, 0, 0, 0, 0)), (10, (.invokestatic 38, 13, 87, 0, 583, 0)), (13, (.ireturn, 14, 0, 0, 0, 0))]
def tb_X5_letters : List (Nat × ix_E) := [(0, (.iload_n 1, 1, 1, 0, 0, 0)), (1, (.iconst 1, 2, 0, 0, 0, 1)), (2, (.bipush 8, 4, 0, 0, 0, 8)), (4, (.invokestatic 38, 7, 87, 0, 583, 0)), (7, (.ifCond .ne 6, 10, 13, 0, 0, 0)), (10, (.bipush (-2), 12, 0, 0, 0, (-2))), (12, (.ireturn, 13, 0, 0, 0, 0)), (13, (.aload_n 0, 14, 0, 0, 0, 0)), (14, (.iload_n 1, 15, 1, 0, 0, 0)), (15, (.putfield 7, 18, 0, 5, 533, 0)), (18, (.aload_n 0, 19, 0, 0, 0, 0)), (19, (.iconst 0, 20, 0, 0, 0, 0)), (20, (.putfield 42, 23, 1, 5, 534, 0)), (23, (.aload_n 0, 24, 0, 0, 0, 0)), (24, (.iconst 0, 25, 0, 0, 0, 0)), (25, (.putfield 45, 28, 3, 5, 536, 0)), (28, (.iconst 0, 29, 0, 0, 0, 0)), (29, (.istore_n 2, 30, 2, 0, 0, 0)), (30, (.iload_n 2, 31, 2, 0, 0, 0)), (31, (.bipush 64, 33, 0, 0, 0, 64)), (33, (.if_icmp .ge 16, 36, 49, 0, 0, 0)), (36, (.aload_n 0, 37, 0, 0, 0, 0)), (37, (.getfield 13, 40, 2, 5, 535, 0)), (40, (.iload_n 2, 41, 2, 0, 0, 0)), (41, (.iconst 0, 42, 0, 0, 0, 0)), (42, (.iastore, 43, 0, 0, 0, 0)), (43, (.iinc 2 1, 46, 2, 0, 0, 1)), (46, (.goto (-16), 49, 30, 0, 0, 0)), (49, (.iconst 0, 50, 0, 0, 0, 0)), (50, (.istore_n 2, 51, 2, 0, 0, 0)), (51, (.iload_n 2, 52, 2, 0, 0, 0)), (52, (.bipush 8, 54, 0, 0, 0, 8)), (54, (.if_icmp .ge 16, 57, 70, 0, 0, 0)), (57, (.aload_n 0, 58, 0, 0, 0, 0)), (58, (.getfield 23, 61, 7, 5, 540, 0)), (61, (.iload_n 2, 62, 2, 0, 0, 0)), (62, (.iconst 0, 63, 0, 0, 0, 0)), (63, (.iastore, 64, 0, 0, 0, 0)), (64, (.iinc 2 1, 67, 2, 0, 0, 1)), (67, (.goto (-16), 70, 51, 0, 0, 0)), (70, (.iconst 1, 71, 0, 0, 0, 1)), (71, (.ireturn, 72, 0, 0, 0, 0))]
def tb_X5_putWeight : List (Nat × ix_E) := [(0, (.aload_n 0, 1, 0, 0, 0, 0)), (1, (.getfield 13, 4, 2, 5, 535, 0)), (4, (.bipush 8, 6, 0, 0, 0, 8)), (6, (.iload_n 1, 7, 1, 0, 0, 0)), (7, (.imul, 8, 0, 0, 0, 0)), (8, (.iload_n 2, 9, 2, 0, 0, 0)), (9, (.iadd, 10, 0, 0, 0, 0)), (10, (.iload_n 3, 11, 3, 0, 0, 0)), (11, (.iastore, 12, 0, 0, 0, 0)), (12, (.aload_n 0, 13, 0, 0, 0, 0)), (13, (.getfield 13, 16, 2, 5, 535, 0)), (16, (.bipush 8, 18, 0, 0, 0, 8)), (18, (.iload_n 2, 19, 2, 0, 0, 0)), (19, (.imul, 20, 0, 0, 0, 0)), (20, (.iload_n 1, 21, 1, 0, 0, 0)), (21, (.iadd, 22, 0, 0, 0, 0)), (22, (.iload_n 3, 23, 3, 0, 0, 0)), (23, (.iastore, 24, 0, 0, 0, 0)), (24, (.return_, 25, 0, 0, 0, 0))]
def tb_X5_weigh : List (Nat × ix_E) := [(0, (.aload_n 0, 1, 0, 0, 0, 0)), (1, (.iload_n 1, 2, 1, 0, 0, 0)), (2, (.invokevirtual 48, 5, 90, 0, 590, 0)), (5, (.ifCond .eq 22, 8, 27, 0, 0, 0)), (8, (.aload_n 0, 9, 0, 0, 0, 0)), (9, (.iload_n 2, 10, 2, 0, 0, 0)), (10, (.invokevirtual 48, 13, 90, 0, 590, 0)), (13, (.ifCond .eq 14, 16, 27, 0, 0, 0)), (16, (.iload_n 3, 17, 3, 0, 0, 0)), (17, (.bipush (-60), 19, 0, 0, 0, (-60))), (19, (.bipush 60, 21, 0, 0, 0, 60)), (21, (.invokestatic 38, 24, 87, 0, 583, 0)), (24, (.ifCond .ne 6, 27, 30, 0, 0, 0)), (27, (.ldc 52, 29, 0, 0, 594, (-2147483648))), (29, (.ireturn, 30, 0, 0, 0, 0)), (30, (.aload_n 0, 31, 0, 0, 0, 0)), (31, (.getfield 13, 34, 2, 5, 535, 0)), (34, (.bipush 8, 36, 0, 0, 0, 8)), (36, (.iload_n 1, 37, 1, 0, 0, 0)), (37, (.imul, 38, 0, 0, 0, 0)), (38, (.iload_n 2, 39, 2, 0, 0, 0)), (39, (.iadd, 40, 0, 0, 0, 0)), (40, (.iaload, 41, 0, 0, 0, 0)), (41, (.istore 4, 43, 4, 0, 0, 0)), (43, (.aload_n 0, 44, 0, 0, 0, 0)), (44, (.iload_n 1, 45, 1, 0, 0, 0)), (45, (.iload_n 2, 46, 2, 0, 0, 0)), (46, (.iload_n 3, 47, 3, 0, 0, 0)), (47, (.invokevirtual 53, 50, 93, 0, 595, 0)), (50, (.iload 4, 52, 4, 0, 0, 0)), (52, (.ireturn, 53, 0, 0, 0, 0))]
def tb_X5_weight : List (Nat × ix_E) := [(0, (.aload_n 0, 1, 0, 0, 0, 0)), (1, (.iload_n 1, 2, 1, 0, 0, 0)), (2, (.invokevirtual 48, 5, 90, 0, 590, 0)), (5, (.ifCond .eq 25, 8, 30, 0, 0, 0)), (8, (.aload_n 0, 9, 0, 0, 0, 0)), (9, (.iload_n 2, 10, 2, 0, 0, 0)), (10, (.invokevirtual 48, 13, 90, 0, 590, 0)), (13, (.ifCond .eq 17, 16, 30, 0, 0, 0)), (16, (.aload_n 0, 17, 0, 0, 0, 0)), (17, (.getfield 13, 20, 2, 5, 535, 0)), (20, (.bipush 8, 22, 0, 0, 0, 8)), (22, (.iload_n 1, 23, 1, 0, 0, 0)), (23, (.imul, 24, 0, 0, 0, 0)), (24, (.iload_n 2, 25, 2, 0, 0, 0)), (25, (.iadd, 26, 0, 0, 0, 0)), (26, (.iaload, 27, 0, 0, 0, 0)), (27, (.goto 5, 30, 32, 0, 0, 0)), (30, (.ldc 52, 32, 0, 0, 594, (-2147483648))), (32, (.ireturn, 33, 0, 0, 0, 0))]
def tb_X5_energyOf : List (Nat × ix_E) := [(0, (.aload_n 0, 1, 0, 0, 0, 0)), (1, (.getfield 42, 4, 1, 5, 534, 0)), (4, (.istore_n 2, 5, 2, 0, 0, 0)), (5, (.iconst 0, 6, 0, 0, 0, 0)), (6, (.istore_n 3, 7, 3, 0, 0, 0)), (7, (.iload_n 3, 8, 3, 0, 0, 0)), (8, (.aload_n 0, 9, 0, 0, 0, 0)), (9, (.getfield 7, 12, 0, 5, 533, 0)), (12, (.if_icmp .ge 62, 15, 74, 0, 0, 0)), (15, (.iconst 0, 16, 0, 0, 0, 0)), (16, (.istore 4, 18, 4, 0, 0, 0)), (18, (.iload 4, 20, 4, 0, 0, 0)), (20, (.iload_n 3, 21, 3, 0, 0, 0)), (21, (.if_icmp .gt 47, 24, 68, 0, 0, 0)), (24, (.iload_n 2, 25, 2, 0, 0, 0)), (25, (.iload_n 1, 26, 1, 0, 0, 0)), (26, (.iload_n 3, 27, 3, 0, 0, 0)), (27, (.ishr, 28, 0, 0, 0, 0)), (28, (.iconst 1, 29, 0, 0, 0, 1)), (29, (.iand, 30, 0, 0, 0, 0)), (30, (.iconst 1, 31, 0, 0, 0, 1)), (31, (.if_icmp .ne 28, 34, 59, 0, 0, 0)), (34, (.iload_n 1, 35, 1, 0, 0, 0)), (35, (.iload 4, 37, 4, 0, 0, 0)), (37, (.ishr, 38, 0, 0, 0, 0)), (38, (.iconst 1, 39, 0, 0, 0, 1)), (39, (.iand, 40, 0, 0, 0, 0)), (40, (.iconst 1, 41, 0, 0, 0, 1)), (41, (.if_icmp .ne 18, 44, 59, 0, 0, 0)), (44, (.aload_n 0, 45, 0, 0, 0, 0)), (45, (.getfield 13, 48, 2, 5, 535, 0)), (48, (.bipush 8, 50, 0, 0, 0, 8)), (50, (.iload_n 3, 51, 3, 0, 0, 0)), (51, (.imul, 52, 0, 0, 0, 0)), (52, (.iload 4, 54, 4, 0, 0, 0)), (54, (.iadd, 55, 0, 0, 0, 0)), (55, (.iaload, 56, 0, 0, 0, 0)), (56, (.goto 4, 59, 60, 0, 0, 0)), (59, (.iconst 0, 60, 0, 0, 0, 0)), (60, (.iadd, 61, 0, 0, 0, 0)), (61, (.istore_n 2, 62, 2, 0, 0, 0)), (62, (.iinc 4 1, 65, 4, 0, 0, 1)), (65, (.goto (-47), 68, 18, 0, 0, 0)), (68, (.iinc 3 1, 71, 3, 0, 0, 1)), (71, (.goto (-64), 74, 7, 0, 0, 0)), (74, (.iload_n 2, 75, 2, 0, 0, 0)), (75, (.ireturn, 76, 0, 0, 0, 0))]
def tb_X5_energy : List (Nat × ix_E) := [(0, (.aload_n 0, 1, 0, 0, 0, 0)), (1, (.iload_n 1, 2, 1, 0, 0, 0)), (2, (.invokevirtual 57, 5, 91, 0, 607, 0)), (5, (.ifCond .eq 11, 8, 16, 0, 0, 0)), (8, (.aload_n 0, 9, 0, 0, 0, 0)), (9, (.iload_n 1, 10, 1, 0, 0, 0)), (10, (.invokevirtual 60, 13, 96, 0, 611, 0)), (13, (.goto 5, 16, 18, 0, 0, 0)), (16, (.ldc 52, 18, 0, 0, 594, (-2147483648))), (18, (.ireturn, 19, 0, 0, 0, 0))]
def tb_X5_law : List (Nat × ix_E) := [(0, (.iload_n 1, 1, 1, 0, 0, 0)), (1, (.iconst 1, 2, 0, 0, 0, 1)), (2, (.iconst 1, 3, 0, 0, 0, 1)), (3, (.aload_n 0, 4, 0, 0, 0, 0)), (4, (.getfield 7, 7, 0, 5, 533, 0)), (7, (.ishl, 8, 0, 0, 0, 0)), (8, (.iconst 1, 9, 0, 0, 0, 1)), (9, (.isub, 10, 0, 0, 0, 0)), (10, (.invokestatic 38, 13, 87, 0, 583, 0)), (13, (.ifCond .eq 15, 16, 28, 0, 0, 0)), (16, (.iload_n 2, 17, 2, 0, 0, 0)), (17, (.iconst 0, 18, 0, 0, 0, 0)), (18, (.iload_n 1, 19, 1, 0, 0, 0)), (19, (.invokestatic 64, 22, 89, 0, 619, 0)), (22, (.invokestatic 38, 25, 87, 0, 583, 0)), (25, (.ifCond .ne 6, 28, 31, 0, 0, 0)), (28, (.bipush (-2), 30, 0, 0, 0, (-2))), (30, (.ireturn, 31, 0, 0, 0, 0)), (31, (.aload_n 0, 32, 0, 0, 0, 0)), (32, (.getfield 45, 35, 3, 5, 536, 0)), (35, (.bipush 6, 37, 0, 0, 0, 6)), (37, (.if_icmp .ne 6, 40, 43, 0, 0, 0)), (40, (.bipush (-4), 42, 0, 0, 0, (-4))), (42, (.ireturn, 43, 0, 0, 0, 0)), (43, (.aload_n 0, 44, 0, 0, 0, 0)), (44, (.getfield 17, 47, 4, 5, 537, 0)), (47, (.aload_n 0, 48, 0, 0, 0, 0)), (48, (.getfield 45, 51, 3, 5, 536, 0)), (51, (.iload_n 1, 52, 1, 0, 0, 0)), (52, (.iastore, 53, 0, 0, 0, 0)), (53, (.aload_n 0, 54, 0, 0, 0, 0)), (54, (.getfield 20, 57, 5, 5, 538, 0)), (57, (.aload_n 0, 58, 0, 0, 0, 0)), (58, (.getfield 45, 61, 3, 5, 536, 0)), (61, (.iload_n 2, 62, 2, 0, 0, 0)), (62, (.iastore, 63, 0, 0, 0, 0)), (63, (.aload_n 0, 64, 0, 0, 0, 0)), (64, (.dup, 65, 0, 0, 0, 0)), (65, (.getfield 45, 68, 3, 5, 536, 0)), (68, (.iconst 1, 69, 0, 0, 0, 1)), (69, (.iadd, 70, 0, 0, 0, 0)), (70, (.putfield 45, 73, 3, 5, 536, 0)), (73, (.aload_n 0, 74, 0, 0, 0, 0)), (74, (.getfield 45, 77, 3, 5, 536, 0)), (77, (.iconst 1, 78, 0, 0, 0, 1)), (78, (.isub, 79, 0, 0, 0, 0)), (79, (.ireturn, 80, 0, 0, 0, 0))]
def tb_X5_unlaw : List (Nat × ix_E) := [(0, (.aload_n 0, 1, 0, 0, 0, 0)), (1, (.getfield 45, 4, 3, 5, 536, 0)), (4, (.ifCond .ne 6, 7, 10, 0, 0, 0)), (7, (.bipush (-3), 9, 0, 0, 0, (-3))), (9, (.ireturn, 10, 0, 0, 0, 0)), (10, (.aload_n 0, 11, 0, 0, 0, 0)), (11, (.dup, 12, 0, 0, 0, 0)), (12, (.getfield 45, 15, 3, 5, 536, 0)), (15, (.iconst 1, 16, 0, 0, 0, 1)), (16, (.isub, 17, 0, 0, 0, 0)), (17, (.putfield 45, 20, 3, 5, 536, 0)), (20, (.aload_n 0, 21, 0, 0, 0, 0)), (21, (.getfield 45, 24, 3, 5, 536, 0)), (24, (.ireturn, 25, 0, 0, 0, 0))]
def tb_X5_missed : List (Nat × ix_E) := [(0, (.iconst 0, 1, 0, 0, 0, 0)), (1, (.istore_n 2, 2, 2, 0, 0, 0)), (2, (.iconst 0, 3, 0, 0, 0, 0)), (3, (.istore_n 3, 4, 3, 0, 0, 0)), (4, (.iload_n 3, 5, 3, 0, 0, 0)), (5, (.aload_n 0, 6, 0, 0, 0, 0)), (6, (.getfield 45, 9, 3, 5, 536, 0)), (9, (.if_icmp .ge 37, 12, 46, 0, 0, 0)), (12, (.iload_n 1, 13, 1, 0, 0, 0)), (13, (.aload_n 0, 14, 0, 0, 0, 0)), (14, (.getfield 17, 17, 4, 5, 537, 0)), (17, (.iload_n 3, 18, 3, 0, 0, 0)), (18, (.iaload, 19, 0, 0, 0, 0)), (19, (.iand, 20, 0, 0, 0, 0)), (20, (.invokestatic 64, 23, 89, 0, 619, 0)), (23, (.aload_n 0, 24, 0, 0, 0, 0)), (24, (.getfield 20, 27, 5, 5, 538, 0)), (27, (.iload_n 3, 28, 3, 0, 0, 0)), (28, (.iaload, 29, 0, 0, 0, 0)), (29, (.isub, 30, 0, 0, 0, 0)), (30, (.istore 4, 32, 4, 0, 0, 0)), (32, (.iload_n 2, 33, 2, 0, 0, 0)), (33, (.iload 4, 35, 4, 0, 0, 0)), (35, (.iload 4, 37, 4, 0, 0, 0)), (37, (.imul, 38, 0, 0, 0, 0)), (38, (.iadd, 39, 0, 0, 0, 0)), (39, (.istore_n 2, 40, 2, 0, 0, 0)), (40, (.iinc 3 1, 43, 3, 0, 0, 1)), (43, (.goto (-39), 46, 4, 0, 0, 0)), (46, (.iload_n 2, 47, 2, 0, 0, 0)), (47, (.ireturn, 48, 0, 0, 0, 0))]
def tb_X5_weighed : List (Nat × ix_E) := [(0, (.aload_n 0, 1, 0, 0, 0, 0)), (1, (.iload_n 1, 2, 1, 0, 0, 0)), (2, (.invokevirtual 60, 5, 96, 0, 611, 0)), (5, (.iload_n 2, 6, 2, 0, 0, 0)), (6, (.aload_n 0, 7, 0, 0, 0, 0)), (7, (.iload_n 1, 8, 1, 0, 0, 0)), (8, (.invokevirtual 67, 11, 100, 0, 641, 0)), (11, (.imul, 12, 0, 0, 0, 0)), (12, (.iadd, 13, 0, 0, 0, 0)), (13, (.ireturn, 14, 0, 0, 0, 0))]
def tb_X5_leastBy : List (Nat × ix_E) := [(0, (.aload_n 0, 1, 0, 0, 0, 0)), (1, (.iconst 0, 2, 0, 0, 0, 0)), (2, (.iload_n 1, 3, 1, 0, 0, 0)), (3, (.invokevirtual 70, 6, 101, 0, 637, 0)), (6, (.istore_n 2, 7, 2, 0, 0, 0)), (7, (.iconst 1, 8, 0, 0, 0, 1)), (8, (.istore_n 3, 9, 3, 0, 0, 0)), (9, (.iload_n 3, 10, 3, 0, 0, 0)), (10, (.iconst 1, 11, 0, 0, 0, 1)), (11, (.aload_n 0, 12, 0, 0, 0, 0)), (12, (.getfield 7, 15, 0, 5, 533, 0)), (15, (.ishl, 16, 0, 0, 0, 0)), (16, (.if_icmp .ge 30, 19, 46, 0, 0, 0)), (19, (.aload_n 0, 20, 0, 0, 0, 0)), (20, (.iload_n 3, 21, 3, 0, 0, 0)), (21, (.iload_n 1, 22, 1, 0, 0, 0)), (22, (.invokevirtual 70, 25, 101, 0, 637, 0)), (25, (.istore 4, 27, 4, 0, 0, 0)), (27, (.iload 4, 29, 4, 0, 0, 0)), (29, (.iload_n 2, 30, 2, 0, 0, 0)), (30, (.if_icmp .ge 8, 33, 38, 0, 0, 0)), (33, (.iload 4, 35, 4, 0, 0, 0)), (35, (.goto 4, 38, 39, 0, 0, 0)), (38, (.iload_n 2, 39, 2, 0, 0, 0)), (39, (.istore_n 2, 40, 2, 0, 0, 0)), (40, (.iinc 3 1, 43, 3, 0, 0, 1)), (43, (.goto (-34), 46, 9, 0, 0, 0)), (46, (.iload_n 2, 47, 2, 0, 0, 0)), (47, (.ireturn, 48, 0, 0, 0, 0))]
def tb_X5_isPull : List (Nat × ix_E) := [(0, (.iload_n 0, 1, 0, 0, 0, 0)), (1, (.iconst 0, 2, 0, 0, 0, 0)), (2, (.sipush 1000, 5, 0, 0, 0, 1000)), (5, (.invokestatic 38, 8, 87, 0, 583, 0)), (8, (.ireturn, 9, 0, 0, 0, 0))]
def tb_X5_best : List (Nat × ix_E) := [(0, (.iload_n 1, 1, 1, 0, 0, 0)), (1, (.invokestatic 74, 4, 103, 0, 630, 0)), (4, (.ifCond .eq 11, 7, 15, 0, 0, 0)), (7, (.aload_n 0, 8, 0, 0, 0, 0)), (8, (.iload_n 1, 9, 1, 0, 0, 0)), (9, (.invokevirtual 77, 12, 102, 0, 633, 0)), (12, (.goto 5, 15, 17, 0, 0, 0)), (15, (.ldc 52, 17, 0, 0, 594, (-2147483648))), (17, (.ireturn, 18, 0, 0, 0, 0))]
def tb_X5_many : List (Nat × ix_E) := [(0, (.iload_n 1, 1, 1, 0, 0, 0)), (1, (.invokestatic 74, 4, 103, 0, 630, 0)), (4, (.ifCond .ne 6, 7, 10, 0, 0, 0)), (7, (.bipush (-2), 9, 0, 0, 0, (-2))), (9, (.ireturn, 10, 0, 0, 0, 0)), (10, (.aload_n 0, 11, 0, 0, 0, 0)), (11, (.iload_n 1, 12, 1, 0, 0, 0)), (12, (.invokevirtual 77, 15, 102, 0, 633, 0)), (15, (.istore_n 2, 16, 2, 0, 0, 0)), (16, (.iconst 0, 17, 0, 0, 0, 0)), (17, (.istore_n 3, 18, 3, 0, 0, 0)), (18, (.iconst 0, 19, 0, 0, 0, 0)), (19, (.istore 4, 21, 4, 0, 0, 0)), (21, (.iload 4, 23, 4, 0, 0, 0)), (23, (.iconst 1, 24, 0, 0, 0, 1)), (24, (.aload_n 0, 25, 0, 0, 0, 0)), (25, (.getfield 7, 28, 0, 5, 533, 0)), (28, (.ishl, 29, 0, 0, 0, 0)), (29, (.if_icmp .ge 28, 32, 57, 0, 0, 0)), (32, (.iload_n 3, 33, 3, 0, 0, 0)), (33, (.aload_n 0, 34, 0, 0, 0, 0)), (34, (.iload 4, 36, 4, 0, 0, 0)), (36, (.iload_n 1, 37, 1, 0, 0, 0)), (37, (.invokevirtual 70, 40, 101, 0, 637, 0)), (40, (.iload_n 2, 41, 2, 0, 0, 0)), (41, (.if_icmp .ne 7, 44, 48, 0, 0, 0)), (44, (.iconst 1, 45, 0, 0, 0, 1)), (45, (.goto 4, 48, 49, 0, 0, 0)), (48, (.iconst 0, 49, 0, 0, 0, 0)), (49, (.iadd, 50, 0, 0, 0, 0)), (50, (.istore_n 3, 51, 3, 0, 0, 0)), (51, (.iinc 4 1, 54, 4, 0, 0, 1)), (54, (.goto (-33), 57, 21, 0, 0, 0)), (57, (.iload_n 3, 58, 3, 0, 0, 0)), (58, (.ireturn, 59, 0, 0, 0, 0))]
def tb_X5_bestAt : List (Nat × ix_E) := [(0, (.iload_n 1, 1, 1, 0, 0, 0)), (1, (.invokestatic 74, 4, 103, 0, 630, 0)), (4, (.ifCond .eq 7, 7, 11, 0, 0, 0)), (7, (.iload_n 2, 8, 2, 0, 0, 0)), (8, (.ifCond .ge 6, 11, 14, 0, 0, 0)), (11, (.bipush (-2), 13, 0, 0, 0, (-2))), (13, (.ireturn, 14, 0, 0, 0, 0)), (14, (.aload_n 0, 15, 0, 0, 0, 0)), (15, (.iload_n 1, 16, 1, 0, 0, 0)), (16, (.invokevirtual 77, 19, 102, 0, 633, 0)), (19, (.istore_n 3, 20, 3, 0, 0, 0)), (20, (.iload_n 2, 21, 2, 0, 0, 0)), (21, (.istore 4, 23, 4, 0, 0, 0)), (23, (.iconst 0, 24, 0, 0, 0, 0)), (24, (.istore 5, 26, 5, 0, 0, 0)), (26, (.iload 5, 28, 5, 0, 0, 0)), (28, (.iconst 1, 29, 0, 0, 0, 1)), (29, (.aload_n 0, 30, 0, 0, 0, 0)), (30, (.getfield 7, 33, 0, 5, 533, 0)), (33, (.ishl, 34, 0, 0, 0, 0)), (34, (.if_icmp .ge 31, 37, 65, 0, 0, 0)), (37, (.aload_n 0, 38, 0, 0, 0, 0)), (38, (.iload 5, 40, 5, 0, 0, 0)), (40, (.iload_n 1, 41, 1, 0, 0, 0)), (41, (.invokevirtual 70, 44, 101, 0, 637, 0)), (44, (.iload_n 3, 45, 3, 0, 0, 0)), (45, (.if_icmp .ne 14, 48, 59, 0, 0, 0)), (48, (.iload 4, 50, 4, 0, 0, 0)), (50, (.ifCond .ne 6, 53, 56, 0, 0, 0)), (53, (.iload 5, 55, 5, 0, 0, 0)), (55, (.ireturn, 56, 0, 0, 0, 0)), (56, (.iinc 4 (-1), 59, 4, 0, 0, (-1))), (59, (.iinc 5 1, 62, 5, 0, 0, 1)), (62, (.goto (-36), 65, 26, 0, 0, 0)), (65, (.bipush (-2), 67, 0, 0, 0, (-2))), (67, (.ireturn, 68, 0, 0, 0, 0))]
def tb_X5_pull : List (Nat × ix_E) := [(0, (.iconst 0, 1, 0, 0, 0, 0)), (1, (.istore_n 1, 2, 1, 0, 0, 0)), (2, (.iconst 0, 3, 0, 0, 0, 0)), (3, (.istore_n 2, 4, 2, 0, 0, 0)), (4, (.iconst 0, 5, 0, 0, 0, 0)), (5, (.istore_n 3, 6, 3, 0, 0, 0)), (6, (.iload_n 3, 7, 3, 0, 0, 0)), (7, (.iconst 1, 8, 0, 0, 0, 1)), (8, (.aload_n 0, 9, 0, 0, 0, 0)), (9, (.getfield 7, 12, 0, 5, 533, 0)), (12, (.ishl, 13, 0, 0, 0, 0)), (13, (.if_icmp .ge 42, 16, 55, 0, 0, 0)), (16, (.aload_n 0, 17, 0, 0, 0, 0)), (17, (.iload_n 3, 18, 3, 0, 0, 0)), (18, (.invokevirtual 67, 21, 100, 0, 641, 0)), (21, (.ifCond .ne 28, 24, 49, 0, 0, 0)), (24, (.iload_n 1, 25, 1, 0, 0, 0)), (25, (.ifCond .eq 12, 28, 37, 0, 0, 0)), (28, (.aload_n 0, 29, 0, 0, 0, 0)), (29, (.iload_n 3, 30, 3, 0, 0, 0)), (30, (.invokevirtual 60, 33, 96, 0, 611, 0)), (33, (.iload_n 2, 34, 2, 0, 0, 0)), (34, (.if_icmp .ge 11, 37, 45, 0, 0, 0)), (37, (.aload_n 0, 38, 0, 0, 0, 0)), (38, (.iload_n 3, 39, 3, 0, 0, 0)), (39, (.invokevirtual 60, 42, 96, 0, 611, 0)), (42, (.goto 4, 45, 46, 0, 0, 0)), (45, (.iload_n 2, 46, 2, 0, 0, 0)), (46, (.istore_n 2, 47, 2, 0, 0, 0)), (47, (.iconst 1, 48, 0, 0, 0, 1)), (48, (.istore_n 1, 49, 1, 0, 0, 0)), (49, (.iinc 3 1, 52, 3, 0, 0, 1)), (52, (.goto (-46), 55, 6, 0, 0, 0)), (55, (.iload_n 1, 56, 1, 0, 0, 0)), (56, (.ifCond .ne 5, 59, 61, 0, 0, 0)), (59, (.iconst (-1), 60, 0, 0, 0, (-1))), (60, (.ireturn, 61, 0, 0, 0, 0)), (61, (.iconst 0, 62, 0, 0, 0, 0)), (62, (.istore_n 3, 63, 3, 0, 0, 0)), (63, (.iconst 0, 64, 0, 0, 0, 0)), (64, (.istore 4, 66, 4, 0, 0, 0)), (66, (.iload 4, 68, 4, 0, 0, 0)), (68, (.iconst 1, 69, 0, 0, 0, 1)), (69, (.aload_n 0, 70, 0, 0, 0, 0)), (70, (.getfield 7, 73, 0, 5, 533, 0)), (73, (.ishl, 74, 0, 0, 0, 0)), (74, (.if_icmp .ge 59, 77, 133, 0, 0, 0)), (77, (.iload_n 2, 78, 2, 0, 0, 0)), (78, (.aload_n 0, 79, 0, 0, 0, 0)), (79, (.iload 4, 81, 4, 0, 0, 0)), (81, (.invokevirtual 60, 84, 96, 0, 611, 0)), (84, (.isub, 85, 0, 0, 0, 0)), (85, (.istore 5, 87, 5, 0, 0, 0)), (87, (.aload_n 0, 88, 0, 0, 0, 0)), (88, (.iload 4, 90, 4, 0, 0, 0)), (90, (.invokevirtual 67, 93, 100, 0, 641, 0)), (93, (.ifCond .le 34, 96, 127, 0, 0, 0)), (96, (.iload 5, 98, 5, 0, 0, 0)), (98, (.ifCond .lt 29, 101, 127, 0, 0, 0)), (101, (.iload 5, 103, 5, 0, 0, 0)), (103, (.aload_n 0, 104, 0, 0, 0, 0)), (104, (.iload 4, 106, 4, 0, 0, 0)), (106, (.invokevirtual 67, 109, 100, 0, 641, 0)), (109, (.idiv, 110, 0, 0, 0, 0)), (110, (.iconst 1, 111, 0, 0, 0, 1)), (111, (.iadd, 112, 0, 0, 0, 0)), (112, (.istore 6, 114, 6, 0, 0, 0)), (114, (.iload 6, 116, 6, 0, 0, 0)), (116, (.iload_n 3, 117, 3, 0, 0, 0)), (117, (.if_icmp .le 8, 120, 125, 0, 0, 0)), (120, (.iload 6, 122, 6, 0, 0, 0)), (122, (.goto 4, 125, 126, 0, 0, 0)), (125, (.iload_n 3, 126, 3, 0, 0, 0)), (126, (.istore_n 3, 127, 3, 0, 0, 0)), (127, (.iinc 4 1, 130, 4, 0, 0, 1)), (130, (.goto (-64), 133, 66, 0, 0, 0)), (133, (.iload_n 3, 134, 3, 0, 0, 0)), (134, (.sipush 1000, 137, 0, 0, 0, 1000)), (137, (.if_icmp .le 9, 140, 146, 0, 0, 0)), (140, (.sipush 1001, 143, 0, 0, 0, 1001)), (143, (.goto 4, 146, 147, 0, 0, 0)), (146, (.iload_n 3, 147, 3, 0, 0, 0)), (147, (.ireturn, 148, 0, 0, 0, 0))]
def tb_X5_mayBe : List (Nat × ix_E) := [(0, (.aload_n 0, 1, 0, 0, 0, 0)), (1, (.getfield 13, 4, 2, 5, 535, 0)), (4, (.bipush 8, 6, 0, 0, 0, 8)), (6, (.iload_n 1, 7, 1, 0, 0, 0)), (7, (.imul, 8, 0, 0, 0, 0)), (8, (.iload_n 1, 9, 1, 0, 0, 0)), (9, (.iadd, 10, 0, 0, 0, 0)), (10, (.iaload, 11, 0, 0, 0, 0)), (11, (.istore_n 2, 12, 2, 0, 0, 0)), (12, (.iconst 0, 13, 0, 0, 0, 0)), (13, (.istore_n 3, 14, 3, 0, 0, 0)), (14, (.iconst 0, 15, 0, 0, 0, 0)), (15, (.istore 4, 17, 4, 0, 0, 0)), (17, (.iconst 0, 18, 0, 0, 0, 0)), (18, (.istore 5, 20, 5, 0, 0, 0)), (20, (.iload 5, 22, 5, 0, 0, 0)), (22, (.aload_n 0, 23, 0, 0, 0, 0)), (23, (.getfield 7, 26, 0, 5, 533, 0)), (26, (.if_icmp .ge 101, 29, 127, 0, 0, 0)), (29, (.iload_n 1, 30, 1, 0, 0, 0)), (30, (.iload 5, 32, 5, 0, 0, 0)), (32, (.if_icmp .ne 7, 35, 39, 0, 0, 0)), (35, (.iconst 0, 36, 0, 0, 0, 0)), (36, (.goto 15, 39, 51, 0, 0, 0)), (39, (.aload_n 0, 40, 0, 0, 0, 0)), (40, (.getfield 13, 43, 2, 5, 535, 0)), (43, (.bipush 8, 45, 0, 0, 0, 8)), (45, (.iload_n 1, 46, 1, 0, 0, 0)), (46, (.imul, 47, 0, 0, 0, 0)), (47, (.iload 5, 49, 5, 0, 0, 0)), (49, (.iadd, 50, 0, 0, 0, 0)), (50, (.iaload, 51, 0, 0, 0, 0)), (51, (.istore 6, 53, 6, 0, 0, 0)), (53, (.aload_n 0, 54, 0, 0, 0, 0)), (54, (.getfield 80, 57, 8, 5, 541, 0)), (57, (.iload 5, 59, 5, 0, 0, 0)), (59, (.ishr, 60, 0, 0, 0, 0)), (60, (.iconst 1, 61, 0, 0, 0, 1)), (61, (.iand, 62, 0, 0, 0, 0)), (62, (.iconst 1, 63, 0, 0, 0, 1)), (63, (.if_icmp .ne 28, 66, 91, 0, 0, 0)), (66, (.iload_n 2, 67, 2, 0, 0, 0)), (67, (.aload_n 0, 68, 0, 0, 0, 0)), (68, (.getfield 83, 71, 9, 5, 542, 0)), (71, (.iload 5, 73, 5, 0, 0, 0)), (73, (.ishr, 74, 0, 0, 0, 0)), (74, (.iconst 1, 75, 0, 0, 0, 1)), (75, (.iand, 76, 0, 0, 0, 0)), (76, (.iconst 1, 77, 0, 0, 0, 1)), (77, (.if_icmp .ne 8, 80, 85, 0, 0, 0)), (80, (.iload 6, 82, 6, 0, 0, 0)), (82, (.goto 4, 85, 86, 0, 0, 0)), (85, (.iconst 0, 86, 0, 0, 0, 0)), (86, (.iadd, 87, 0, 0, 0, 0)), (87, (.istore_n 2, 88, 2, 0, 0, 0)), (88, (.goto 33, 91, 121, 0, 0, 0)), (91, (.iload_n 3, 92, 3, 0, 0, 0)), (92, (.iload 6, 94, 6, 0, 0, 0)), (94, (.ifCond .ge 8, 97, 102, 0, 0, 0)), (97, (.iload 6, 99, 6, 0, 0, 0)), (99, (.goto 4, 102, 103, 0, 0, 0)), (102, (.iconst 0, 103, 0, 0, 0, 0)), (103, (.iadd, 104, 0, 0, 0, 0)), (104, (.istore_n 3, 105, 3, 0, 0, 0)), (105, (.iload 4, 107, 4, 0, 0, 0)), (107, (.iload 6, 109, 6, 0, 0, 0)), (109, (.ifCond .le 8, 112, 117, 0, 0, 0)), (112, (.iload 6, 114, 6, 0, 0, 0)), (114, (.goto 4, 117, 118, 0, 0, 0)), (117, (.iconst 0, 118, 0, 0, 0, 0)), (118, (.iadd, 119, 0, 0, 0, 0)), (119, (.istore 4, 121, 4, 0, 0, 0)), (121, (.iinc 5 1, 124, 5, 0, 0, 1)), (124, (.goto (-104), 127, 20, 0, 0, 0)), (127, (.iload_n 2, 128, 2, 0, 0, 0)), (128, (.iload_n 3, 129, 3, 0, 0, 0)), (129, (.iadd, 130, 0, 0, 0, 0)), (130, (.ifCond .lt 7, 133, 137, 0, 0, 0)), (133, (.iconst 0, 134, 0, 0, 0, 0)), (134, (.goto 15, 137, 149, 0, 0, 0)), (137, (.iload_n 2, 138, 2, 0, 0, 0)), (138, (.iload 4, 140, 4, 0, 0, 0)), (140, (.iadd, 141, 0, 0, 0, 0)), (141, (.ifCond .gt 7, 144, 148, 0, 0, 0)), (144, (.iconst 1, 145, 0, 0, 0, 1)), (145, (.goto 4, 148, 149, 0, 0, 0)), (148, (.iconst (-1), 149, 0, 0, 0, (-1))), (149, (.ireturn, 150, 0, 0, 0, 0))]
def tb_X5_fixAll : List (Nat × ix_E) := [(0, (.aload_n 0, 1, 0, 0, 0, 0)), (1, (.iconst 0, 2, 0, 0, 0, 0)), (2, (.putfield 80, 5, 8, 5, 541, 0)), (5, (.aload_n 0, 6, 0, 0, 0, 0)), (6, (.iconst 0, 7, 0, 0, 0, 0)), (7, (.putfield 83, 10, 9, 5, 542, 0)), (10, (.iconst 1, 11, 0, 0, 0, 1)), (11, (.istore_n 1, 12, 1, 0, 0, 0)), (12, (.iload_n 1, 13, 1, 0, 0, 0)), (13, (.ifCond .eq 77, 16, 90, 0, 0, 0)), (16, (.iconst 0, 17, 0, 0, 0, 0)), (17, (.istore_n 1, 18, 1, 0, 0, 0)), (18, (.iconst 0, 19, 0, 0, 0, 0)), (19, (.istore_n 2, 20, 2, 0, 0, 0)), (20, (.iload_n 2, 21, 2, 0, 0, 0)), (21, (.aload_n 0, 22, 0, 0, 0, 0)), (22, (.getfield 7, 25, 0, 5, 533, 0)), (25, (.if_icmp .ge 62, 28, 87, 0, 0, 0)), (28, (.aload_n 0, 29, 0, 0, 0, 0)), (29, (.getfield 80, 32, 8, 5, 541, 0)), (32, (.iload_n 2, 33, 2, 0, 0, 0)), (33, (.ishr, 34, 0, 0, 0, 0)), (34, (.iconst 1, 35, 0, 0, 0, 1)), (35, (.iand, 36, 0, 0, 0, 0)), (36, (.iconst 1, 37, 0, 0, 0, 1)), (37, (.if_icmp .ne 7, 40, 44, 0, 0, 0)), (40, (.iconst (-1), 41, 0, 0, 0, (-1))), (41, (.goto 8, 44, 49, 0, 0, 0)), (44, (.aload_n 0, 45, 0, 0, 0, 0)), (45, (.iload_n 2, 46, 2, 0, 0, 0)), (46, (.invokevirtual 86, 49, 108, 0, 665, 0)), (49, (.istore_n 3, 50, 3, 0, 0, 0)), (50, (.iload_n 3, 51, 3, 0, 0, 0)), (51, (.iconst (-1), 52, 0, 0, 0, (-1))), (52, (.if_icmp .eq 29, 55, 81, 0, 0, 0)), (55, (.aload_n 0, 56, 0, 0, 0, 0)), (56, (.dup, 57, 0, 0, 0, 0)), (57, (.getfield 80, 60, 8, 5, 541, 0)), (60, (.iconst 1, 61, 0, 0, 0, 1)), (61, (.iload_n 2, 62, 2, 0, 0, 0)), (62, (.ishl, 63, 0, 0, 0, 0)), (63, (.ior, 64, 0, 0, 0, 0)), (64, (.putfield 80, 67, 8, 5, 541, 0)), (67, (.aload_n 0, 68, 0, 0, 0, 0)), (68, (.dup, 69, 0, 0, 0, 0)), (69, (.getfield 83, 72, 9, 5, 542, 0)), (72, (.iload_n 3, 73, 3, 0, 0, 0)), (73, (.iload_n 2, 74, 2, 0, 0, 0)), (74, (.ishl, 75, 0, 0, 0, 0)), (75, (.ior, 76, 0, 0, 0, 0)), (76, (.putfield 83, 79, 9, 5, 542, 0)), (79, (.iconst 1, 80, 0, 0, 0, 1)), (80, (.istore_n 1, 81, 1, 0, 0, 0)), (81, (.iinc 2 1, 84, 2, 0, 0, 1)), (84, (.goto (-64), 87, 20, 0, 0, 0)), (87, (.goto (-75), 90, 12, 0, 0, 0)), (90, (.return_, 91, 0, 0, 0, 0))]
def tb_X5_fixed : List (Nat × ix_E) := [(0, (.iload_n 1, 1, 1, 0, 0, 0)), (1, (.iconst 0, 2, 0, 0, 0, 0)), (2, (.iconst 1, 3, 0, 0, 0, 1)), (3, (.invokestatic 38, 6, 87, 0, 583, 0)), (6, (.ifCond .ne 6, 9, 12, 0, 0, 0)), (9, (.bipush (-2), 11, 0, 0, 0, (-2))), (11, (.ireturn, 12, 0, 0, 0, 0)), (12, (.aload_n 0, 13, 0, 0, 0, 0)), (13, (.invokevirtual 89, 16, 109, 0, 661, 0)), (16, (.iload_n 1, 17, 1, 0, 0, 0)), (17, (.ifCond .ne 10, 20, 27, 0, 0, 0)), (20, (.aload_n 0, 21, 0, 0, 0, 0)), (21, (.getfield 80, 24, 8, 5, 541, 0)), (24, (.goto 7, 27, 31, 0, 0, 0)), (27, (.aload_n 0, 28, 0, 0, 0, 0)), (28, (.getfield 83, 31, 9, 5, 542, 0)), (31, (.ireturn, 32, 0, 0, 0, 0))]
def tb_X5_floor : List (Nat × ix_E) := [(0, (.aload_n 0, 1, 0, 0, 0, 0)), (1, (.getfield 42, 4, 1, 5, 534, 0)), (4, (.istore_n 1, 5, 1, 0, 0, 0)), (5, (.iconst 0, 6, 0, 0, 0, 0)), (6, (.istore_n 2, 7, 2, 0, 0, 0)), (7, (.iload_n 2, 8, 2, 0, 0, 0)), (8, (.aload_n 0, 9, 0, 0, 0, 0)), (9, (.getfield 7, 12, 0, 5, 533, 0)), (12, (.if_icmp .ge 54, 15, 66, 0, 0, 0)), (15, (.iconst 0, 16, 0, 0, 0, 0)), (16, (.istore_n 3, 17, 3, 0, 0, 0)), (17, (.iload_n 3, 18, 3, 0, 0, 0)), (18, (.iload_n 2, 19, 2, 0, 0, 0)), (19, (.if_icmp .gt 41, 22, 60, 0, 0, 0)), (22, (.iload_n 1, 23, 1, 0, 0, 0)), (23, (.aload_n 0, 24, 0, 0, 0, 0)), (24, (.getfield 13, 27, 2, 5, 535, 0)), (27, (.bipush 8, 29, 0, 0, 0, 8)), (29, (.iload_n 2, 30, 2, 0, 0, 0)), (30, (.imul, 31, 0, 0, 0, 0)), (31, (.iload_n 3, 32, 3, 0, 0, 0)), (32, (.iadd, 33, 0, 0, 0, 0)), (33, (.iaload, 34, 0, 0, 0, 0)), (34, (.ifCond .ge 17, 37, 51, 0, 0, 0)), (37, (.aload_n 0, 38, 0, 0, 0, 0)), (38, (.getfield 13, 41, 2, 5, 535, 0)), (41, (.bipush 8, 43, 0, 0, 0, 8)), (43, (.iload_n 2, 44, 2, 0, 0, 0)), (44, (.imul, 45, 0, 0, 0, 0)), (45, (.iload_n 3, 46, 3, 0, 0, 0)), (46, (.iadd, 47, 0, 0, 0, 0)), (47, (.iaload, 48, 0, 0, 0, 0)), (48, (.goto 4, 51, 52, 0, 0, 0)), (51, (.iconst 0, 52, 0, 0, 0, 0)), (52, (.iadd, 53, 0, 0, 0, 0)), (53, (.istore_n 1, 54, 1, 0, 0, 0)), (54, (.iinc 3 1, 57, 3, 0, 0, 1)), (57, (.goto (-40), 60, 17, 0, 0, 0)), (60, (.iinc 2 1, 63, 2, 0, 0, 1)), (63, (.goto (-56), 66, 7, 0, 0, 0)), (66, (.iload_n 1, 67, 1, 0, 0, 0)), (67, (.ireturn, 68, 0, 0, 0, 0))]
def tb_X5_kill : List (Nat × ix_E) := [(0, (.iload_n 1, 1, 1, 0, 0, 0)), (1, (.iconst 0, 2, 0, 0, 0, 0)), (2, (.bipush 19, 4, 0, 0, 0, 19)), (4, (.invokestatic 38, 7, 87, 0, 583, 0)), (7, (.ifCond .ne 6, 10, 13, 0, 0, 0)), (10, (.bipush (-2), 12, 0, 0, 0, (-2))), (12, (.ireturn, 13, 0, 0, 0, 0)), (13, (.aload_n 0, 14, 0, 0, 0, 0)), (14, (.getfield 92, 17, 6, 5, 539, 0)), (17, (.iload_n 1, 18, 1, 0, 0, 0)), (18, (.ishr, 19, 0, 0, 0, 0)), (19, (.iconst 1, 20, 0, 0, 0, 1)), (20, (.iand, 21, 0, 0, 0, 0)), (21, (.istore_n 3, 22, 3, 0, 0, 0)), (22, (.aload_n 0, 23, 0, 0, 0, 0)), (23, (.iload_n 2, 24, 2, 0, 0, 0)), (24, (.ifCond .eq 14, 27, 38, 0, 0, 0)), (27, (.aload_n 0, 28, 0, 0, 0, 0)), (28, (.getfield 92, 31, 6, 5, 539, 0)), (31, (.iconst 1, 32, 0, 0, 0, 1)), (32, (.iload_n 1, 33, 1, 0, 0, 0)), (33, (.ishl, 34, 0, 0, 0, 0)), (34, (.ior, 35, 0, 0, 0, 0)), (35, (.goto 13, 38, 48, 0, 0, 0)), (38, (.aload_n 0, 39, 0, 0, 0, 0)), (39, (.getfield 92, 42, 6, 5, 539, 0)), (42, (.iconst 1, 43, 0, 0, 0, 1)), (43, (.iload_n 1, 44, 1, 0, 0, 0)), (44, (.ishl, 45, 0, 0, 0, 0)), (45, (.iconst (-1), 46, 0, 0, 0, (-1))), (46, (.ixor, 47, 0, 0, 0, 0)), (47, (.iand, 48, 0, 0, 0, 0)), (48, (.putfield 92, 51, 6, 5, 539, 0)), (51, (.iload_n 3, 52, 3, 0, 0, 0)), (52, (.ireturn, 53, 0, 0, 0, 0))]
def tb_X5_chain : List (Nat × ix_E) := [(0, (.aload_n 0, 1, 0, 0, 0, 0)), (1, (.iload_n 1, 2, 1, 0, 0, 0)), (2, (.invokevirtual 48, 5, 90, 0, 590, 0)), (5, (.ifCond .eq 13, 8, 18, 0, 0, 0)), (8, (.iload_n 2, 9, 2, 0, 0, 0)), (9, (.iconst 0, 10, 0, 0, 0, 0)), (10, (.ldc 95, 12, 0, 0, 681, 1048575)), (12, (.invokestatic 38, 15, 87, 0, 583, 0)), (15, (.ifCond .ne 6, 18, 21, 0, 0, 0)), (18, (.bipush (-2), 20, 0, 0, 0, (-2))), (20, (.ireturn, 21, 0, 0, 0, 0)), (21, (.aload_n 0, 22, 0, 0, 0, 0)), (22, (.getfield 23, 25, 7, 5, 540, 0)), (25, (.iload_n 1, 26, 1, 0, 0, 0)), (26, (.iload_n 2, 27, 2, 0, 0, 0)), (27, (.iastore, 28, 0, 0, 0, 0)), (28, (.iload_n 2, 29, 2, 0, 0, 0)), (29, (.invokestatic 64, 32, 89, 0, 619, 0)), (32, (.ireturn, 33, 0, 0, 0, 0))]
def tb_X5_beside : List (Nat × ix_E) := [(0, (.iconst 0, 1, 0, 0, 0, 0)), (1, (.istore_n 1, 2, 1, 0, 0, 0)), (2, (.iconst 0, 3, 0, 0, 0, 0)), (3, (.istore_n 2, 4, 2, 0, 0, 0)), (4, (.iload_n 2, 5, 2, 0, 0, 0)), (5, (.bipush 20, 7, 0, 0, 0, 20)), (7, (.if_icmp .ge 90, 10, 97, 0, 0, 0)), (10, (.iload_n 0, 11, 0, 0, 0, 0)), (11, (.iload_n 2, 12, 2, 0, 0, 0)), (12, (.ishr, 13, 0, 0, 0, 0)), (13, (.iconst 1, 14, 0, 0, 0, 1)), (14, (.iand, 15, 0, 0, 0, 0)), (15, (.iconst 1, 16, 0, 0, 0, 1)), (16, (.if_icmp .ne 75, 19, 91, 0, 0, 0)), (19, (.iload_n 1, 20, 1, 0, 0, 0)), (20, (.iload_n 2, 21, 2, 0, 0, 0)), (21, (.iconst 5, 22, 0, 0, 0, 5)), (22, (.if_icmp .lt 11, 25, 33, 0, 0, 0)), (25, (.iconst 1, 26, 0, 0, 0, 1)), (26, (.iload_n 2, 27, 2, 0, 0, 0)), (27, (.iconst 5, 28, 0, 0, 0, 5)), (28, (.isub, 29, 0, 0, 0, 0)), (29, (.ishl, 30, 0, 0, 0, 0)), (30, (.goto 4, 33, 34, 0, 0, 0)), (33, (.iconst 0, 34, 0, 0, 0, 0)), (34, (.ior, 35, 0, 0, 0, 0)), (35, (.istore_n 1, 36, 1, 0, 0, 0)), (36, (.iload_n 1, 37, 1, 0, 0, 0)), (37, (.iload_n 2, 38, 2, 0, 0, 0)), (38, (.bipush 15, 40, 0, 0, 0, 15)), (40, (.if_icmp .ge 11, 43, 51, 0, 0, 0)), (43, (.iconst 1, 44, 0, 0, 0, 1)), (44, (.iload_n 2, 45, 2, 0, 0, 0)), (45, (.iconst 5, 46, 0, 0, 0, 5)), (46, (.iadd, 47, 0, 0, 0, 0)), (47, (.ishl, 48, 0, 0, 0, 0)), (48, (.goto 4, 51, 52, 0, 0, 0)), (51, (.iconst 0, 52, 0, 0, 0, 0)), (52, (.ior, 53, 0, 0, 0, 0)), (53, (.istore_n 1, 54, 1, 0, 0, 0)), (54, (.iload_n 1, 55, 1, 0, 0, 0)), (55, (.iload_n 2, 56, 2, 0, 0, 0)), (56, (.iconst 5, 57, 0, 0, 0, 5)), (57, (.irem, 58, 0, 0, 0, 0)), (58, (.ifCond .le 11, 61, 69, 0, 0, 0)), (61, (.iconst 1, 62, 0, 0, 0, 1)), (62, (.iload_n 2, 63, 2, 0, 0, 0)), (63, (.iconst 1, 64, 0, 0, 0, 1)), (64, (.isub, 65, 0, 0, 0, 0)), (65, (.ishl, 66, 0, 0, 0, 0)), (66, (.goto 4, 69, 70, 0, 0, 0)), (69, (.iconst 0, 70, 0, 0, 0, 0)), (70, (.ior, 71, 0, 0, 0, 0)), (71, (.istore_n 1, 72, 1, 0, 0, 0)), (72, (.iload_n 1, 73, 1, 0, 0, 0)), (73, (.iload_n 2, 74, 2, 0, 0, 0)), (74, (.iconst 5, 75, 0, 0, 0, 5)), (75, (.irem, 76, 0, 0, 0, 0)), (76, (.iconst 4, 77, 0, 0, 0, 4)), (77, (.if_icmp .ge 11, 80, 88, 0, 0, 0)), (80, (.iconst 1, 81, 0, 0, 0, 1)), (81, (.iload_n 2, 82, 2, 0, 0, 0)), (82, (.iconst 1, 83, 0, 0, 0, 1)), (83, (.iadd, 84, 0, 0, 0, 0)), (84, (.ishl, 85, 0, 0, 0, 0)), (85, (.goto 4, 88, 89, 0, 0, 0)), (88, (.iconst 0, 89, 0, 0, 0, 0)), (89, (.ior, 90, 0, 0, 0, 0)), (90, (.istore_n 1, 91, 1, 0, 0, 0)), (91, (.iinc 2 1, 94, 2, 0, 0, 1)), (94, (.goto (-90), 97, 4, 0, 0, 0)), (97, (.iload_n 1, 98, 1, 0, 0, 0)), (98, (.ireturn, 99, 0, 0, 0, 0))]
def tb_X5_firstOf : List (Nat × ix_E) := [(0, (.iconst 0, 1, 0, 0, 0, 0)), (1, (.istore_n 1, 2, 1, 0, 0, 0)), (2, (.iload_n 0, 3, 0, 0, 0, 0)), (3, (.iload_n 1, 4, 1, 0, 0, 0)), (4, (.ishr, 5, 0, 0, 0, 0)), (5, (.iconst 1, 6, 0, 0, 0, 1)), (6, (.iand, 7, 0, 0, 0, 0)), (7, (.ifCond .ne 9, 10, 16, 0, 0, 0)), (10, (.iinc 1 1, 13, 1, 0, 0, 1)), (13, (.goto (-11), 16, 2, 0, 0, 0)), (16, (.iload_n 1, 17, 1, 0, 0, 0)), (17, (.ireturn, 18, 0, 0, 0, 0))]
def tb_X5_hangs : List (Nat × ix_E) := [(0, (.iconst 1, 1, 0, 0, 0, 1)), (1, (.iload_n 0, 2, 0, 0, 0, 0)), (2, (.invokestatic 96, 5, 115, 0, 693, 0)), (5, (.ishl, 6, 0, 0, 0, 0)), (6, (.istore_n 1, 7, 1, 0, 0, 0)), (7, (.iconst 0, 8, 0, 0, 0, 0)), (8, (.istore_n 2, 9, 2, 0, 0, 0)), (9, (.iload_n 2, 10, 2, 0, 0, 0)), (10, (.bipush 20, 12, 0, 0, 0, 20)), (12, (.if_icmp .ge 18, 15, 30, 0, 0, 0)), (15, (.iload_n 1, 16, 1, 0, 0, 0)), (16, (.iload_n 1, 17, 1, 0, 0, 0)), (17, (.invokestatic 99, 20, 114, 0, 696, 0)), (20, (.iload_n 0, 21, 0, 0, 0, 0)), (21, (.iand, 22, 0, 0, 0, 0)), (22, (.ior, 23, 0, 0, 0, 0)), (23, (.istore_n 1, 24, 1, 0, 0, 0)), (24, (.iinc 2 1, 27, 2, 0, 0, 1)), (27, (.goto (-18), 30, 9, 0, 0, 0)), (30, (.iload_n 1, 31, 1, 0, 0, 0)), (31, (.iload_n 0, 32, 0, 0, 0, 0)), (32, (.if_icmp .ne 7, 35, 39, 0, 0, 0)), (35, (.iconst 1, 36, 0, 0, 0, 1)), (36, (.goto 4, 39, 40, 0, 0, 0)), (39, (.iconst 0, 40, 0, 0, 0, 0)), (40, (.ireturn, 41, 0, 0, 0, 0))]
def tb_X5_all : List (Nat × ix_E) := [(0, (.iconst 0, 1, 0, 0, 0, 0)), (1, (.istore_n 1, 2, 1, 0, 0, 0)), (2, (.iconst 0, 3, 0, 0, 0, 0)), (3, (.istore_n 2, 4, 2, 0, 0, 0)), (4, (.iload_n 2, 5, 2, 0, 0, 0)), (5, (.aload_n 0, 6, 0, 0, 0, 0)), (6, (.getfield 7, 9, 0, 5, 533, 0)), (9, (.if_icmp .ge 18, 12, 27, 0, 0, 0)), (12, (.iload_n 1, 13, 1, 0, 0, 0)), (13, (.aload_n 0, 14, 0, 0, 0, 0)), (14, (.getfield 23, 17, 7, 5, 540, 0)), (17, (.iload_n 2, 18, 2, 0, 0, 0)), (18, (.iaload, 19, 0, 0, 0, 0)), (19, (.ior, 20, 0, 0, 0, 0)), (20, (.istore_n 1, 21, 1, 0, 0, 0)), (21, (.iinc 2 1, 24, 2, 0, 0, 1)), (24, (.goto (-20), 27, 4, 0, 0, 0)), (27, (.iload_n 1, 28, 1, 0, 0, 0)), (28, (.ireturn, 29, 0, 0, 0, 0))]
def tb_X5_together : List (Nat × ix_E) := [(0, (.iconst 0, 1, 0, 0, 0, 0)), (1, (.istore_n 1, 2, 1, 0, 0, 0)), (2, (.iconst 0, 3, 0, 0, 0, 0)), (3, (.istore_n 2, 4, 2, 0, 0, 0)), (4, (.iload_n 2, 5, 2, 0, 0, 0)), (5, (.aload_n 0, 6, 0, 0, 0, 0)), (6, (.getfield 7, 9, 0, 5, 533, 0)), (9, (.if_icmp .ge 21, 12, 30, 0, 0, 0)), (12, (.iload_n 1, 13, 1, 0, 0, 0)), (13, (.aload_n 0, 14, 0, 0, 0, 0)), (14, (.getfield 23, 17, 7, 5, 540, 0)), (17, (.iload_n 2, 18, 2, 0, 0, 0)), (18, (.iaload, 19, 0, 0, 0, 0)), (19, (.invokestatic 64, 22, 89, 0, 619, 0)), (22, (.iadd, 23, 0, 0, 0, 0)), (23, (.istore_n 1, 24, 1, 0, 0, 0)), (24, (.iinc 2 1, 27, 2, 0, 0, 1)), (27, (.goto (-23), 30, 4, 0, 0, 0)), (30, (.iload_n 1, 31, 1, 0, 0, 0)), (31, (.ireturn, 32, 0, 0, 0, 0))]
def tb_X5_fails : List (Nat × ix_E) := [(0, (.iconst 0, 1, 0, 0, 0, 0)), (1, (.istore_n 2, 2, 2, 0, 0, 0)), (2, (.iconst 0, 3, 0, 0, 0, 0)), (3, (.istore_n 3, 4, 3, 0, 0, 0)), (4, (.iload_n 3, 5, 3, 0, 0, 0)), (5, (.aload_n 0, 6, 0, 0, 0, 0)), (6, (.getfield 7, 9, 0, 5, 533, 0)), (9, (.if_icmp .ge 115, 12, 124, 0, 0, 0)), (12, (.iload_n 2, 13, 2, 0, 0, 0)), (13, (.ifCond .ne 34, 16, 47, 0, 0, 0)), (16, (.iload_n 1, 17, 1, 0, 0, 0)), (17, (.iconst 1, 18, 0, 0, 0, 1)), (18, (.if_icmp .ne 12, 21, 30, 0, 0, 0)), (21, (.aload_n 0, 22, 0, 0, 0, 0)), (22, (.getfield 23, 25, 7, 5, 540, 0)), (25, (.iload_n 3, 26, 3, 0, 0, 0)), (26, (.iaload, 27, 0, 0, 0, 0)), (27, (.ifCond .eq 20, 30, 47, 0, 0, 0)), (30, (.iload_n 1, 31, 1, 0, 0, 0)), (31, (.iconst 4, 32, 0, 0, 0, 4)), (32, (.if_icmp .ne 19, 35, 51, 0, 0, 0)), (35, (.aload_n 0, 36, 0, 0, 0, 0)), (36, (.getfield 23, 39, 7, 5, 540, 0)), (39, (.iload_n 3, 40, 3, 0, 0, 0)), (40, (.iaload, 41, 0, 0, 0, 0)), (41, (.invokestatic 102, 44, 116, 0, 690, 0)), (44, (.ifCond .ne 7, 47, 51, 0, 0, 0)), (47, (.iconst 1, 48, 0, 0, 0, 1)), (48, (.goto 4, 51, 52, 0, 0, 0)), (51, (.iconst 0, 52, 0, 0, 0, 0)), (52, (.istore_n 2, 53, 2, 0, 0, 0)), (53, (.iconst 0, 54, 0, 0, 0, 0)), (54, (.istore 4, 56, 4, 0, 0, 0)), (56, (.iload 4, 58, 4, 0, 0, 0)), (58, (.iload_n 3, 59, 3, 0, 0, 0)), (59, (.if_icmp .ge 59, 62, 118, 0, 0, 0)), (62, (.iload_n 1, 63, 1, 0, 0, 0)), (63, (.iconst 5, 64, 0, 0, 0, 5)), (64, (.if_icmp .ne 54, 67, 118, 0, 0, 0)), (67, (.iload_n 2, 68, 2, 0, 0, 0)), (68, (.ifCond .ne 38, 71, 106, 0, 0, 0)), (71, (.aload_n 0, 72, 0, 0, 0, 0)), (72, (.getfield 13, 75, 2, 5, 535, 0)), (75, (.bipush 8, 77, 0, 0, 0, 8)), (77, (.iload_n 3, 78, 3, 0, 0, 0)), (78, (.imul, 79, 0, 0, 0, 0)), (79, (.iload 4, 81, 4, 0, 0, 0)), (81, (.iadd, 82, 0, 0, 0, 0)), (82, (.iaload, 83, 0, 0, 0, 0)), (83, (.ifCond .eq 27, 86, 110, 0, 0, 0)), (86, (.aload_n 0, 87, 0, 0, 0, 0)), (87, (.getfield 23, 90, 7, 5, 540, 0)), (90, (.iload_n 3, 91, 3, 0, 0, 0)), (91, (.iaload, 92, 0, 0, 0, 0)), (92, (.invokestatic 99, 95, 114, 0, 696, 0)), (95, (.aload_n 0, 96, 0, 0, 0, 0)), (96, (.getfield 23, 99, 7, 5, 540, 0)), (99, (.iload 4, 101, 4, 0, 0, 0)), (101, (.iaload, 102, 0, 0, 0, 0)), (102, (.iand, 103, 0, 0, 0, 0)), (103, (.ifCond .ne 7, 106, 110, 0, 0, 0)), (106, (.iconst 1, 107, 0, 0, 0, 1)), (107, (.goto 4, 110, 111, 0, 0, 0)), (110, (.iconst 0, 111, 0, 0, 0, 0)), (111, (.istore_n 2, 112, 2, 0, 0, 0)), (112, (.iinc 4 1, 115, 4, 0, 0, 1)), (115, (.goto (-59), 118, 56, 0, 0, 0)), (118, (.iinc 3 1, 121, 3, 0, 0, 1)), (121, (.goto (-117), 124, 4, 0, 0, 0)), (124, (.iload_n 2, 125, 2, 0, 0, 0)), (125, (.ireturn, 126, 0, 0, 0, 0))]
def tb_X5_stands : List (Nat × ix_E) := [(0, (.aload_n 0, 1, 0, 0, 0, 0)), (1, (.iconst 1, 2, 0, 0, 0, 1)), (2, (.invokevirtual 105, 5, 119, 0, 686, 0)), (5, (.ifCond .eq 5, 8, 10, 0, 0, 0)), (8, (.iconst 1, 9, 0, 0, 0, 1)), (9, (.ireturn, 10, 0, 0, 0, 0)), (10, (.aload_n 0, 11, 0, 0, 0, 0)), (11, (.invokevirtual 108, 14, 117, 0, 699, 0)), (14, (.aload_n 0, 15, 0, 0, 0, 0)), (15, (.getfield 92, 18, 6, 5, 539, 0)), (18, (.iand, 19, 0, 0, 0, 0)), (19, (.ifCond .eq 5, 22, 24, 0, 0, 0)), (22, (.iconst 2, 23, 0, 0, 0, 2)), (23, (.ireturn, 24, 0, 0, 0, 0)), (24, (.aload_n 0, 25, 0, 0, 0, 0)), (25, (.invokevirtual 112, 28, 118, 0, 703, 0)), (28, (.aload_n 0, 29, 0, 0, 0, 0)), (29, (.invokevirtual 108, 32, 117, 0, 699, 0)), (32, (.invokestatic 64, 35, 89, 0, 619, 0)), (35, (.if_icmp .eq 5, 38, 40, 0, 0, 0)), (38, (.iconst 3, 39, 0, 0, 0, 3)), (39, (.ireturn, 40, 0, 0, 0, 0)), (40, (.aload_n 0, 41, 0, 0, 0, 0)), (41, (.iconst 4, 42, 0, 0, 0, 4)), (42, (.invokevirtual 105, 45, 119, 0, 686, 0)), (45, (.ifCond .eq 7, 48, 52, 0, 0, 0)), (48, (.iconst 4, 49, 0, 0, 0, 4)), (49, (.goto 30, 52, 79, 0, 0, 0)), (52, (.aload_n 0, 53, 0, 0, 0, 0)), (53, (.iconst 5, 54, 0, 0, 0, 5)), (54, (.invokevirtual 105, 57, 119, 0, 686, 0)), (57, (.ifCond .eq 7, 60, 64, 0, 0, 0)), (60, (.iconst 5, 61, 0, 0, 0, 5)), (61, (.goto 18, 64, 79, 0, 0, 0)), (64, (.aload_n 0, 65, 0, 0, 0, 0)), (65, (.invokevirtual 112, 68, 118, 0, 703, 0)), (68, (.bipush 14, 70, 0, 0, 0, 14)), (70, (.if_icmp .le 8, 73, 78, 0, 0, 0)), (73, (.bipush 6, 75, 0, 0, 0, 6)), (75, (.goto 4, 78, 79, 0, 0, 0)), (78, (.iconst 0, 79, 0, 0, 0, 0)), (79, (.ireturn, 80, 0, 0, 0, 0))]
def tb_X5_linkOf : List (Nat × ix_E) := [(0, (.aload_n 0, 1, 0, 0, 0, 0)), (1, (.getfield 23, 4, 7, 5, 540, 0)), (4, (.iload_n 2, 5, 2, 0, 0, 0)), (5, (.iaload, 6, 0, 0, 0, 0)), (6, (.invokestatic 99, 9, 114, 0, 696, 0)), (9, (.aload_n 0, 10, 0, 0, 0, 0)), (10, (.getfield 23, 13, 7, 5, 540, 0)), (13, (.iload_n 1, 14, 1, 0, 0, 0)), (14, (.iaload, 15, 0, 0, 0, 0)), (15, (.iand, 16, 0, 0, 0, 0)), (16, (.invokestatic 96, 19, 115, 0, 693, 0)), (19, (.istore 4, 21, 4, 0, 0, 0)), (21, (.iload_n 3, 22, 3, 0, 0, 0)), (22, (.ifCond .ne 8, 25, 30, 0, 0, 0)), (25, (.iload 4, 27, 4, 0, 0, 0)), (27, (.goto 20, 30, 47, 0, 0, 0)), (30, (.iconst 1, 31, 0, 0, 0, 1)), (31, (.iload 4, 33, 4, 0, 0, 0)), (33, (.ishl, 34, 0, 0, 0, 0)), (34, (.invokestatic 99, 37, 114, 0, 696, 0)), (37, (.aload_n 0, 38, 0, 0, 0, 0)), (38, (.getfield 23, 41, 7, 5, 540, 0)), (41, (.iload_n 2, 42, 2, 0, 0, 0)), (42, (.iaload, 43, 0, 0, 0, 0)), (43, (.iand, 44, 0, 0, 0, 0)), (44, (.invokestatic 96, 47, 115, 0, 693, 0)), (47, (.ireturn, 48, 0, 0, 0, 0))]
def tb_X5_link : List (Nat × ix_E) := [(0, (.aload_n 0, 1, 0, 0, 0, 0)), (1, (.iload_n 1, 2, 1, 0, 0, 0)), (2, (.invokevirtual 48, 5, 90, 0, 590, 0)), (5, (.ifCond .eq 25, 8, 30, 0, 0, 0)), (8, (.aload_n 0, 9, 0, 0, 0, 0)), (9, (.iload_n 2, 10, 2, 0, 0, 0)), (10, (.invokevirtual 48, 13, 90, 0, 590, 0)), (13, (.ifCond .eq 17, 16, 30, 0, 0, 0)), (16, (.iload_n 1, 17, 1, 0, 0, 0)), (17, (.iload_n 2, 18, 2, 0, 0, 0)), (18, (.if_icmp .eq 12, 21, 30, 0, 0, 0)), (21, (.iload_n 3, 22, 3, 0, 0, 0)), (22, (.iconst 0, 23, 0, 0, 0, 0)), (23, (.iconst 1, 24, 0, 0, 0, 1)), (24, (.invokestatic 38, 27, 87, 0, 583, 0)), (27, (.ifCond .ne 6, 30, 33, 0, 0, 0)), (30, (.bipush (-2), 32, 0, 0, 0, (-2))), (32, (.ireturn, 33, 0, 0, 0, 0)), (33, (.aload_n 0, 34, 0, 0, 0, 0)), (34, (.invokevirtual 115, 37, 120, 0, 711, 0)), (37, (.ifCond .ne 17, 40, 54, 0, 0, 0)), (40, (.aload_n 0, 41, 0, 0, 0, 0)), (41, (.getfield 13, 44, 2, 5, 535, 0)), (44, (.bipush 8, 46, 0, 0, 0, 8)), (46, (.iload_n 1, 47, 1, 0, 0, 0)), (47, (.imul, 48, 0, 0, 0, 0)), (48, (.iload_n 2, 49, 2, 0, 0, 0)), (49, (.iadd, 50, 0, 0, 0, 0)), (50, (.iaload, 51, 0, 0, 0, 0)), (51, (.ifCond .ne 6, 54, 57, 0, 0, 0)), (54, (.bipush (-3), 56, 0, 0, 0, (-3))), (56, (.ireturn, 57, 0, 0, 0, 0)), (57, (.aload_n 0, 58, 0, 0, 0, 0)), (58, (.iload_n 1, 59, 1, 0, 0, 0)), (59, (.iload_n 2, 60, 2, 0, 0, 0)), (60, (.if_icmp .ge 7, 63, 67, 0, 0, 0)), (63, (.iload_n 1, 64, 1, 0, 0, 0)), (64, (.goto 4, 67, 68, 0, 0, 0)), (67, (.iload_n 2, 68, 2, 0, 0, 0)), (68, (.iload_n 1, 69, 1, 0, 0, 0)), (69, (.iload_n 2, 70, 2, 0, 0, 0)), (70, (.if_icmp .ge 7, 73, 77, 0, 0, 0)), (73, (.iload_n 2, 74, 2, 0, 0, 0)), (74, (.goto 4, 77, 78, 0, 0, 0)), (77, (.iload_n 1, 78, 1, 0, 0, 0)), (78, (.iload_n 3, 79, 3, 0, 0, 0)), (79, (.invokevirtual 118, 82, 121, 0, 712, 0)), (82, (.ireturn, 83, 0, 0, 0, 0))]
def tb_X5_spread : List (Nat × ix_E) := [(0, (.iconst 0, 1, 0, 0, 0, 0)), (1, (.istore_n 2, 2, 2, 0, 0, 0)), (2, (.iconst 0, 3, 0, 0, 0, 0)), (3, (.istore_n 3, 4, 3, 0, 0, 0)), (4, (.iload_n 3, 5, 3, 0, 0, 0)), (5, (.aload_n 0, 6, 0, 0, 0, 0)), (6, (.getfield 122, 9, 10, 5, 543, 0)), (9, (.if_icmp .ge 24, 12, 33, 0, 0, 0)), (12, (.iload_n 2, 13, 2, 0, 0, 0)), (13, (.iload_n 1, 14, 1, 0, 0, 0)), (14, (.iload_n 3, 15, 3, 0, 0, 0)), (15, (.ishr, 16, 0, 0, 0, 0)), (16, (.iconst 1, 17, 0, 0, 0, 1)), (17, (.iand, 18, 0, 0, 0, 0)), (18, (.aload_n 0, 19, 0, 0, 0, 0)), (19, (.getfield 26, 22, 11, 5, 544, 0)), (22, (.iload_n 3, 23, 3, 0, 0, 0)), (23, (.iaload, 24, 0, 0, 0, 0)), (24, (.ishl, 25, 0, 0, 0, 0)), (25, (.ior, 26, 0, 0, 0, 0)), (26, (.istore_n 2, 27, 2, 0, 0, 0)), (27, (.iinc 3 1, 30, 3, 0, 0, 1)), (30, (.goto (-26), 33, 4, 0, 0, 0)), (33, (.iload_n 2, 34, 2, 0, 0, 0)), (34, (.ireturn, 35, 0, 0, 0, 0))]
def tb_X5_layGrid : List (Nat × ix_E) := [(0, (.aload_n 0, 1, 0, 0, 0, 0)), (1, (.iconst 0, 2, 0, 0, 0, 0)), (2, (.putfield 122, 5, 10, 5, 543, 0)), (5, (.aload_n 0, 6, 0, 0, 0, 0)), (6, (.invokevirtual 108, 9, 117, 0, 699, 0)), (9, (.istore_n 1, 10, 1, 0, 0, 0)), (10, (.iconst 0, 11, 0, 0, 0, 0)), (11, (.istore_n 2, 12, 2, 0, 0, 0)), (12, (.iload_n 2, 13, 2, 0, 0, 0)), (13, (.bipush 20, 15, 0, 0, 0, 20)), (15, (.if_icmp .ge 38, 18, 53, 0, 0, 0)), (18, (.iload_n 1, 19, 1, 0, 0, 0)), (19, (.iload_n 2, 20, 2, 0, 0, 0)), (20, (.ishr, 21, 0, 0, 0, 0)), (21, (.iconst 1, 22, 0, 0, 0, 1)), (22, (.iand, 23, 0, 0, 0, 0)), (23, (.iconst 1, 24, 0, 0, 0, 1)), (24, (.if_icmp .ne 23, 27, 47, 0, 0, 0)), (27, (.aload_n 0, 28, 0, 0, 0, 0)), (28, (.getfield 26, 31, 11, 5, 544, 0)), (31, (.aload_n 0, 32, 0, 0, 0, 0)), (32, (.getfield 122, 35, 10, 5, 543, 0)), (35, (.iload_n 2, 36, 2, 0, 0, 0)), (36, (.iastore, 37, 0, 0, 0, 0)), (37, (.aload_n 0, 38, 0, 0, 0, 0)), (38, (.dup, 39, 0, 0, 0, 0)), (39, (.getfield 122, 42, 10, 5, 543, 0)), (42, (.iconst 1, 43, 0, 0, 0, 1)), (43, (.iadd, 44, 0, 0, 0, 0)), (44, (.putfield 122, 47, 10, 5, 543, 0)), (47, (.iinc 2 1, 50, 2, 0, 0, 1)), (50, (.goto (-38), 53, 12, 0, 0, 0)), (53, (.iconst 0, 54, 0, 0, 0, 0)), (54, (.istore_n 2, 55, 2, 0, 0, 0)), (55, (.iload_n 2, 56, 2, 0, 0, 0)), (56, (.aload_n 0, 57, 0, 0, 0, 0)), (57, (.getfield 7, 60, 0, 5, 533, 0)), (60, (.if_icmp .ge 93, 63, 153, 0, 0, 0)), (63, (.iconst 0, 64, 0, 0, 0, 0)), (64, (.istore_n 3, 65, 3, 0, 0, 0)), (65, (.iload_n 3, 66, 3, 0, 0, 0)), (66, (.iload_n 2, 67, 2, 0, 0, 0)), (67, (.if_icmp .gt 80, 70, 147, 0, 0, 0)), (70, (.aload_n 0, 71, 0, 0, 0, 0)), (71, (.getfield 13, 74, 2, 5, 535, 0)), (74, (.bipush 8, 76, 0, 0, 0, 8)), (76, (.iload_n 2, 77, 2, 0, 0, 0)), (77, (.imul, 78, 0, 0, 0, 0)), (78, (.iload_n 3, 79, 3, 0, 0, 0)), (79, (.iadd, 80, 0, 0, 0, 0)), (80, (.iaload, 81, 0, 0, 0, 0)), (81, (.istore 4, 83, 4, 0, 0, 0)), (83, (.aload_n 0, 84, 0, 0, 0, 0)), (84, (.getfield 29, 87, 12, 5, 545, 0)), (87, (.bipush 8, 89, 0, 0, 0, 8)), (89, (.iload_n 2, 90, 2, 0, 0, 0)), (90, (.imul, 91, 0, 0, 0, 0)), (91, (.iload_n 3, 92, 3, 0, 0, 0)), (92, (.iadd, 93, 0, 0, 0, 0)), (93, (.iload_n 2, 94, 2, 0, 0, 0)), (94, (.iload_n 3, 95, 3, 0, 0, 0)), (95, (.if_icmp .ne 17, 98, 112, 0, 0, 0)), (98, (.iconst 1, 99, 0, 0, 0, 1)), (99, (.aload_n 0, 100, 0, 0, 0, 0)), (100, (.getfield 23, 103, 7, 5, 540, 0)), (103, (.iload_n 2, 104, 2, 0, 0, 0)), (104, (.iaload, 105, 0, 0, 0, 0)), (105, (.invokestatic 96, 108, 115, 0, 693, 0)), (108, (.ishl, 109, 0, 0, 0, 0)), (109, (.goto 31, 112, 140, 0, 0, 0)), (112, (.iload 4, 114, 4, 0, 0, 0)), (114, (.ifCond .ne 7, 117, 121, 0, 0, 0)), (117, (.iconst 0, 118, 0, 0, 0, 0)), (118, (.goto 22, 121, 140, 0, 0, 0)), (121, (.iconst 1, 122, 0, 0, 0, 1)), (122, (.aload_n 0, 123, 0, 0, 0, 0)), (123, (.iload_n 3, 124, 3, 0, 0, 0)), (124, (.iload_n 2, 125, 2, 0, 0, 0)), (125, (.iconst 0, 126, 0, 0, 0, 0)), (126, (.invokevirtual 118, 129, 121, 0, 712, 0)), (129, (.ishl, 130, 0, 0, 0, 0)), (130, (.iconst 1, 131, 0, 0, 0, 1)), (131, (.aload_n 0, 132, 0, 0, 0, 0)), (132, (.iload_n 3, 133, 3, 0, 0, 0)), (133, (.iload_n 2, 134, 2, 0, 0, 0)), (134, (.iconst 1, 135, 0, 0, 0, 1)), (135, (.invokevirtual 118, 138, 121, 0, 712, 0)), (138, (.ishl, 139, 0, 0, 0, 0)), (139, (.ior, 140, 0, 0, 0, 0)), (140, (.iastore, 141, 0, 0, 0, 0)), (141, (.iinc 3 1, 144, 3, 0, 0, 1)), (144, (.goto (-79), 147, 65, 0, 0, 0)), (147, (.iinc 2 1, 150, 2, 0, 0, 1)), (150, (.goto (-95), 153, 55, 0, 0, 0)), (153, (.return_, 154, 0, 0, 0, 0))]
def tb_X5_energyOn : List (Nat × ix_E) := [(0, (.aload_n 0, 1, 0, 0, 0, 0)), (1, (.getfield 42, 4, 1, 5, 534, 0)), (4, (.istore_n 2, 5, 2, 0, 0, 0)), (5, (.iconst 0, 6, 0, 0, 0, 0)), (6, (.istore_n 3, 7, 3, 0, 0, 0)), (7, (.iload_n 3, 8, 3, 0, 0, 0)), (8, (.aload_n 0, 9, 0, 0, 0, 0)), (9, (.getfield 7, 12, 0, 5, 533, 0)), (12, (.if_icmp .ge 71, 15, 83, 0, 0, 0)), (15, (.iconst 0, 16, 0, 0, 0, 0)), (16, (.istore 4, 18, 4, 0, 0, 0)), (18, (.iload 4, 20, 4, 0, 0, 0)), (20, (.iload_n 3, 21, 3, 0, 0, 0)), (21, (.if_icmp .gt 56, 24, 77, 0, 0, 0)), (24, (.aload_n 0, 25, 0, 0, 0, 0)), (25, (.getfield 29, 28, 12, 5, 545, 0)), (28, (.bipush 8, 30, 0, 0, 0, 8)), (30, (.iload_n 3, 31, 3, 0, 0, 0)), (31, (.imul, 32, 0, 0, 0, 0)), (32, (.iload 4, 34, 4, 0, 0, 0)), (34, (.iadd, 35, 0, 0, 0, 0)), (35, (.iaload, 36, 0, 0, 0, 0)), (36, (.istore 5, 38, 5, 0, 0, 0)), (38, (.iload_n 2, 39, 2, 0, 0, 0)), (39, (.iload 5, 41, 5, 0, 0, 0)), (41, (.ifCond .eq 27, 44, 68, 0, 0, 0)), (44, (.iload_n 1, 45, 1, 0, 0, 0)), (45, (.iload 5, 47, 5, 0, 0, 0)), (47, (.iand, 48, 0, 0, 0, 0)), (48, (.iload 5, 50, 5, 0, 0, 0)), (50, (.if_icmp .ne 18, 53, 68, 0, 0, 0)), (53, (.aload_n 0, 54, 0, 0, 0, 0)), (54, (.getfield 13, 57, 2, 5, 535, 0)), (57, (.bipush 8, 59, 0, 0, 0, 8)), (59, (.iload_n 3, 60, 3, 0, 0, 0)), (60, (.imul, 61, 0, 0, 0, 0)), (61, (.iload 4, 63, 4, 0, 0, 0)), (63, (.iadd, 64, 0, 0, 0, 0)), (64, (.iaload, 65, 0, 0, 0, 0)), (65, (.goto 4, 68, 69, 0, 0, 0)), (68, (.iconst 0, 69, 0, 0, 0, 0)), (69, (.iadd, 70, 0, 0, 0, 0)), (70, (.istore_n 2, 71, 2, 0, 0, 0)), (71, (.iinc 4 1, 74, 4, 0, 0, 1)), (74, (.goto (-56), 77, 18, 0, 0, 0)), (77, (.iinc 3 1, 80, 3, 0, 0, 1)), (80, (.goto (-73), 83, 7, 0, 0, 0)), (83, (.iload_n 2, 84, 2, 0, 0, 0)), (84, (.ireturn, 85, 0, 0, 0, 0))]
def tb_X5_unlike : List (Nat × ix_E) := [(0, (.iconst 0, 1, 0, 0, 0, 0)), (1, (.istore_n 2, 2, 2, 0, 0, 0)), (2, (.iconst 0, 3, 0, 0, 0, 0)), (3, (.istore_n 3, 4, 3, 0, 0, 0)), (4, (.iload_n 3, 5, 3, 0, 0, 0)), (5, (.aload_n 0, 6, 0, 0, 0, 0)), (6, (.getfield 7, 9, 0, 5, 533, 0)), (9, (.if_icmp .ge 88, 12, 97, 0, 0, 0)), (12, (.iload_n 1, 13, 1, 0, 0, 0)), (13, (.aload_n 0, 14, 0, 0, 0, 0)), (14, (.getfield 23, 17, 7, 5, 540, 0)), (17, (.iload_n 3, 18, 3, 0, 0, 0)), (18, (.iaload, 19, 0, 0, 0, 0)), (19, (.iand, 20, 0, 0, 0, 0)), (20, (.istore 4, 22, 4, 0, 0, 0)), (22, (.aload_n 0, 23, 0, 0, 0, 0)), (23, (.getfield 23, 26, 7, 5, 540, 0)), (26, (.iload_n 3, 27, 3, 0, 0, 0)), (27, (.iaload, 28, 0, 0, 0, 0)), (28, (.iload_n 1, 29, 1, 0, 0, 0)), (29, (.iconst (-1), 30, 0, 0, 0, (-1))), (30, (.ixor, 31, 0, 0, 0, 0)), (31, (.iand, 32, 0, 0, 0, 0)), (32, (.istore 5, 34, 5, 0, 0, 0)), (34, (.iconst 0, 35, 0, 0, 0, 0)), (35, (.istore 6, 37, 6, 0, 0, 0)), (37, (.iload 6, 39, 6, 0, 0, 0)), (39, (.bipush 20, 41, 0, 0, 0, 20)), (41, (.if_icmp .ge 50, 44, 91, 0, 0, 0)), (44, (.iload 4, 46, 4, 0, 0, 0)), (46, (.ifCond .eq 45, 49, 91, 0, 0, 0)), (49, (.iload 5, 51, 5, 0, 0, 0)), (51, (.ifCond .eq 40, 54, 91, 0, 0, 0)), (54, (.iload_n 2, 55, 2, 0, 0, 0)), (55, (.iload 4, 57, 4, 0, 0, 0)), (57, (.iload 6, 59, 6, 0, 0, 0)), (59, (.ishr, 60, 0, 0, 0, 0)), (60, (.iconst 1, 61, 0, 0, 0, 1)), (61, (.iand, 62, 0, 0, 0, 0)), (62, (.iconst 1, 63, 0, 0, 0, 1)), (63, (.if_icmp .ne 19, 66, 82, 0, 0, 0)), (66, (.iconst 1, 67, 0, 0, 0, 1)), (67, (.iload 6, 69, 6, 0, 0, 0)), (69, (.ishl, 70, 0, 0, 0, 0)), (70, (.invokestatic 99, 73, 114, 0, 696, 0)), (73, (.iload 5, 75, 5, 0, 0, 0)), (75, (.iand, 76, 0, 0, 0, 0)), (76, (.invokestatic 64, 79, 89, 0, 619, 0)), (79, (.goto 4, 82, 83, 0, 0, 0)), (82, (.iconst 0, 83, 0, 0, 0, 0)), (83, (.iadd, 84, 0, 0, 0, 0)), (84, (.istore_n 2, 85, 2, 0, 0, 0)), (85, (.iinc 6 1, 88, 6, 0, 0, 1)), (88, (.goto (-51), 91, 37, 0, 0, 0)), (91, (.iinc 3 1, 94, 3, 0, 0, 1)), (94, (.goto (-90), 97, 4, 0, 0, 0)), (97, (.iload_n 2, 98, 2, 0, 0, 0)), (98, (.ireturn, 99, 0, 0, 0, 0))]
def tb_X5_strong : List (Nat × ix_E) := [(0, (.aload_n 0, 1, 0, 0, 0, 0)), (1, (.invokevirtual 115, 4, 120, 0, 711, 0)), (4, (.ifCond .eq 6, 7, 10, 0, 0, 0)), (7, (.bipush (-3), 9, 0, 0, 0, (-3))), (9, (.ireturn, 10, 0, 0, 0, 0)), (10, (.aload_n 0, 11, 0, 0, 0, 0)), (11, (.invokevirtual 125, 14, 124, 0, 720, 0)), (14, (.aload_n 0, 15, 0, 0, 0, 0)), (15, (.iconst 0, 16, 0, 0, 0, 0)), (16, (.invokevirtual 60, 19, 96, 0, 611, 0)), (19, (.istore_n 1, 20, 1, 0, 0, 0)), (20, (.iconst 1, 21, 0, 0, 0, 1)), (21, (.istore_n 2, 22, 2, 0, 0, 0)), (22, (.iload_n 2, 23, 2, 0, 0, 0)), (23, (.iconst 1, 24, 0, 0, 0, 1)), (24, (.aload_n 0, 25, 0, 0, 0, 0)), (25, (.getfield 7, 28, 0, 5, 533, 0)), (28, (.ishl, 29, 0, 0, 0, 0)), (29, (.if_icmp .ge 28, 32, 57, 0, 0, 0)), (32, (.aload_n 0, 33, 0, 0, 0, 0)), (33, (.iload_n 2, 34, 2, 0, 0, 0)), (34, (.invokevirtual 60, 37, 96, 0, 611, 0)), (37, (.iload_n 1, 38, 1, 0, 0, 0)), (38, (.if_icmp .ge 11, 41, 49, 0, 0, 0)), (41, (.aload_n 0, 42, 0, 0, 0, 0)), (42, (.iload_n 2, 43, 2, 0, 0, 0)), (43, (.invokevirtual 60, 46, 96, 0, 611, 0)), (46, (.goto 4, 49, 50, 0, 0, 0)), (49, (.iload_n 1, 50, 1, 0, 0, 0)), (50, (.istore_n 1, 51, 1, 0, 0, 0)), (51, (.iinc 2 1, 54, 2, 0, 0, 1)), (54, (.goto (-32), 57, 22, 0, 0, 0)), (57, (.iconst 0, 58, 0, 0, 0, 0)), (58, (.istore_n 2, 59, 2, 0, 0, 0)), (59, (.iconst 0, 60, 0, 0, 0, 0)), (60, (.istore_n 3, 61, 3, 0, 0, 0)), (61, (.iload_n 3, 62, 3, 0, 0, 0)), (62, (.iconst 1, 63, 0, 0, 0, 1)), (63, (.aload_n 0, 64, 0, 0, 0, 0)), (64, (.getfield 122, 67, 10, 5, 543, 0)), (67, (.ishl, 68, 0, 0, 0, 0)), (68, (.if_icmp .ge 67, 71, 135, 0, 0, 0)), (71, (.aload_n 0, 72, 0, 0, 0, 0)), (72, (.iload_n 3, 73, 3, 0, 0, 0)), (73, (.invokevirtual 128, 76, 123, 0, 724, 0)), (76, (.istore 4, 78, 4, 0, 0, 0)), (78, (.iload_n 1, 79, 1, 0, 0, 0)), (79, (.aload_n 0, 80, 0, 0, 0, 0)), (80, (.iload 4, 82, 4, 0, 0, 0)), (82, (.invokevirtual 131, 85, 125, 0, 728, 0)), (85, (.isub, 86, 0, 0, 0, 0)), (86, (.istore 5, 88, 5, 0, 0, 0)), (88, (.iload 5, 90, 5, 0, 0, 0)), (90, (.ifCond .lt 12, 93, 102, 0, 0, 0)), (93, (.aload_n 0, 94, 0, 0, 0, 0)), (94, (.iload 4, 96, 4, 0, 0, 0)), (96, (.invokevirtual 134, 99, 126, 0, 732, 0)), (99, (.goto 4, 102, 103, 0, 0, 0)), (102, (.iconst 0, 103, 0, 0, 0, 0)), (103, (.istore 6, 105, 6, 0, 0, 0)), (105, (.iload 6, 107, 6, 0, 0, 0)), (107, (.ifCond .le 22, 110, 129, 0, 0, 0)), (110, (.iload 5, 112, 5, 0, 0, 0)), (112, (.iload 6, 114, 6, 0, 0, 0)), (114, (.idiv, 115, 0, 0, 0, 0)), (115, (.iconst 1, 116, 0, 0, 0, 1)), (116, (.iadd, 117, 0, 0, 0, 0)), (117, (.iload_n 2, 118, 2, 0, 0, 0)), (118, (.if_icmp .le 11, 121, 129, 0, 0, 0)), (121, (.iload 5, 123, 5, 0, 0, 0)), (123, (.iload 6, 125, 6, 0, 0, 0)), (125, (.idiv, 126, 0, 0, 0, 0)), (126, (.iconst 1, 127, 0, 0, 0, 1)), (127, (.iadd, 128, 0, 0, 0, 0)), (128, (.istore_n 2, 129, 2, 0, 0, 0)), (129, (.iinc 3 1, 132, 3, 0, 0, 1)), (132, (.goto (-71), 135, 61, 0, 0, 0)), (135, (.iload_n 2, 136, 2, 0, 0, 0)), (136, (.ireturn, 137, 0, 0, 0, 0))]
def tb_X5_readBack : List (Nat × ix_E) := [(0, (.iload_n 1, 1, 1, 0, 0, 0)), (1, (.aload_n 0, 2, 0, 0, 0, 0)), (2, (.invokevirtual 108, 5, 117, 0, 699, 0)), (5, (.iconst (-1), 6, 0, 0, 0, (-1))), (6, (.ixor, 7, 0, 0, 0, 0)), (7, (.iand, 8, 0, 0, 0, 0)), (8, (.ifCond .eq 6, 11, 14, 0, 0, 0)), (11, (.bipush (-2), 13, 0, 0, 0, (-2))), (13, (.ireturn, 14, 0, 0, 0, 0)), (14, (.aload_n 0, 15, 0, 0, 0, 0)), (15, (.invokevirtual 115, 18, 120, 0, 711, 0)), (18, (.ifCond .eq 6, 21, 24, 0, 0, 0)), (21, (.bipush (-3), 23, 0, 0, 0, (-3))), (23, (.ireturn, 24, 0, 0, 0, 0)), (24, (.iconst 0, 25, 0, 0, 0, 0)), (25, (.istore_n 2, 26, 2, 0, 0, 0)), (26, (.iconst 0, 27, 0, 0, 0, 0)), (27, (.istore_n 3, 28, 3, 0, 0, 0)), (28, (.iload_n 3, 29, 3, 0, 0, 0)), (29, (.aload_n 0, 30, 0, 0, 0, 0)), (30, (.getfield 7, 33, 0, 5, 533, 0)), (33, (.if_icmp .ge 87, 36, 120, 0, 0, 0)), (36, (.iload_n 1, 37, 1, 0, 0, 0)), (37, (.aload_n 0, 38, 0, 0, 0, 0)), (38, (.getfield 23, 41, 7, 5, 540, 0)), (41, (.iload_n 3, 42, 3, 0, 0, 0)), (42, (.iaload, 43, 0, 0, 0, 0)), (43, (.iand, 44, 0, 0, 0, 0)), (44, (.invokestatic 64, 47, 89, 0, 619, 0)), (47, (.istore 4, 49, 4, 0, 0, 0)), (49, (.iconst 2, 50, 0, 0, 0, 2)), (50, (.iload 4, 52, 4, 0, 0, 0)), (52, (.imul, 53, 0, 0, 0, 0)), (53, (.aload_n 0, 54, 0, 0, 0, 0)), (54, (.getfield 23, 57, 7, 5, 540, 0)), (57, (.iload_n 3, 58, 3, 0, 0, 0)), (58, (.iaload, 59, 0, 0, 0, 0)), (59, (.invokestatic 64, 62, 89, 0, 619, 0)), (62, (.isub, 63, 0, 0, 0, 0)), (63, (.istore 5, 65, 5, 0, 0, 0)), (65, (.iload 5, 67, 5, 0, 0, 0)), (67, (.ifCond .gt 25, 70, 92, 0, 0, 0)), (70, (.iload 5, 72, 5, 0, 0, 0)), (72, (.ifCond .ne 24, 75, 96, 0, 0, 0)), (75, (.iload_n 1, 76, 1, 0, 0, 0)), (76, (.aload_n 0, 77, 0, 0, 0, 0)), (77, (.getfield 23, 80, 7, 5, 540, 0)), (80, (.iload_n 3, 81, 3, 0, 0, 0)), (81, (.iaload, 82, 0, 0, 0, 0)), (82, (.invokestatic 96, 85, 115, 0, 693, 0)), (85, (.ishr, 86, 0, 0, 0, 0)), (86, (.iconst 1, 87, 0, 0, 0, 1)), (87, (.iand, 88, 0, 0, 0, 0)), (88, (.iconst 1, 89, 0, 0, 0, 1)), (89, (.if_icmp .ne 7, 92, 96, 0, 0, 0)), (92, (.iconst 1, 93, 0, 0, 0, 1)), (93, (.goto 4, 96, 97, 0, 0, 0)), (96, (.iconst 0, 97, 0, 0, 0, 0)), (97, (.istore 6, 99, 6, 0, 0, 0)), (99, (.iload_n 2, 100, 2, 0, 0, 0)), (100, (.iload 6, 102, 6, 0, 0, 0)), (102, (.ifCond .eq 9, 105, 111, 0, 0, 0)), (105, (.iconst 1, 106, 0, 0, 0, 1)), (106, (.iload_n 3, 107, 3, 0, 0, 0)), (107, (.ishl, 108, 0, 0, 0, 0)), (108, (.goto 4, 111, 112, 0, 0, 0)), (111, (.iconst 0, 112, 0, 0, 0, 0)), (112, (.ior, 113, 0, 0, 0, 0)), (113, (.istore_n 2, 114, 2, 0, 0, 0)), (114, (.iinc 3 1, 117, 3, 0, 0, 1)), (117, (.goto (-89), 120, 28, 0, 0, 0)), (120, (.iload_n 2, 121, 2, 0, 0, 0)), (121, (.ireturn, 122, 0, 0, 0, 0))]
def tb_X5_turnOne : List (Nat × ix_E) := [(0, (.aload_n 0, 1, 0, 0, 0, 0)), (1, (.dup, 2, 0, 0, 0, 0)), (2, (.getfield 42, 5, 1, 5, 534, 0)), (5, (.aload_n 0, 6, 0, 0, 0, 0)), (6, (.getfield 13, 9, 2, 5, 535, 0)), (9, (.bipush 8, 11, 0, 0, 0, 8)), (11, (.iload_n 1, 12, 1, 0, 0, 0)), (12, (.imul, 13, 0, 0, 0, 0)), (13, (.iload_n 1, 14, 1, 0, 0, 0)), (14, (.iadd, 15, 0, 0, 0, 0)), (15, (.iaload, 16, 0, 0, 0, 0)), (16, (.iadd, 17, 0, 0, 0, 0)), (17, (.putfield 42, 20, 1, 5, 534, 0)), (20, (.aload_n 0, 21, 0, 0, 0, 0)), (21, (.getfield 13, 24, 2, 5, 535, 0)), (24, (.bipush 8, 26, 0, 0, 0, 8)), (26, (.iload_n 1, 27, 1, 0, 0, 0)), (27, (.imul, 28, 0, 0, 0, 0)), (28, (.iload_n 1, 29, 1, 0, 0, 0)), (29, (.iadd, 30, 0, 0, 0, 0)), (30, (.aload_n 0, 31, 0, 0, 0, 0)), (31, (.getfield 13, 34, 2, 5, 535, 0)), (34, (.bipush 8, 36, 0, 0, 0, 8)), (36, (.iload_n 1, 37, 1, 0, 0, 0)), (37, (.imul, 38, 0, 0, 0, 0)), (38, (.iload_n 1, 39, 1, 0, 0, 0)), (39, (.iadd, 40, 0, 0, 0, 0)), (40, (.iaload, 41, 0, 0, 0, 0)), (41, (.ineg, 42, 0, 0, 0, 0)), (42, (.iastore, 43, 0, 0, 0, 0)), (43, (.iconst 0, 44, 0, 0, 0, 0)), (44, (.istore_n 2, 45, 2, 0, 0, 0)), (45, (.iload_n 2, 46, 2, 0, 0, 0)), (46, (.aload_n 0, 47, 0, 0, 0, 0)), (47, (.getfield 7, 50, 0, 5, 533, 0)), (50, (.if_icmp .ge 57, 53, 107, 0, 0, 0)), (53, (.iload_n 2, 54, 2, 0, 0, 0)), (54, (.iload_n 1, 55, 1, 0, 0, 0)), (55, (.if_icmp .eq 46, 58, 101, 0, 0, 0)), (58, (.aload_n 0, 59, 0, 0, 0, 0)), (59, (.getfield 13, 62, 2, 5, 535, 0)), (62, (.bipush 8, 64, 0, 0, 0, 8)), (64, (.iload_n 2, 65, 2, 0, 0, 0)), (65, (.imul, 66, 0, 0, 0, 0)), (66, (.iload_n 2, 67, 2, 0, 0, 0)), (67, (.iadd, 68, 0, 0, 0, 0)), (68, (.dup2, 69, 0, 0, 0, 0)), (69, (.iaload, 70, 0, 0, 0, 0)), (70, (.aload_n 0, 71, 0, 0, 0, 0)), (71, (.getfield 13, 74, 2, 5, 535, 0)), (74, (.bipush 8, 76, 0, 0, 0, 8)), (76, (.iload_n 1, 77, 1, 0, 0, 0)), (77, (.imul, 78, 0, 0, 0, 0)), (78, (.iload_n 2, 79, 2, 0, 0, 0)), (79, (.iadd, 80, 0, 0, 0, 0)), (80, (.iaload, 81, 0, 0, 0, 0)), (81, (.iadd, 82, 0, 0, 0, 0)), (82, (.iastore, 83, 0, 0, 0, 0)), (83, (.aload_n 0, 84, 0, 0, 0, 0)), (84, (.iload_n 1, 85, 1, 0, 0, 0)), (85, (.iload_n 2, 86, 2, 0, 0, 0)), (86, (.aload_n 0, 87, 0, 0, 0, 0)), (87, (.getfield 13, 90, 2, 5, 535, 0)), (90, (.bipush 8, 92, 0, 0, 0, 8)), (92, (.iload_n 1, 93, 1, 0, 0, 0)), (93, (.imul, 94, 0, 0, 0, 0)), (94, (.iload_n 2, 95, 2, 0, 0, 0)), (95, (.iadd, 96, 0, 0, 0, 0)), (96, (.iaload, 97, 0, 0, 0, 0)), (97, (.ineg, 98, 0, 0, 0, 0)), (98, (.invokevirtual 53, 101, 93, 0, 595, 0)), (101, (.iinc 2 1, 104, 2, 0, 0, 1)), (104, (.goto (-59), 107, 45, 0, 0, 0)), (107, (.return_, 108, 0, 0, 0, 0))]
def tb_X5_turn : List (Nat × ix_E) := [(0, (.aload_n 0, 1, 0, 0, 0, 0)), (1, (.iload_n 1, 2, 1, 0, 0, 0)), (2, (.invokevirtual 57, 5, 91, 0, 607, 0)), (5, (.ifCond .ne 6, 8, 11, 0, 0, 0)), (8, (.ldc 52, 10, 0, 0, 594, (-2147483648))), (10, (.ireturn, 11, 0, 0, 0, 0)), (11, (.aload_n 0, 12, 0, 0, 0, 0)), (12, (.getfield 42, 15, 1, 5, 534, 0)), (15, (.istore_n 2, 16, 2, 0, 0, 0)), (16, (.iconst 0, 17, 0, 0, 0, 0)), (17, (.istore_n 3, 18, 3, 0, 0, 0)), (18, (.iload_n 3, 19, 3, 0, 0, 0)), (19, (.bipush 64, 21, 0, 0, 0, 64)), (21, (.if_icmp .ge 21, 24, 42, 0, 0, 0)), (24, (.aload_n 0, 25, 0, 0, 0, 0)), (25, (.getfield 32, 28, 13, 5, 546, 0)), (28, (.iload_n 3, 29, 3, 0, 0, 0)), (29, (.aload_n 0, 30, 0, 0, 0, 0)), (30, (.getfield 13, 33, 2, 5, 535, 0)), (33, (.iload_n 3, 34, 3, 0, 0, 0)), (34, (.iaload, 35, 0, 0, 0, 0)), (35, (.iastore, 36, 0, 0, 0, 0)), (36, (.iinc 3 1, 39, 3, 0, 0, 1)), (39, (.goto (-21), 42, 18, 0, 0, 0)), (42, (.iconst 0, 43, 0, 0, 0, 0)), (43, (.istore_n 3, 44, 3, 0, 0, 0)), (44, (.iload_n 3, 45, 3, 0, 0, 0)), (45, (.aload_n 0, 46, 0, 0, 0, 0)), (46, (.getfield 7, 49, 0, 5, 533, 0)), (49, (.if_icmp .ge 23, 52, 72, 0, 0, 0)), (52, (.iload_n 1, 53, 1, 0, 0, 0)), (53, (.iload_n 3, 54, 3, 0, 0, 0)), (54, (.ishr, 55, 0, 0, 0, 0)), (55, (.iconst 1, 56, 0, 0, 0, 1)), (56, (.iand, 57, 0, 0, 0, 0)), (57, (.iconst 1, 58, 0, 0, 0, 1)), (58, (.if_icmp .ne 8, 61, 66, 0, 0, 0)), (61, (.aload_n 0, 62, 0, 0, 0, 0)), (62, (.iload_n 3, 63, 3, 0, 0, 0)), (63, (.invokevirtual 137, 66, 129, 0, 744, 0)), (66, (.iinc 3 1, 69, 3, 0, 0, 1)), (69, (.goto (-25), 72, 44, 0, 0, 0)), (72, (.iconst 0, 73, 0, 0, 0, 0)), (73, (.istore_n 3, 74, 3, 0, 0, 0)), (74, (.iconst 0, 75, 0, 0, 0, 0)), (75, (.istore 4, 77, 4, 0, 0, 0)), (77, (.iload 4, 79, 4, 0, 0, 0)), (79, (.bipush 64, 81, 0, 0, 0, 64)), (81, (.if_icmp .ge 34, 84, 115, 0, 0, 0)), (84, (.iload_n 3, 85, 3, 0, 0, 0)), (85, (.ifCond .ne 18, 88, 103, 0, 0, 0)), (88, (.aload_n 0, 89, 0, 0, 0, 0)), (89, (.getfield 13, 92, 2, 5, 535, 0)), (92, (.iload 4, 94, 4, 0, 0, 0)), (94, (.iaload, 95, 0, 0, 0, 0)), (95, (.invokestatic 141, 98, 88, 0, 748, 0)), (98, (.bipush 60, 100, 0, 0, 0, 60)), (100, (.if_icmp .le 7, 103, 107, 0, 0, 0)), (103, (.iconst 1, 104, 0, 0, 0, 1)), (104, (.goto 4, 107, 108, 0, 0, 0)), (107, (.iconst 0, 108, 0, 0, 0, 0)), (108, (.istore_n 3, 109, 3, 0, 0, 0)), (109, (.iinc 4 1, 112, 4, 0, 0, 1)), (112, (.goto (-35), 115, 77, 0, 0, 0)), (115, (.iload_n 3, 116, 3, 0, 0, 0)), (116, (.ifCond .eq 41, 119, 157, 0, 0, 0)), (119, (.aload_n 0, 120, 0, 0, 0, 0)), (120, (.iload_n 2, 121, 2, 0, 0, 0)), (121, (.putfield 42, 124, 1, 5, 534, 0)), (124, (.iconst 0, 125, 0, 0, 0, 0)), (125, (.istore 4, 127, 4, 0, 0, 0)), (127, (.iload 4, 129, 4, 0, 0, 0)), (129, (.bipush 64, 131, 0, 0, 0, 64)), (131, (.if_icmp .ge 23, 134, 154, 0, 0, 0)), (134, (.aload_n 0, 135, 0, 0, 0, 0)), (135, (.getfield 13, 138, 2, 5, 535, 0)), (138, (.iload 4, 140, 4, 0, 0, 0)), (140, (.aload_n 0, 141, 0, 0, 0, 0)), (141, (.getfield 32, 144, 13, 5, 546, 0)), (144, (.iload 4, 146, 4, 0, 0, 0)), (146, (.iaload, 147, 0, 0, 0, 0)), (147, (.iastore, 148, 0, 0, 0, 0)), (148, (.iinc 4 1, 151, 4, 0, 0, 1)), (151, (.goto (-24), 154, 127, 0, 0, 0)), (154, (.bipush (-3), 156, 0, 0, 0, (-3))), (156, (.ireturn, 157, 0, 0, 0, 0)), (157, (.aload_n 0, 158, 0, 0, 0, 0)), (158, (.getfield 42, 161, 1, 5, 534, 0)), (161, (.ireturn, 162, 0, 0, 0, 0))]
def tb_X5_cutOf : List (Nat × ix_E) := [(0, (.iload_n 0, 1, 0, 0, 0, 0)), (1, (.invokestatic 141, 4, 88, 0, 748, 0)), (4, (.iload_n 1, 5, 1, 0, 0, 0)), (5, (.idiv, 6, 0, 0, 0, 0)), (6, (.istore_n 2, 7, 2, 0, 0, 0)), (7, (.iload_n 2, 8, 2, 0, 0, 0)), (8, (.iconst 2, 9, 0, 0, 0, 2)), (9, (.iload_n 0, 10, 0, 0, 0, 0)), (10, (.invokestatic 141, 13, 88, 0, 748, 0)), (13, (.iload_n 1, 14, 1, 0, 0, 0)), (14, (.irem, 15, 0, 0, 0, 0)), (15, (.imul, 16, 0, 0, 0, 0)), (16, (.iload_n 1, 17, 1, 0, 0, 0)), (17, (.if_icmp .le 7, 20, 24, 0, 0, 0)), (20, (.iconst 1, 21, 0, 0, 0, 1)), (21, (.goto 4, 24, 25, 0, 0, 0)), (24, (.iconst 0, 25, 0, 0, 0, 0)), (25, (.iadd, 26, 0, 0, 0, 0)), (26, (.istore_n 2, 27, 2, 0, 0, 0)), (27, (.iload_n 0, 28, 0, 0, 0, 0)), (28, (.ifCond .ge 10, 31, 38, 0, 0, 0)), (31, (.iload_n 2, 32, 2, 0, 0, 0)), (32, (.ineg, 33, 0, 0, 0, 0)), (33, (.iload_n 1, 34, 1, 0, 0, 0)), (34, (.imul, 35, 0, 0, 0, 0)), (35, (.goto 6, 38, 41, 0, 0, 0)), (38, (.iload_n 2, 39, 2, 0, 0, 0)), (39, (.iload_n 1, 40, 1, 0, 0, 0)), (40, (.imul, 41, 0, 0, 0, 0)), (41, (.ireturn, 42, 0, 0, 0, 0))]
def tb_X5_cut : List (Nat × ix_E) := [(0, (.iload_n 1, 1, 1, 0, 0, 0)), (1, (.iconst 1, 2, 0, 0, 0, 1)), (2, (.bipush 20, 4, 0, 0, 0, 20)), (4, (.invokestatic 38, 7, 87, 0, 583, 0)), (7, (.ifCond .ne 6, 10, 13, 0, 0, 0)), (10, (.bipush (-2), 12, 0, 0, 0, (-2))), (12, (.ireturn, 13, 0, 0, 0, 0)), (13, (.iconst 0, 14, 0, 0, 0, 0)), (14, (.istore_n 2, 15, 2, 0, 0, 0)), (15, (.iload_n 2, 16, 2, 0, 0, 0)), (16, (.iconst 1, 17, 0, 0, 0, 1)), (17, (.aload_n 0, 18, 0, 0, 0, 0)), (18, (.getfield 7, 21, 0, 5, 533, 0)), (21, (.ishl, 22, 0, 0, 0, 0)), (22, (.if_icmp .ge 20, 25, 42, 0, 0, 0)), (25, (.aload_n 0, 26, 0, 0, 0, 0)), (26, (.getfield 35, 29, 14, 5, 547, 0)), (29, (.iload_n 2, 30, 2, 0, 0, 0)), (30, (.aload_n 0, 31, 0, 0, 0, 0)), (31, (.iload_n 2, 32, 2, 0, 0, 0)), (32, (.invokevirtual 60, 35, 96, 0, 611, 0)), (35, (.iastore, 36, 0, 0, 0, 0)), (36, (.iinc 2 1, 39, 2, 0, 0, 1)), (39, (.goto (-24), 42, 15, 0, 0, 0)), (42, (.iconst 0, 43, 0, 0, 0, 0)), (43, (.istore_n 2, 44, 2, 0, 0, 0)), (44, (.iload_n 2, 45, 2, 0, 0, 0)), (45, (.bipush 64, 47, 0, 0, 0, 64)), (47, (.if_icmp .ge 25, 50, 72, 0, 0, 0)), (50, (.aload_n 0, 51, 0, 0, 0, 0)), (51, (.getfield 13, 54, 2, 5, 535, 0)), (54, (.iload_n 2, 55, 2, 0, 0, 0)), (55, (.aload_n 0, 56, 0, 0, 0, 0)), (56, (.getfield 13, 59, 2, 5, 535, 0)), (59, (.iload_n 2, 60, 2, 0, 0, 0)), (60, (.iaload, 61, 0, 0, 0, 0)), (61, (.iload_n 1, 62, 1, 0, 0, 0)), (62, (.invokestatic 144, 65, 131, 0, 755, 0)), (65, (.iastore, 66, 0, 0, 0, 0)), (66, (.iinc 2 1, 69, 2, 0, 0, 1)), (69, (.goto (-25), 72, 44, 0, 0, 0)), (72, (.iconst 0, 73, 0, 0, 0, 0)), (73, (.istore_n 2, 74, 2, 0, 0, 0)), (74, (.iconst 0, 75, 0, 0, 0, 0)), (75, (.istore_n 3, 76, 3, 0, 0, 0)), (76, (.iload_n 3, 77, 3, 0, 0, 0)), (77, (.iconst 1, 78, 0, 0, 0, 1)), (78, (.aload_n 0, 79, 0, 0, 0, 0)), (79, (.getfield 7, 82, 0, 5, 533, 0)), (82, (.ishl, 83, 0, 0, 0, 0)), (83, (.if_icmp .ge 39, 86, 122, 0, 0, 0)), (86, (.aload_n 0, 87, 0, 0, 0, 0)), (87, (.iload_n 3, 88, 3, 0, 0, 0)), (88, (.invokevirtual 60, 91, 96, 0, 611, 0)), (91, (.aload_n 0, 92, 0, 0, 0, 0)), (92, (.getfield 35, 95, 14, 5, 547, 0)), (95, (.iload_n 3, 96, 3, 0, 0, 0)), (96, (.iaload, 97, 0, 0, 0, 0)), (97, (.isub, 98, 0, 0, 0, 0)), (98, (.invokestatic 141, 101, 88, 0, 748, 0)), (101, (.istore 4, 103, 4, 0, 0, 0)), (103, (.iload 4, 105, 4, 0, 0, 0)), (105, (.iload_n 2, 106, 2, 0, 0, 0)), (106, (.if_icmp .le 8, 109, 114, 0, 0, 0)), (109, (.iload 4, 111, 4, 0, 0, 0)), (111, (.goto 4, 114, 115, 0, 0, 0)), (114, (.iload_n 2, 115, 2, 0, 0, 0)), (115, (.istore_n 2, 116, 2, 0, 0, 0)), (116, (.iinc 3 1, 119, 3, 0, 0, 1)), (119, (.goto (-43), 122, 76, 0, 0, 0)), (122, (.iload_n 2, 123, 2, 0, 0, 0)), (123, (.ireturn, 124, 0, 0, 0, 0))]
def tb_X5_walk : List (Nat × ix_E) := [(0, (.aload_n 0, 1, 0, 0, 0, 0)), (1, (.iload_n 1, 2, 1, 0, 0, 0)), (2, (.invokevirtual 57, 5, 91, 0, 607, 0)), (5, (.ifCond .eq 35, 8, 40, 0, 0, 0)), (8, (.iload_n 3, 9, 3, 0, 0, 0)), (9, (.iconst 0, 10, 0, 0, 0, 0)), (10, (.bipush 100, 12, 0, 0, 0, 100)), (12, (.invokestatic 38, 15, 87, 0, 583, 0)), (15, (.ifCond .eq 25, 18, 40, 0, 0, 0)), (18, (.iload 4, 20, 4, 0, 0, 0)), (20, (.iconst 1, 21, 0, 0, 0, 1)), (21, (.sipush 200, 24, 0, 0, 0, 200)), (24, (.invokestatic 38, 27, 87, 0, 583, 0)), (27, (.ifCond .eq 13, 30, 40, 0, 0, 0)), (30, (.iload 5, 32, 5, 0, 0, 0)), (32, (.iconst 0, 33, 0, 0, 0, 0)), (33, (.iconst 1, 34, 0, 0, 0, 1)), (34, (.invokestatic 38, 37, 87, 0, 583, 0)), (37, (.ifCond .ne 6, 40, 43, 0, 0, 0)), (40, (.ldc 52, 42, 0, 0, 594, (-2147483648))), (42, (.ireturn, 43, 0, 0, 0, 0)), (43, (.iload_n 2, 44, 2, 0, 0, 0)), (44, (.istore 6, 46, 6, 0, 0, 0)), (46, (.iload_n 3, 47, 3, 0, 0, 0)), (47, (.istore 7, 49, 7, 0, 0, 0)), (49, (.iload_n 1, 50, 1, 0, 0, 0)), (50, (.istore 8, 52, 8, 0, 0, 0)), (52, (.aload_n 0, 53, 0, 0, 0, 0)), (53, (.iload 8, 55, 8, 0, 0, 0)), (55, (.invokevirtual 60, 58, 96, 0, 611, 0)), (58, (.istore 9, 60, 9, 0, 0, 0)), (60, (.iload 9, 62, 9, 0, 0, 0)), (62, (.istore 10, 64, 10, 0, 0, 0)), (64, (.iconst 1, 65, 0, 0, 0, 1)), (65, (.istore 11, 67, 11, 0, 0, 0)), (67, (.iload 11, 69, 11, 0, 0, 0)), (69, (.iload 4, 71, 4, 0, 0, 0)), (71, (.if_icmp .gt 114, 74, 185, 0, 0, 0)), (74, (.iload 6, 76, 6, 0, 0, 0)), (76, (.ldc 147, 78, 0, 0, 762, 1103515245)), (78, (.imul, 79, 0, 0, 0, 0)), (79, (.sipush 12345, 82, 0, 0, 0, 12345)), (82, (.iadd, 83, 0, 0, 0, 0)), (83, (.ldc 148, 85, 0, 0, 763, 2147483647)), (85, (.iand, 86, 0, 0, 0, 0)), (86, (.istore 6, 88, 6, 0, 0, 0)), (88, (.iload 8, 90, 8, 0, 0, 0)), (90, (.iconst 1, 91, 0, 0, 0, 1)), (91, (.iload 6, 93, 6, 0, 0, 0)), (93, (.ldc 149, 95, 0, 0, 764, 65536)), (95, (.idiv, 96, 0, 0, 0, 0)), (96, (.aload_n 0, 97, 0, 0, 0, 0)), (97, (.getfield 7, 100, 0, 5, 533, 0)), (100, (.irem, 101, 0, 0, 0, 0)), (101, (.ishl, 102, 0, 0, 0, 0)), (102, (.ixor, 103, 0, 0, 0, 0)), (103, (.istore 12, 105, 12, 0, 0, 0)), (105, (.aload_n 0, 106, 0, 0, 0, 0)), (106, (.iload 12, 108, 12, 0, 0, 0)), (108, (.invokevirtual 60, 111, 96, 0, 611, 0)), (111, (.istore 13, 113, 13, 0, 0, 0)), (113, (.iload 13, 115, 13, 0, 0, 0)), (115, (.iload 9, 117, 9, 0, 0, 0)), (117, (.isub, 118, 0, 0, 0, 0)), (118, (.iload 6, 120, 6, 0, 0, 0)), (120, (.sipush 256, 123, 0, 0, 0, 256)), (123, (.idiv, 124, 0, 0, 0, 0)), (124, (.iload 7, 126, 7, 0, 0, 0)), (126, (.iconst 1, 127, 0, 0, 0, 1)), (127, (.iadd, 128, 0, 0, 0, 0)), (128, (.irem, 129, 0, 0, 0, 0)), (129, (.if_icmp .gt 11, 132, 140, 0, 0, 0)), (132, (.iload 12, 134, 12, 0, 0, 0)), (134, (.istore 8, 136, 8, 0, 0, 0)), (136, (.iload 13, 138, 13, 0, 0, 0)), (138, (.istore 9, 140, 9, 0, 0, 0)), (140, (.iload 9, 142, 9, 0, 0, 0)), (142, (.iload 10, 144, 10, 0, 0, 0)), (144, (.if_icmp .ge 8, 147, 152, 0, 0, 0)), (147, (.iload 9, 149, 9, 0, 0, 0)), (149, (.goto 5, 152, 154, 0, 0, 0)), (152, (.iload 10, 154, 10, 0, 0, 0)), (154, (.istore 10, 156, 10, 0, 0, 0)), (156, (.iload 11, 158, 11, 0, 0, 0)), (158, (.bipush 10, 160, 0, 0, 0, 10)), (160, (.irem, 161, 0, 0, 0, 0)), (161, (.ifCond .ne 14, 164, 175, 0, 0, 0)), (164, (.iload 7, 166, 7, 0, 0, 0)), (166, (.bipush 9, 168, 0, 0, 0, 9)), (168, (.imul, 169, 0, 0, 0, 0)), (169, (.bipush 10, 171, 0, 0, 0, 10)), (171, (.idiv, 172, 0, 0, 0, 0)), (172, (.goto 5, 175, 177, 0, 0, 0)), (175, (.iload 7, 177, 7, 0, 0, 0)), (177, (.istore 7, 179, 7, 0, 0, 0)), (179, (.iinc 11 1, 182, 11, 0, 0, 1)), (182, (.goto (-115), 185, 67, 0, 0, 0)), (185, (.iload 5, 187, 5, 0, 0, 0)), (187, (.ifCond .ne 8, 190, 195, 0, 0, 0)), (190, (.iload 8, 192, 8, 0, 0, 0)), (192, (.goto 5, 195, 197, 0, 0, 0)), (195, (.iload 10, 197, 10, 0, 0, 0)), (197, (.ireturn, 198, 0, 0, 0, 0))]
def tb_X5_count : List (Nat × ix_E) := [(0, (.iconst 0, 1, 0, 0, 0, 0)), (1, (.istore_n 2, 2, 2, 0, 0, 0)), (2, (.iload_n 1, 3, 1, 0, 0, 0)), (3, (.tableswitch 121 0 5 #[37, 42, 98, 103, 111, 116], 40, 0, 37, 0, 0)), (40, (.aload_n 0, 41, 0, 0, 0, 0)), (41, (.getfield 7, 44, 0, 5, 533, 0)), (44, (.ireturn, 45, 0, 0, 0, 0)), (45, (.iconst 0, 46, 0, 0, 0, 0)), (46, (.istore_n 3, 47, 3, 0, 0, 0)), (47, (.iload_n 3, 48, 3, 0, 0, 0)), (48, (.aload_n 0, 49, 0, 0, 0, 0)), (49, (.getfield 7, 52, 0, 5, 533, 0)), (52, (.if_icmp .ge 47, 55, 99, 0, 0, 0)), (55, (.iconst 0, 56, 0, 0, 0, 0)), (56, (.istore 4, 58, 4, 0, 0, 0)), (58, (.iload 4, 60, 4, 0, 0, 0)), (60, (.iload_n 3, 61, 3, 0, 0, 0)), (61, (.if_icmp .ge 32, 64, 93, 0, 0, 0)), (64, (.iload_n 2, 65, 2, 0, 0, 0)), (65, (.aload_n 0, 66, 0, 0, 0, 0)), (66, (.getfield 13, 69, 2, 5, 535, 0)), (69, (.bipush 8, 71, 0, 0, 0, 8)), (71, (.iload_n 3, 72, 3, 0, 0, 0)), (72, (.imul, 73, 0, 0, 0, 0)), (73, (.iload 4, 75, 4, 0, 0, 0)), (75, (.iadd, 76, 0, 0, 0, 0)), (76, (.iaload, 77, 0, 0, 0, 0)), (77, (.ifCond .eq 7, 80, 84, 0, 0, 0)), (80, (.iconst 1, 81, 0, 0, 0, 1)), (81, (.goto 4, 84, 85, 0, 0, 0)), (84, (.iconst 0, 85, 0, 0, 0, 0)), (85, (.iadd, 86, 0, 0, 0, 0)), (86, (.istore_n 2, 87, 2, 0, 0, 0)), (87, (.iinc 4 1, 90, 4, 0, 0, 1)), (90, (.goto (-32), 93, 58, 0, 0, 0)), (93, (.iinc 3 1, 96, 3, 0, 0, 1)), (96, (.goto (-49), 99, 47, 0, 0, 0)), (99, (.iload_n 2, 100, 2, 0, 0, 0)), (100, (.ireturn, 101, 0, 0, 0, 0)), (101, (.aload_n 0, 102, 0, 0, 0, 0)), (102, (.getfield 45, 105, 3, 5, 536, 0)), (105, (.ireturn, 106, 0, 0, 0, 0)), (106, (.aload_n 0, 107, 0, 0, 0, 0)), (107, (.getfield 92, 110, 6, 5, 539, 0)), (110, (.invokestatic 64, 113, 89, 0, 619, 0)), (113, (.ireturn, 114, 0, 0, 0, 0)), (114, (.aload_n 0, 115, 0, 0, 0, 0)), (115, (.invokevirtual 112, 118, 118, 0, 703, 0)), (118, (.ireturn, 119, 0, 0, 0, 0)), (119, (.aload_n 0, 120, 0, 0, 0, 0)), (120, (.getfield 42, 123, 1, 5, 534, 0)), (123, (.ireturn, 124, 0, 0, 0, 0)), (124, (.ldc 52, 126, 0, 0, 594, (-2147483648))), (126, (.ireturn, 127, 0, 0, 0, 0))]
def ix_tbs0 : List (List (Nat × ix_E)) := [tb_X0_clear, tb_X3_constant, tb_X1_boundToRight, tb_X1_boundToBelow, tb_X1_cellsOfChains, tb_X4_isIn, tb_X0_listCells, tb_X3_size, tb_J6_numberOfTrailingZeros_0f7a4, tb_X1_leastCellOf, tb_X3_place, tb_X3_between, tb_X4_isWithin, tb_X0_addOwn, tb_X1_neighboursOf, tb_X1_linkFrom]
def ix_tbs1 : List (List (Nat × ix_E)) := [tb_X1_linkTo, tb_J9_min_7cf53, tb_J9_max_7cf53, tb_X0_addLink, tb_X0_layOut, tb_X0_gainOf, tb_J6_bitCount_0f7a4, tb_X0_unlikeNeighbours, tb_X0_leastHold, tb_X1_isDead, tb_X1_setDead, tb_X1_deadCells, tb_X1_setChain, tb_X1_forgetChains, tb_X1_chainLengths, tb_X1_isAnyEmpty]
def ix_tbs2 : List (List (Nat × ix_E)) := [tb_J6_lowestOneBit_0f7a4, tb_X1_hangsTogether, tb_X1_isAnyTorn, tb_X1_isAnyPairApart, tb_X1_firstFailing, tb_X1_mostOf, tb_X2_size, tb_X2_add, tb_X2_dropLast, tb_X2_forgetAll, tb_X2_missedBy, tb_X3_startAnew, tb_X3_states, tb_X3_setBetween, tb_X3_weightedPairs, tb_X3_gainOf]
def ix_tbs3 : List (List (Nat × ix_E)) := [tb_X3_energyOf, tb_X3_fillEnergies, tb_X3_changeBy, tb_X3_valueToFix, tb_X3_lowerBound, tb_X3_turnedBetween, tb_X3_turnBy, tb_J9_abs_0f7a4, tb_X3_nearestMultiple, tb_X3_cutTo, tb_X4_letters, tb_X4_isLetter, tb_X4_weigh, tb_X4_weight, tb_X4_isSetOfLetters, tb_X4_energy]
def ix_tbs4 : List (List (Nat × ix_E)) := [tb_X4_law, tb_X4_unlaw, tb_X4_isPull, tb_X4_fillWeighed, tb_X4_leastOfRow, tb_X4_best, tb_X4_listBest, tb_X4_many, tb_X4_bestAt, tb_X4_bestKeeper, tb_X4_pull, tb_X4_fixed, tb_X4_floor, tb_X4_kill, tb_X4_chain, tb_X4_stands]
def ix_tbs5 : List (List (Nat × ix_E)) := [tb_X4_link, tb_X4_strong, tb_X4_readBack, tb_X4_turn, tb_X4_cut, tb_X4_walk, tb_X4_count, tb_X5_in, tb_X5_size, tb_X5_ones, tb_X5_isLetter, tb_X5_isState, tb_X5_letters, tb_X5_putWeight, tb_X5_weigh, tb_X5_weight]
def ix_tbs6 : List (List (Nat × ix_E)) := [tb_X5_energyOf, tb_X5_energy, tb_X5_law, tb_X5_unlaw, tb_X5_missed, tb_X5_weighed, tb_X5_leastBy, tb_X5_isPull, tb_X5_best, tb_X5_many, tb_X5_bestAt, tb_X5_pull, tb_X5_mayBe, tb_X5_fixAll, tb_X5_fixed, tb_X5_floor]
def ix_tbs7 : List (List (Nat × ix_E)) := [tb_X5_kill, tb_X5_chain, tb_X5_beside, tb_X5_firstOf, tb_X5_hangs, tb_X5_all, tb_X5_together, tb_X5_fails, tb_X5_stands, tb_X5_linkOf, tb_X5_link, tb_X5_spread, tb_X5_layGrid, tb_X5_energyOn, tb_X5_unlike, tb_X5_strong]
def ix_tbs8 : List (List (Nat × ix_E)) := [tb_X5_readBack, tb_X5_turnOne, tb_X5_turn, tb_X5_cutOf, tb_X5_cut, tb_X5_walk, tb_X5_count]
def ix_tbs : List (List (List (Nat × ix_E))) := [ix_tbs0, ix_tbs1, ix_tbs2, ix_tbs3, ix_tbs4, ix_tbs5, ix_tbs6, ix_tbs7, ix_tbs8]
def ix_tb (k : Nat) : List (Nat × ix_E) := (ix_tbs.getD (k / 16) []).getD (k % 16) []
/-- maxLocals, frames, locals' words, how many arguments, class number of the receiver, 0 void 1 int 2 boolean -/
def ix_mts0 : List (Nat × Nat × Nat × Nat × Nat × Nat) := [(2, 0, 0, 1, 0, 0), (1, 0, 0, 1, 3, 1), (3, 0, 0, 1, 1, 1), (3, 0, 0, 1, 1, 1), (3, 0, 0, 1, 1, 1), (2, 0, 0, 2, 99, 2), (3, 1, 21, 2, 0, 0), (1, 0, 0, 1, 3, 1), (2, 0, 0, 1, 99, 1), (2, 1, 21, 2, 1, 1), (2, 0, 0, 2, 99, 1), (3, 1, 21, 3, 3, 1), (3, 0, 0, 3, 99, 2), (3, 1, 22, 3, 0, 0), (5, 0, 0, 1, 99, 1), (3, 1, 24, 3, 1, 1)]
def ix_mts1 : List (Nat × Nat × Nat × Nat × Nat × Nat) := [(3, 1, 24, 3, 1, 1), (2, 0, 0, 2, 99, 1), (2, 0, 0, 2, 99, 1), (5, 1, 22, 4, 0, 0), (6, 2, 46, 3, 0, 0), (4, 1, 21, 3, 0, 1), (1, 0, 0, 1, 99, 1), (4, 1, 20, 2, 0, 1), (9, 2, 44, 2, 0, 1), (2, 1, 21, 2, 1, 2), (3, 0, 0, 3, 1, 0), (1, 1, 20, 1, 1, 1), (3, 0, 0, 3, 1, 0), (2, 0, 0, 1, 1, 0), (3, 1, 20, 1, 1, 1), (3, 0, 0, 2, 1, 2)]
def ix_mts2 : List (Nat × Nat × Nat × Nat × Nat × Nat) := [(1, 0, 0, 1, 99, 1), (3, 1, 24, 1, 99, 2), (3, 2, 46, 2, 1, 2), (4, 2, 43, 2, 1, 2), (2, 3, 68, 2, 1, 1), (5, 2, 42, 3, 1, 1), (1, 0, 0, 1, 2, 1), (3, 0, 0, 3, 2, 1), (1, 0, 0, 1, 2, 1), (1, 0, 0, 1, 2, 0), (5, 1, 20, 2, 2, 1), (3, 0, 0, 2, 3, 0), (1, 0, 0, 1, 3, 1), (4, 1, 21, 4, 3, 0), (4, 2, 43, 1, 3, 1), (5, 2, 43, 3, 3, 1)]
def ix_mts3 : List (Nat × Nat × Nat × Nat × Nat × Nat) := [(4, 3, 67, 2, 3, 1), (4, 3, 67, 2, 3, 0), (4, 3, 67, 3, 3, 1), (8, 3, 67, 4, 3, 1), (4, 2, 43, 1, 3, 1), (5, 3, 67, 4, 3, 1), (5, 4, 91, 2, 3, 2), (1, 0, 0, 1, 99, 1), (5, 1, 20, 2, 99, 1), (3, 2, 44, 2, 3, 0), (2, 1, 22, 2, 4, 1), (2, 1, 22, 2, 4, 2), (5, 2, 44, 4, 4, 1), (3, 2, 43, 3, 4, 1), (2, 1, 22, 2, 4, 2), (2, 4, 90, 2, 4, 1)]
def ix_mts4 : List (Nat × Nat × Nat × Nat × Nat × Nat) := [(3, 2, 43, 3, 4, 1), (1, 1, 20, 1, 4, 1), (1, 1, 22, 1, 99, 2), (3, 4, 90, 2, 4, 0), (3, 1, 21, 1, 4, 1), (2, 5, 112, 2, 4, 1), (5, 5, 112, 2, 4, 1), (2, 6, 136, 2, 4, 1), (4, 6, 136, 3, 4, 1), (3, 2, 44, 1, 4, 1), (5, 4, 90, 1, 4, 1), (8, 4, 94, 2, 4, 1), (1, 3, 66, 1, 4, 1), (4, 2, 42, 3, 4, 1), (3, 2, 43, 3, 4, 1), (1, 4, 89, 1, 4, 1)]
def ix_mts5 : List (Nat × Nat × Nat × Nat × Nat × Nat) := [(7, 4, 89, 4, 4, 1), (1, 4, 90, 1, 4, 1), (4, 4, 89, 2, 4, 1), (2, 5, 115, 2, 4, 1), (4, 4, 90, 2, 4, 1), (14, 4, 90, 6, 4, 1), (2, 3, 66, 2, 4, 1), (3, 0, 0, 3, 99, 2), (1, 0, 0, 1, 99, 1), (3, 0, 0, 1, 99, 1), (2, 1, 22, 2, 5, 2), (2, 1, 22, 2, 5, 2), (3, 1, 22, 2, 5, 1), (4, 0, 0, 4, 5, 0), (5, 2, 43, 4, 5, 1), (3, 2, 43, 3, 5, 1)]
def ix_mts6 : List (Nat × Nat × Nat × Nat × Nat × Nat) := [(5, 0, 0, 2, 5, 1), (2, 2, 43, 2, 5, 1), (3, 1, 22, 3, 5, 1), (1, 0, 0, 1, 5, 1), (5, 1, 22, 2, 5, 1), (3, 2, 46, 3, 5, 1), (5, 3, 68, 2, 5, 1), (1, 1, 22, 1, 99, 2), (2, 4, 92, 2, 5, 1), (5, 4, 92, 2, 5, 1), (6, 4, 92, 3, 5, 1), (7, 2, 46, 1, 5, 1), (7, 0, 0, 2, 5, 1), (4, 1, 26, 1, 5, 0), (2, 2, 49, 2, 5, 1), (4, 0, 0, 1, 5, 1)]
def ix_mts7 : List (Nat × Nat × Nat × Nat × Nat × Nat) := [(4, 1, 22, 3, 5, 1), (3, 2, 43, 3, 5, 1), (3, 0, 0, 1, 99, 1), (2, 0, 0, 1, 99, 1), (3, 1, 22, 1, 99, 2), (3, 0, 0, 1, 5, 1), (3, 1, 22, 1, 5, 1), (5, 2, 44, 2, 5, 2), (1, 3, 68, 1, 5, 1), (5, 1, 22, 4, 5, 1), (4, 4, 88, 4, 5, 1), (4, 0, 0, 2, 5, 1), (5, 2, 46, 1, 5, 0), (6, 0, 0, 2, 5, 1), (7, 1, 22, 2, 5, 1), (7, 4, 88, 1, 5, 1)]
def ix_mts8 : List (Nat × Nat × Nat × Nat × Nat × Nat) := [(7, 4, 88, 2, 5, 1), (3, 1, 23, 2, 5, 0), (5, 2, 45, 2, 5, 1), (3, 1, 20, 2, 99, 1), (5, 2, 42, 2, 5, 1), (14, 2, 43, 6, 5, 1), (5, 2, 44, 2, 5, 1)]
def ix_mts : List (List (Nat × Nat × Nat × Nat × Nat × Nat)) := [ix_mts0, ix_mts1, ix_mts2, ix_mts3, ix_mts4, ix_mts5, ix_mts6, ix_mts7, ix_mts8]
def ix_mt (k : Nat) : Nat × Nat × Nat × Nat × Nat × Nat := (ix_mts.getD (k / 16) []).getD (k % 16) (0, 0, 0, 0, 98, 0)
def ix_mds0 : List (MethodName × ByteArray × Option FieldType × Nat × Nat × Nat × Nat) := [(yX0_clear, cX0_clear, none, 407, 40, 406, 10), (yX3_constant, cX3_constant, (some .int), 411, 37, 409, 410), (yX1_boundToRight, cX1_boundToRight, (some .int), 415, 39, 413, 414), (yX1_boundToBelow, cX1_boundToBelow, (some .int), 419, 39, 417, 418), (yX1_cellsOfChains, cX1_cellsOfChains, (some .int), 355, 39, 353, 354), (yX4_isIn, cX4_isIn, (some .boolean), 216, 36, 215, 0), (yX0_listCells, cX0_listCells, none, 424, 40, 423, 11), (yX3_size, cX3_size, (some .int), 181, 37, 179, 180), (yJ6_numberOfTrailingZeros_0f7a4, cJ6_numberOfTrailingZeros_0f7a4, (some .int), 262, 42, 261, 0), (yX1_leastCellOf, cX1_leastCellOf, (some .int), 430, 39, 428, 429), (yX3_place, cX3_place, (some .int), 189, 37, 188, 0), (yX3_between, cX3_between, (some .int), 186, 37, 184, 185), (yX4_isWithin, cX4_isWithin, (some .boolean), 157, 36, 156, 0), (yX0_addOwn, cX0_addOwn, none, 435, 40, 434, 12), (yX1_neighboursOf, cX1_neighboursOf, (some .int), 373, 39, 372, 0), (yX1_linkFrom, cX1_linkFrom, (some .int), 390, 39, 388, 389)]
def ix_mds1 : List (MethodName × ByteArray × Option FieldType × Nat × Nat × Nat × Nat) := [(yX1_linkTo, cX1_linkTo, (some .int), 395, 39, 393, 394), (yJ9_min_7cf53, cJ9_min_7cf53, (some .int), 275, 43, 274, 0), (yJ9_max_7cf53, cJ9_max_7cf53, (some .int), 308, 43, 307, 0), (yX0_addLink, cX0_addLink, none, 442, 40, 441, 13), (yX0_layOut, cX0_layOut, none, 403, 40, 401, 402), (yX0_gainOf, cX0_gainOf, (some .int), 453, 40, 452, 14), (yJ6_bitCount_0f7a4, cJ6_bitCount_0f7a4, (some .int), 228, 42, 227, 0), (yX0_unlikeNeighbours, cX0_unlikeNeighbours, (some .int), 457, 40, 456, 15), (yX0_leastHold, cX0_leastHold, (some .int), 448, 40, 446, 447), (yX1_isDead, cX1_isDead, (some .boolean), 324, 39, 322, 323), (yX1_setDead, cX1_setDead, none, 329, 39, 327, 328), (yX1_deadCells, cX1_deadCells, (some .int), 525, 39, 523, 524), (yX1_setChain, cX1_setChain, none, 338, 39, 336, 337), (yX1_forgetChains, cX1_forgetChains, none, 169, 39, 167, 168), (yX1_chainLengths, cX1_chainLengths, (some .int), 359, 39, 357, 358), (yX1_isAnyEmpty, cX1_isAnyEmpty, (some .boolean), 351, 39, 350, 7)]
def ix_mds2 : List (MethodName × ByteArray × Option FieldType × Nat × Nat × Nat × Nat) := [(yJ6_lowestOneBit_0f7a4, cJ6_lowestOneBit_0f7a4, (some .int), 370, 42, 369, 0), (yX1_hangsTogether, cX1_hangsTogether, (some .boolean), 367, 39, 366, 0), (yX1_isAnyTorn, cX1_isAnyTorn, (some .boolean), 364, 39, 363, 8), (yX1_isAnyPairApart, cX1_isAnyPairApart, (some .boolean), 380, 39, 379, 9), (yX1_firstFailing, cX1_firstFailing, (some .int), 346, 39, 344, 345), (yX1_mostOf, cX1_mostOf, (some .int), 467, 39, 465, 466), (yX2_size, cX2_size, (some .int), 521, 38, 519, 520), (yX2_add, cX2_add, (some .int), 235, 38, 233, 234), (yX2_dropLast, cX2_dropLast, (some .int), 243, 38, 241, 242), (yX2_forgetAll, cX2_forgetAll, none, 165, 38, 163, 164), (yX2_missedBy, cX2_missedBy, (some .int), 267, 38, 265, 266), (yX3_startAnew, cX3_startAnew, none, 161, 37, 159, 160), (yX3_states, cX3_states, (some .int), 209, 37, 207, 208), (yX3_setBetween, cX3_setBetween, none, 193, 37, 191, 192), (yX3_weightedPairs, cX3_weightedPairs, (some .int), 517, 37, 515, 516), (yX3_gainOf, cX3_gainOf, (some .int), 220, 37, 219, 2)]
def ix_mds3 : List (MethodName × ByteArray × Option FieldType × Nat × Nat × Nat × Nat) := [(yX3_energyOf, cX3_energyOf, (some .int), 213, 37, 211, 212), (yX3_fillEnergies, cX3_fillEnergies, none, 258, 37, 256, 257), (yX3_changeBy, cX3_changeBy, (some .int), 509, 37, 507, 508), (yX3_valueToFix, cX3_valueToFix, (some .int), 304, 37, 302, 303), (yX3_lowerBound, cX3_lowerBound, (some .int), 316, 37, 314, 315), (yX3_turnedBetween, cX3_turnedBetween, (some .int), 480, 37, 479, 16), (yX3_turnBy, cX3_turnBy, (some .boolean), 476, 37, 474, 475), (yJ9_abs_0f7a4, cJ9_abs_0f7a4, (some .int), 497, 43, 496, 0), (yX3_nearestMultiple, cX3_nearestMultiple, (some .int), 494, 37, 493, 0), (yX3_cutTo, cX3_cutTo, none, 491, 37, 489, 490), (yX4_letters, cX4_letters, (some .int), 154, 36, 152, 153), (yX4_isLetter, cX4_isLetter, (some .boolean), 177, 36, 176, 0), (yX4_weigh, cX4_weigh, (some .int), 173, 36, 171, 172), (yX4_weight, cX4_weight, (some .int), 197, 36, 195, 196), (yX4_isSetOfLetters, cX4_isSetOfLetters, (some .boolean), 205, 36, 204, 1), (yX4_energy, cX4_energy, (some .int), 201, 36, 199, 200)]
def ix_mds4 : List (MethodName × ByteArray × Option FieldType × Nat × Nat × Nat × Nat) := [(yX4_law, cX4_law, (some .int), 225, 36, 223, 224), (yX4_unlaw, cX4_unlaw, (some .int), 239, 36, 237, 238), (yX4_isPull, cX4_isPull, (some .boolean), 250, 36, 249, 0), (yX4_fillWeighed, cX4_fillWeighed, none, 254, 36, 253, 3), (yX4_leastOfRow, cX4_leastOfRow, (some .int), 272, 36, 271, 4), (yX4_best, cX4_best, (some .int), 247, 36, 245, 246), (yX4_listBest, cX4_listBest, (some .int), 283, 36, 282, 5), (yX4_many, cX4_many, (some .int), 279, 36, 277, 278), (yX4_bestAt, cX4_bestAt, (some .int), 287, 36, 285, 286), (yX4_bestKeeper, cX4_bestKeeper, (some .int), 295, 36, 294, 6), (yX4_pull, cX4_pull, (some .int), 291, 36, 289, 290), (yX4_fixed, cX4_fixed, (some .int), 299, 36, 297, 298), (yX4_floor, cX4_floor, (some .int), 312, 36, 310, 311), (yX4_kill, cX4_kill, (some .int), 320, 36, 318, 319), (yX4_chain, cX4_chain, (some .int), 333, 36, 331, 332), (yX4_stands, cX4_stands, (some .int), 342, 36, 340, 341)]
def ix_mds5 : List (MethodName × ByteArray × Option FieldType × Nat × Nat × Nat × Nat) := [(yX4_link, cX4_link, (some .int), 385, 36, 383, 384), (yX4_strong, cX4_strong, (some .int), 399, 36, 397, 398), (yX4_readBack, cX4_readBack, (some .int), 462, 36, 460, 461), (yX4_turn, cX4_turn, (some .int), 472, 36, 470, 471), (yX4_cut, cX4_cut, (some .int), 487, 36, 485, 486), (yX4_walk, cX4_walk, (some .int), 502, 36, 500, 501), (yX4_count, cX4_count, (some .int), 513, 36, 511, 512), (yX5_in, cX5_in, (some .boolean), 585, 41, 584, 0), (yX5_size, cX5_size, (some .int), 750, 41, 749, 0), (yX5_ones, cX5_ones, (some .int), 621, 41, 620, 0), (yX5_isLetter, cX5_isLetter, (some .boolean), 593, 41, 592, 17), (yX5_isState, cX5_isState, (some .boolean), 610, 41, 609, 19), (yX5_letters, cX5_letters, (some .int), 582, 41, 580, 581), (yX5_putWeight, cX5_putWeight, none, 598, 41, 597, 18), (yX5_weigh, cX5_weigh, (some .int), 589, 41, 587, 588), (yX5_weight, cX5_weight, (some .int), 602, 41, 600, 601)]
def ix_mds6 : List (MethodName × ByteArray × Option FieldType × Nat × Nat × Nat × Nat) := [(yX5_energyOf, cX5_energyOf, (some .int), 614, 41, 613, 20), (yX5_energy, cX5_energy, (some .int), 606, 41, 604, 605), (yX5_law, cX5_law, (some .int), 618, 41, 616, 617), (yX5_unlaw, cX5_unlaw, (some .int), 625, 41, 623, 624), (yX5_missed, cX5_missed, (some .int), 644, 41, 643, 23), (yX5_weighed, cX5_weighed, (some .int), 640, 41, 639, 22), (yX5_leastBy, cX5_leastBy, (some .int), 636, 41, 635, 21), (yX5_isPull, cX5_isPull, (some .boolean), 632, 41, 631, 0), (yX5_best, cX5_best, (some .int), 629, 41, 627, 628), (yX5_many, cX5_many, (some .int), 648, 41, 646, 647), (yX5_bestAt, cX5_bestAt, (some .int), 652, 41, 650, 651), (yX5_pull, cX5_pull, (some .int), 656, 41, 654, 655), (yX5_mayBe, cX5_mayBe, (some .int), 668, 41, 667, 25), (yX5_fixAll, cX5_fixAll, none, 664, 41, 663, 24), (yX5_fixed, cX5_fixed, (some .int), 660, 41, 658, 659), (yX5_floor, cX5_floor, (some .int), 672, 41, 670, 671)]
def ix_mds7 : List (MethodName × ByteArray × Option FieldType × Nat × Nat × Nat × Nat) := [(yX5_kill, cX5_kill, (some .int), 676, 41, 674, 675), (yX5_chain, cX5_chain, (some .int), 680, 41, 678, 679), (yX5_beside, cX5_beside, (some .int), 698, 41, 697, 0), (yX5_firstOf, cX5_firstOf, (some .int), 695, 41, 694, 0), (yX5_hangs, cX5_hangs, (some .boolean), 692, 41, 691, 0), (yX5_all, cX5_all, (some .int), 702, 41, 701, 27), (yX5_together, cX5_together, (some .int), 706, 41, 705, 28), (yX5_fails, cX5_fails, (some .boolean), 689, 41, 688, 26), (yX5_stands, cX5_stands, (some .int), 685, 41, 683, 684), (yX5_linkOf, cX5_linkOf, (some .int), 715, 41, 714, 29), (yX5_link, cX5_link, (some .int), 710, 41, 708, 709), (yX5_spread, cX5_spread, (some .int), 727, 41, 726, 31), (yX5_layGrid, cX5_layGrid, none, 723, 41, 722, 30), (yX5_energyOn, cX5_energyOn, (some .int), 731, 41, 730, 32), (yX5_unlike, cX5_unlike, (some .int), 735, 41, 734, 33), (yX5_strong, cX5_strong, (some .int), 719, 41, 717, 718)]
def ix_mds8 : List (MethodName × ByteArray × Option FieldType × Nat × Nat × Nat × Nat) := [(yX5_readBack, cX5_readBack, (some .int), 739, 41, 737, 738), (yX5_turnOne, cX5_turnOne, none, 747, 41, 746, 34), (yX5_turn, cX5_turn, (some .int), 743, 41, 741, 742), (yX5_cutOf, cX5_cutOf, (some .int), 757, 41, 756, 0), (yX5_cut, cX5_cut, (some .int), 754, 41, 752, 753), (yX5_walk, cX5_walk, (some .int), 761, 41, 759, 760), (yX5_count, cX5_count, (some .int), 768, 41, 766, 767)]
def ix_mds : List (List (MethodName × ByteArray × Option FieldType × Nat × Nat × Nat × Nat)) := [ix_mds0, ix_mds1, ix_mds2, ix_mds3, ix_mds4, ix_mds5, ix_mds6, ix_mds7, ix_mds8]
def ix_md (k : Nat) : MethodName × ByteArray × Option FieldType × Nat × Nat × Nat × Nat := (ix_mds.getD (k / 16) []).getD (k % 16) (⟨"", "", ""⟩, ⟨#[]⟩, none, 0, 0, 0, 0)
/-- how many methods -/
abbrev ix_N : Nat := 135
abbrev m_X0_clear : Nat := 0
abbrev m_X3_constant : Nat := 1
abbrev m_X1_boundToRight : Nat := 2
abbrev m_X1_boundToBelow : Nat := 3
abbrev m_X1_cellsOfChains : Nat := 4
abbrev m_X4_isIn : Nat := 5
abbrev m_X0_listCells : Nat := 6
abbrev m_X3_size : Nat := 7
abbrev m_J6_numberOfTrailingZeros_0f7a4 : Nat := 8
abbrev m_X1_leastCellOf : Nat := 9
abbrev m_X3_place : Nat := 10
abbrev m_X3_between : Nat := 11
abbrev m_X4_isWithin : Nat := 12
abbrev m_X0_addOwn : Nat := 13
abbrev m_X1_neighboursOf : Nat := 14
abbrev m_X1_linkFrom : Nat := 15
abbrev m_X1_linkTo : Nat := 16
abbrev m_J9_min_7cf53 : Nat := 17
abbrev m_J9_max_7cf53 : Nat := 18
abbrev m_X0_addLink : Nat := 19
abbrev m_X0_layOut : Nat := 20
abbrev m_X0_gainOf : Nat := 21
abbrev m_J6_bitCount_0f7a4 : Nat := 22
abbrev m_X0_unlikeNeighbours : Nat := 23
abbrev m_X0_leastHold : Nat := 24
abbrev m_X1_isDead : Nat := 25
abbrev m_X1_setDead : Nat := 26
abbrev m_X1_deadCells : Nat := 27
abbrev m_X1_setChain : Nat := 28
abbrev m_X1_forgetChains : Nat := 29
abbrev m_X1_chainLengths : Nat := 30
abbrev m_X1_isAnyEmpty : Nat := 31
abbrev m_J6_lowestOneBit_0f7a4 : Nat := 32
abbrev m_X1_hangsTogether : Nat := 33
abbrev m_X1_isAnyTorn : Nat := 34
abbrev m_X1_isAnyPairApart : Nat := 35
abbrev m_X1_firstFailing : Nat := 36
abbrev m_X1_mostOf : Nat := 37
abbrev m_X2_size : Nat := 38
abbrev m_X2_add : Nat := 39
abbrev m_X2_dropLast : Nat := 40
abbrev m_X2_forgetAll : Nat := 41
abbrev m_X2_missedBy : Nat := 42
abbrev m_X3_startAnew : Nat := 43
abbrev m_X3_states : Nat := 44
abbrev m_X3_setBetween : Nat := 45
abbrev m_X3_weightedPairs : Nat := 46
abbrev m_X3_gainOf : Nat := 47
abbrev m_X3_energyOf : Nat := 48
abbrev m_X3_fillEnergies : Nat := 49
abbrev m_X3_changeBy : Nat := 50
abbrev m_X3_valueToFix : Nat := 51
abbrev m_X3_lowerBound : Nat := 52
abbrev m_X3_turnedBetween : Nat := 53
abbrev m_X3_turnBy : Nat := 54
abbrev m_J9_abs_0f7a4 : Nat := 55
abbrev m_X3_nearestMultiple : Nat := 56
abbrev m_X3_cutTo : Nat := 57
abbrev m_X4_letters : Nat := 58
abbrev m_X4_isLetter : Nat := 59
abbrev m_X4_weigh : Nat := 60
abbrev m_X4_weight : Nat := 61
abbrev m_X4_isSetOfLetters : Nat := 62
abbrev m_X4_energy : Nat := 63
abbrev m_X4_law : Nat := 64
abbrev m_X4_unlaw : Nat := 65
abbrev m_X4_isPull : Nat := 66
abbrev m_X4_fillWeighed : Nat := 67
abbrev m_X4_leastOfRow : Nat := 68
abbrev m_X4_best : Nat := 69
abbrev m_X4_listBest : Nat := 70
abbrev m_X4_many : Nat := 71
abbrev m_X4_bestAt : Nat := 72
abbrev m_X4_bestKeeper : Nat := 73
abbrev m_X4_pull : Nat := 74
abbrev m_X4_fixed : Nat := 75
abbrev m_X4_floor : Nat := 76
abbrev m_X4_kill : Nat := 77
abbrev m_X4_chain : Nat := 78
abbrev m_X4_stands : Nat := 79
abbrev m_X4_link : Nat := 80
abbrev m_X4_strong : Nat := 81
abbrev m_X4_readBack : Nat := 82
abbrev m_X4_turn : Nat := 83
abbrev m_X4_cut : Nat := 84
abbrev m_X4_walk : Nat := 85
abbrev m_X4_count : Nat := 86
abbrev m_X5_in : Nat := 87
abbrev m_X5_size : Nat := 88
abbrev m_X5_ones : Nat := 89
abbrev m_X5_isLetter : Nat := 90
abbrev m_X5_isState : Nat := 91
abbrev m_X5_letters : Nat := 92
abbrev m_X5_putWeight : Nat := 93
abbrev m_X5_weigh : Nat := 94
abbrev m_X5_weight : Nat := 95
abbrev m_X5_energyOf : Nat := 96
abbrev m_X5_energy : Nat := 97
abbrev m_X5_law : Nat := 98
abbrev m_X5_unlaw : Nat := 99
abbrev m_X5_missed : Nat := 100
abbrev m_X5_weighed : Nat := 101
abbrev m_X5_leastBy : Nat := 102
abbrev m_X5_isPull : Nat := 103
abbrev m_X5_best : Nat := 104
abbrev m_X5_many : Nat := 105
abbrev m_X5_bestAt : Nat := 106
abbrev m_X5_pull : Nat := 107
abbrev m_X5_mayBe : Nat := 108
abbrev m_X5_fixAll : Nat := 109
abbrev m_X5_fixed : Nat := 110
abbrev m_X5_floor : Nat := 111
abbrev m_X5_kill : Nat := 112
abbrev m_X5_chain : Nat := 113
abbrev m_X5_beside : Nat := 114
abbrev m_X5_firstOf : Nat := 115
abbrev m_X5_hangs : Nat := 116
abbrev m_X5_all : Nat := 117
abbrev m_X5_together : Nat := 118
abbrev m_X5_fails : Nat := 119
abbrev m_X5_stands : Nat := 120
abbrev m_X5_linkOf : Nat := 121
abbrev m_X5_link : Nat := 122
abbrev m_X5_spread : Nat := 123
abbrev m_X5_layGrid : Nat := 124
abbrev m_X5_energyOn : Nat := 125
abbrev m_X5_unlike : Nat := 126
abbrev m_X5_strong : Nat := 127
abbrev m_X5_readBack : Nat := 128
abbrev m_X5_turnOne : Nat := 129
abbrev m_X5_turn : Nat := 130
abbrev m_X5_cutOf : Nat := 131
abbrev m_X5_cut : Nat := 132
abbrev m_X5_walk : Nat := 133
abbrev m_X5_count : Nat := 134
end
section
/-! A small machine of its own for the methods that make nothing: ints and places, a world as a list of cells. -/
abbrev ix_V : Type := Int32 ⊕ Nat
abbrev ix_C : Type := (Nat × (Nat → Int32)) ⊕ (Nat × List ix_V)
abbrev ix_W : Type := List ix_C
abbrev ix_L : Type := List (Option ix_V)
abbrev ix_S : Type := Nat × ix_L × List ix_V × ix_W
abbrev ix_ml (k : Nat) : Nat := (ix_mt k).1
abbrev ix_rk (k : Nat) : Nat := (ix_mt k).2.1
abbrev ix_lr (k : Nat) : Nat := (ix_mt k).2.2.1
abbrev ix_na (k : Nat) : Nat := (ix_mt k).2.2.2.1
abbrev ix_ci (k : Nat) : Nat := (ix_mt k).2.2.2.2.1
abbrev ix_rt (k : Nat) : Nat := (ix_mt k).2.2.2.2.2
abbrev ix_y (k : Nat) : MethodName := (ix_md k).1
abbrev ix_c (k : Nat) : ByteArray := (ix_md k).2.1
abbrev ix_r (k : Nat) : Option FieldType := (ix_md k).2.2.1
def ix_lk (k pc : Nat) : Option ix_E := (ix_tb k).lookup pc
def ix_push (nx : Nat) (v : Int32) (L : ix_L) (st : List ix_V) (w : ix_W) : Option ix_S := some (nx, L, .inl v :: st, w)
def ix_un (f : Int32 → Int32) (nx : Nat) (L : ix_L) (st : List ix_V) (w : ix_W) : Option ix_S := match st with
  | .inl x :: r => some (nx, L, .inl (f x) :: r, w)
  | _ => none
def ix_bi (f : Int32 → Int32 → Int32) (nx : Nat) (L : ix_L) (st : List ix_V) (w : ix_W) : Option ix_S := match st with
  | .inl y :: .inl x :: r => some (nx, L, .inl (f x y) :: r, w)
  | _ => none
def ix_dv (f : Int32 → Int32 → Int32) (nx : Nat) (L : ix_L) (st : List ix_V) (w : ix_W) : Option ix_S := match st with
  | .inl y :: .inl x :: r => if y = 0 then none else some (nx, L, .inl (f x y) :: r, w)
  | _ => none
def ix_ild (nx a : Nat) (L : ix_L) (st : List ix_V) (w : ix_W) : Option ix_S := match L[a]? with
  | some (some (.inl x)) => some (nx, L, .inl x :: st, w)
  | _ => none
def ix_ald (nx a : Nat) (L : ix_L) (st : List ix_V) (w : ix_W) : Option ix_S := match L[a]? with
  | some (some (.inr x)) => some (nx, L, .inr x :: st, w)
  | _ => none
def ix_ist (nx a : Nat) (L : ix_L) (st : List ix_V) (w : ix_W) : Option ix_S := match st with
  | .inl x :: r => if a < L.length then some (nx, L.set a (some (.inl x)), r, w) else none
  | _ => none
def ix_inc (nx a : Nat) (v : Int32) (L : ix_L) (st : List ix_V) (w : ix_W) : Option ix_S := match L[a]? with
  | some (some (.inl x)) => some (nx, L.set a (some (.inl (x + v))), st, w)
  | _ => none
def ix_t1 (c : Jvm.ClassFile.Cond) (x : Int32) (a nx : Nat) : Nat := match c with
  | .eq => if x = 0 then a else nx
  | .ne => if x = 0 then nx else a
  | .lt => if x < 0 then a else nx
  | .ge => if 0 ≤ x then a else nx
  | .gt => if 0 < x then a else nx
  | .le => if x ≤ 0 then a else nx
def ix_t2 (c : Jvm.ClassFile.Cond) (x y : Int32) (a nx : Nat) : Nat := match c with
  | .eq => if x = y then a else nx
  | .ne => if x = y then nx else a
  | .lt => if x < y then a else nx
  | .ge => if y ≤ x then a else nx
  | .gt => if y < x then a else nx
  | .le => if x ≤ y then a else nx
def ix_br1 (c : Jvm.ClassFile.Cond) (nx a : Nat) (L : ix_L) (st : List ix_V) (w : ix_W) : Option ix_S := match st with
  | .inl x :: r => some (ix_t1 c x a nx, L, r, w)
  | _ => none
def ix_br2 (c : Jvm.ClassFile.Cond) (nx a : Nat) (L : ix_L) (st : List ix_V) (w : ix_W) : Option ix_S := match st with
  | .inl y :: .inl x :: r => some (ix_t2 c x y a nx, L, r, w)
  | _ => none
def ix_get (nx a b : Nat) (L : ix_L) (st : List ix_V) (w : ix_W) : Option ix_S := match st with
  | .inr q :: r => match w[q]? with
    | some (.inr (ci, fs)) => if ci = b then (match fs[a]? with
      | some v => some (nx, L, v :: r, w)
      | none => none) else none
    | _ => none
  | _ => none
def ix_put (nx a b : Nat) (L : ix_L) (st : List ix_V) (w : ix_W) : Option ix_S := match st with
  | .inl x :: .inr q :: r => match w[q]? with
    | some (.inr (ci, fs)) => if ci = b ∧ a < fs.length then some (nx, L, r, w.set q (.inr (ci, fs.set a (.inl x)))) else none
    | _ => none
  | _ => none
def ix_iald (nx : Nat) (L : ix_L) (st : List ix_V) (w : ix_W) : Option ix_S := match st with
  | .inl i :: .inr q :: r => match w[q]? with
    | some (.inl (n, f)) => if i < 0 ∨ n ≤ i.toNatClampNeg then none else some (nx, L, .inl (f i.toNatClampNeg) :: r, w)
    | _ => none
  | _ => none
def ix_iast (nx : Nat) (L : ix_L) (st : List ix_V) (w : ix_W) : Option ix_S := match st with
  | .inl x :: .inl i :: .inr q :: r => match w[q]? with
    | some (.inl (n, f)) => if i < 0 ∨ n ≤ i.toNatClampNeg then none else some (nx, L, r, w.set q (.inl (n, upd f i.toNatClampNeg x)))
    | _ => none
  | _ => none
def ix_alen (nx : Nat) (L : ix_L) (st : List ix_V) (w : ix_W) : Option ix_S := match st with
  | .inr q :: r => match w[q]? with
    | some (.inl (n, _)) => some (nx, L, .inl (Int32.ofNat n) :: r, w)
    | _ => none
  | _ => none
def ix_dup (nx : Nat) (L : ix_L) (st : List ix_V) (w : ix_W) : Option ix_S := match st with
  | v :: r => some (nx, L, v :: v :: r, w)
  | _ => none
def ix_dup2 (nx : Nat) (L : ix_L) (st : List ix_V) (w : ix_W) : Option ix_S := match st with
  | v :: u :: r => some (nx, L, v :: u :: v :: u :: r, w)
  | _ => none
def ix_tsw (pc : Nat) (d lo hi : Int) (offs : Array Int) (L : ix_L) (st : List ix_V) (w : ix_W) : Option ix_S := match st with
  | .inl x :: r => if x.toInt < lo ∨ hi < x.toInt then (if 0 ≤ (pc : Int) + d then some (((pc : Int) + d).toNat, L, r, w) else none) else (match offs[(x.toInt - lo).toNat]? with
    | some off => if 0 ≤ (pc : Int) + off then some (((pc : Int) + off).toNat, L, r, w) else none
    | none => none)
  | _ => none
/-- one instruction that neither calls nor returns -/
def ix_st (pc : Nat) (e : ix_E) (L : ix_L) (st : List ix_V) (w : ix_W) : Option ix_S := match e with
  | (i, nx, a, b, _, v) => match i with
    | .iconst _ => ix_push nx v L st w
    | .bipush _ => ix_push nx v L st w
    | .sipush _ => ix_push nx v L st w
    | .ldc _ => ix_push nx v L st w
    | .ldc_w _ => ix_push nx v L st w
    | .iload _ => ix_ild nx a L st w
    | .iload_n _ => ix_ild nx a L st w
    | .aload_n _ => ix_ald nx a L st w
    | .istore _ => ix_ist nx a L st w
    | .istore_n _ => ix_ist nx a L st w
    | .iinc _ _ => ix_inc nx a v L st w
    | .iadd => ix_bi (fun x y => x + y) nx L st w
    | .isub => ix_bi (fun x y => x - y) nx L st w
    | .imul => ix_bi (fun x y => x * y) nx L st w
    | .iand => ix_bi (fun x y => x &&& y) nx L st w
    | .ior => ix_bi (fun x y => x ||| y) nx L st w
    | .ixor => ix_bi (fun x y => x ^^^ y) nx L st w
    | .ishl => ix_bi (fun x y => x <<< (y &&& 31)) nx L st w
    | .ishr => ix_bi (fun x y => x >>> (y &&& 31)) nx L st w
    | .iushr => ix_bi (fun x y => (x.toUInt32 >>> (y.toUInt32 &&& Int32.toUInt32 31)).toInt32) nx L st w
    | .idiv => ix_dv (fun x y => x / y) nx L st w
    | .irem => ix_dv (fun x y => x - x / y * y) nx L st w
    | .ineg => ix_un (fun x => -x) nx L st w
    | .ifCond c _ => ix_br1 c nx a L st w
    | .if_icmp c _ => ix_br2 c nx a L st w
    | .goto _ => some (a, L, st, w)
    | .getfield _ => ix_get nx a b L st w
    | .putfield _ => ix_put nx a b L st w
    | .iaload => ix_iald nx L st w
    | .iastore => ix_iast nx L st w
    | .arraylength => ix_alen nx L st w
    | .dup => ix_dup nx L st w
    | .dup2 => ix_dup2 nx L st w
    | .tableswitch d lo hi offs => ix_tsw pc d lo hi offs L st w
    | _ => none
/-- the locals at a method's entry -/
def ix_en (k : Nat) (as : List ix_V) : ix_L := as.map some ++ List.replicate (ix_ml k - as.length) none
/-- may k call k2 with r values left below -/
def ix_gd (k k2 r : Nat) : Bool := Nat.ble (ix_rk k2 + 1) (ix_rk k) && Nat.ble (8 + (ix_ml k2 + 11) + ix_lr k2) (ix_lr k) && Nat.ble r 8 && Nat.ble (ix_na k2) (ix_ml k2)
/-- the arguments of a call, and what is left below -/
def ix_cs (k k2 : Nat) (st : List ix_V) : Option (List ix_V × List ix_V) := if (st.take (ix_na k2)).length = ix_na k2 ∧ ix_ci k2 = 99 ∧ ix_gd k k2 (st.drop (ix_na k2)).length = true then some ((st.take (ix_na k2)).reverse, st.drop (ix_na k2)) else none
def ix_cv (k k2 : Nat) (st : List ix_V) (w : ix_W) : Option (List ix_V × List ix_V) := if (st.take (ix_na k2)).length = ix_na k2 ∧ ix_gd k k2 (st.drop (ix_na k2)).length = true then (match (st.take (ix_na k2)).reverse with
  | .inr q :: as => match w[q]? with
    | some (.inr (ci, _)) => if ci = ix_ci k2 then some (.inr q :: as, st.drop (ix_na k2)) else none
    | _ => none
  | _ => none) else none
def ix_kd (e : ix_E) : Nat := match e.1 with
  | .ireturn => 1
  | .return_ => 2
  | .invokestatic _ => 3
  | .invokevirtual _ => 4
  | _ => 0
def ix_iret (k : Nat) (st : List ix_V) (w : ix_W) : Option (Option ix_V × ix_W) := match st with
  | [.inl x] => if ix_rt k = 1 ∨ (ix_rt k = 2 ∧ (x = 0 ∨ x = 1)) then some (some (.inl x), w) else none
  | _ => none
def ix_vret (k : Nat) (st : List ix_V) (w : ix_W) : Option (Option ix_V × ix_W) := match st with
  | [] => if ix_rt k = 0 then some (none, w) else none
  | _ => none
def ix_run : Nat → Nat → Nat → ix_L → List ix_V → ix_W → Option (Option ix_V × ix_W)
  | 0, _, _, _, _, _ => none
  | n + 1, k, pc, L, st, w => match ix_lk k pc with
    | none => none
    | some e => match ix_kd e with
      | 0 => (ix_st pc e L st w).bind (fun z => ix_run n k z.1 z.2.1 z.2.2.1 z.2.2.2)
      | 1 => ix_iret k st w
      | 2 => ix_vret k st w
      | 3 => (ix_cs k e.2.2.1 st).bind (fun z => (ix_run n e.2.2.1 0 (ix_en e.2.2.1 z.1) [] w).bind (fun y => ix_run n k e.2.1 L (y.1.toList ++ z.2) y.2))
      | _ => (ix_cv k e.2.2.1 st w).bind (fun z => (ix_run n e.2.2.1 0 (ix_en e.2.2.1 z.1) [] w).bind (fun y => ix_run n k e.2.1 L (y.1.toList ++ z.2) y.2))
theorem ix_mono1 : ∀ (n k pc : Nat) (L : ix_L) (st : List ix_V) (w : ix_W) (x : Option ix_V × ix_W), ix_run n k pc L st w = some x → ix_run (n + 1) k pc L st w = some x := by
  intro n
  induction n with
  | zero => intro k pc L st w x h; exact absurd h (by simp [ix_run])
  | succ n ih =>
    intro k pc L st w x h
    rw [ix_run] at h ⊢
    cases he : ix_lk k pc with
    | none => rw [he] at h; exact absurd h (by simp)
    | some e =>
      rw [he] at h
      dsimp only at h ⊢
      split at h
      · rename_i hk
        obtain ⟨z, h1, h2⟩ := Option.bind_eq_some_iff.mp h
        rw [h1]; exact ih _ _ _ _ _ _ h2
      · rename_i hk
        exact h
      · rename_i hk
        exact h
      · rename_i hk
        obtain ⟨z, h1, h2⟩ := Option.bind_eq_some_iff.mp h
        obtain ⟨y, h3, h4⟩ := Option.bind_eq_some_iff.mp h2
        rw [h1]; show Option.bind (ix_run (n + 1) _ _ _ _ _) _ = _
        rw [ih _ _ _ _ _ _ h3]; exact ih _ _ _ _ _ _ h4
      · obtain ⟨z, h1, h2⟩ := Option.bind_eq_some_iff.mp h
        obtain ⟨y, h3, h4⟩ := Option.bind_eq_some_iff.mp h2
        rw [h1]; show Option.bind (ix_run (n + 1) _ _ _ _ _) _ = _
        rw [ih _ _ _ _ _ _ h3]; exact ih _ _ _ _ _ _ h4
theorem ix_mono {n m : Nat} (hm : n ≤ m) {k pc : Nat} {L : ix_L} {st : List ix_V} {w : ix_W} {x : Option ix_V × ix_W} (h : ix_run n k pc L st w = some x) : ix_run m k pc L st w = some x := by
  induction hm with
  | refl => exact h
  | step _ ih => exact ix_mono1 _ _ _ _ _ _ _ ih
end
section
def ix_wd (j : Nat) (w : Cond) : Bool := decide (lw_tbl[j]? = some w) && goodWord w
def ix_wn (j : Nat) (w : Cond) : Bool := decide (lw_tbl[j]? = some w)
def ix_gw : List Cond := lw_tbl.filter goodWord
theorem ix_wd_in {j : Nat} {w : Cond} (h : ix_wd j w = true) : w ∈ ix_gw := by
  unfold ix_wd at h
  rw [Bool.and_eq_true, decide_eq_true_eq] at h
  exact List.mem_filter.mpr ⟨List.mem_of_getElem? h.1, h.2⟩
theorem ix_wn_in {j : Nat} {w : Cond} (h : ix_wn j w = true) : w ∈ lw_tbl := by
  unfold ix_wn at h
  rw [decide_eq_true_eq] at h
  exact List.mem_of_getElem? h
/-- what a row of the tables must be -/
def ix_okX (k pc : Nat) (e : ix_E) : Bool := match e with
  | (i, nx, a, b, j, v) => match i with
    | .iconst n => decide (nx = pc + 1 ∧ Int32.ofInt n = v)
    | .bipush n => decide (nx = pc + 2 ∧ (Int8.ofInt n).toInt32 = v)
    | .sipush n => decide (nx = pc + 3 ∧ (Int16.ofInt n).toInt32 = v)
    | .ldc x => decide (nx = pc + 2) && ix_wd j (.constant (ix_y k).cls x v)
    | .ldc_w x => decide (nx = pc + 3) && ix_wd j (.constant (ix_y k).cls x v)
    | .iload x => decide (nx = pc + 2 ∧ x = a)
    | .iload_n x => decide (nx = pc + 1 ∧ x.val = a)
    | .aload_n x => decide (nx = pc + 1 ∧ x.val = a)
    | .istore x => decide (nx = pc + 2 ∧ x = a)
    | .istore_n x => decide (nx = pc + 1 ∧ x.val = a)
    | .iinc x n => decide (nx = pc + 3 ∧ x = a ∧ Int32.ofInt n = v)
    | .ifCond _ off => decide (nx = pc + 3 ∧ (pc : Int) + off = (a : Int))
    | .if_icmp _ off => decide (nx = pc + 3 ∧ (pc : Int) + off = (a : Int))
    | .goto off => decide (nx = pc + 3 ∧ (pc : Int) + off = (a : Int))
    | .getfield x => decide (nx = pc + 3) && (match vwCl[b]? with
      | some (C, T, N) => decide (a < N ∧ (T a).1 = C) && ix_wd j (.fieldLink (ix_y k).cls x (T a).1 (T a).2.1 (T a).2.2.1)
      | none => false)
    | .putfield x => decide (nx = pc + 3) && (match vwCl[b]? with
      | some (C, T, N) => decide (a < N ∧ (T a).2.2.1 = "I" ∧ (T a).2.2.2 = false) && ix_wd j (.fieldLink (ix_y k).cls x (T a).1 (T a).2.1 (T a).2.2.1)
      | none => false)
    | .invokestatic x => decide (nx = pc + 3 ∧ a < ix_N) && (if b = 1 then ix_wn j (.methodLinkNest (ix_y k).cls x (ix_y a) "ColdGrid") else ix_wd j (.methodLink (ix_y k).cls x (ix_y a)))
    | .invokevirtual x => decide (nx = pc + 3 ∧ a < ix_N) && ix_wd j (.methodLink (ix_y k).cls x (ix_y a))
    | .tableswitch _ _ _ _ => decide (nx = pc + b)
    | _ => decide (nx = pc + 1)
def ix_ln (e : ix_E) : Nat := match e.1 with
  | .bipush _ => 2
  | .sipush _ => 3
  | .ldc _ => 2
  | .ldc_w _ => 3
  | .iload _ => 2
  | .istore _ => 2
  | .iinc _ _ => 3
  | .ifCond _ _ => 3
  | .if_icmp _ _ => 3
  | .goto _ => 3
  | .getfield _ => 3
  | .putfield _ => 3
  | .invokestatic _ => 3
  | .invokevirtual _ => 3
  | .tableswitch _ _ _ _ => e.2.2.2.1
  | _ => 1
def ix_okB (k : Nat) (x : Nat × ix_E) : Bool := decide (decode (ix_c k) x.1 = .ok (x.2.1, ix_ln x.2)) && ix_okX k x.1 x.2
/-- what a method's own row must be -/
def ix_mB (k : Nat) : Bool := match ix_md k, ix_mt k with
  | (y, c, r, jc, ji, j1, j2), (ml, _, _, na, ci, rt) => ix_wd jc (.code y c ml r) && ix_wd ji (.initialized y.cls) && decide (y.cls ≠ "java/lang/invoke/MethodHandle" ∧ y.cls ≠ "java/lang/invoke/VarHandle") && decide (r = if rt = 0 then none else if rt = 1 then some .int else some .boolean) && decide (rt ≤ 2) && plainFor y && (if ci = 99 then ix_wd j1 (.static y) && decide ((parseMethodDescriptor y.desc).map (fun d => d.parameters.length) = some na) else ix_wd j1 (.instanceMethod y) && ix_wd j2 (.selects y.cls y y) && decide ((parseMethodDescriptor y.desc).map (fun d => d.parameters.length + 1) = some na) && (match vwCl[ci]? with
    | some (C, _, _) => decide (C = y.cls)
    | none => false))
theorem ok_X0_clear : ∀ x ∈ tb_X0_clear, ix_okB 0 x = true := by decide +kernel
theorem ok_X3_constant : ∀ x ∈ tb_X3_constant, ix_okB 1 x = true := by decide +kernel
theorem ok_X1_boundToRight : ∀ x ∈ tb_X1_boundToRight, ix_okB 2 x = true := by decide +kernel
theorem ok_X1_boundToBelow : ∀ x ∈ tb_X1_boundToBelow, ix_okB 3 x = true := by decide +kernel
theorem ok_X1_cellsOfChains : ∀ x ∈ tb_X1_cellsOfChains, ix_okB 4 x = true := by decide +kernel
theorem ok_X4_isIn : ∀ x ∈ tb_X4_isIn, ix_okB 5 x = true := by decide +kernel
theorem ok_X0_listCells : ∀ x ∈ tb_X0_listCells, ix_okB 6 x = true := by decide +kernel
theorem ok_X3_size : ∀ x ∈ tb_X3_size, ix_okB 7 x = true := by decide +kernel
theorem ok_J6_numberOfTrailingZeros_0f7a4 : ∀ x ∈ tb_J6_numberOfTrailingZeros_0f7a4, ix_okB 8 x = true := by decide +kernel
theorem ok_X1_leastCellOf : ∀ x ∈ tb_X1_leastCellOf, ix_okB 9 x = true := by decide +kernel
theorem ok_X3_place : ∀ x ∈ tb_X3_place, ix_okB 10 x = true := by decide +kernel
theorem ok_X3_between : ∀ x ∈ tb_X3_between, ix_okB 11 x = true := by decide +kernel
theorem ok_X4_isWithin : ∀ x ∈ tb_X4_isWithin, ix_okB 12 x = true := by decide +kernel
theorem ok_X0_addOwn : ∀ x ∈ tb_X0_addOwn, ix_okB 13 x = true := by decide +kernel
theorem ok_X1_neighboursOf : ∀ x ∈ tb_X1_neighboursOf, ix_okB 14 x = true := by decide +kernel
theorem ok_X1_linkFrom : ∀ x ∈ tb_X1_linkFrom, ix_okB 15 x = true := by decide +kernel
theorem ok_X1_linkTo : ∀ x ∈ tb_X1_linkTo, ix_okB 16 x = true := by decide +kernel
theorem ok_J9_min_7cf53 : ∀ x ∈ tb_J9_min_7cf53, ix_okB 17 x = true := by decide +kernel
theorem ok_J9_max_7cf53 : ∀ x ∈ tb_J9_max_7cf53, ix_okB 18 x = true := by decide +kernel
theorem ok_X0_addLink : ∀ x ∈ tb_X0_addLink, ix_okB 19 x = true := by decide +kernel
theorem ok_X0_layOut : ∀ x ∈ tb_X0_layOut, ix_okB 20 x = true := by decide +kernel
theorem ok_X0_gainOf : ∀ x ∈ tb_X0_gainOf, ix_okB 21 x = true := by decide +kernel
theorem ok_J6_bitCount_0f7a4 : ∀ x ∈ tb_J6_bitCount_0f7a4, ix_okB 22 x = true := by decide +kernel
theorem ok_X0_unlikeNeighbours : ∀ x ∈ tb_X0_unlikeNeighbours, ix_okB 23 x = true := by decide +kernel
theorem ok_X0_leastHold : ∀ x ∈ tb_X0_leastHold, ix_okB 24 x = true := by decide +kernel
theorem ok_X1_isDead : ∀ x ∈ tb_X1_isDead, ix_okB 25 x = true := by decide +kernel
theorem ok_X1_setDead : ∀ x ∈ tb_X1_setDead, ix_okB 26 x = true := by decide +kernel
theorem ok_X1_deadCells : ∀ x ∈ tb_X1_deadCells, ix_okB 27 x = true := by decide +kernel
theorem ok_X1_setChain : ∀ x ∈ tb_X1_setChain, ix_okB 28 x = true := by decide +kernel
theorem ok_X1_forgetChains : ∀ x ∈ tb_X1_forgetChains, ix_okB 29 x = true := by decide +kernel
theorem ok_X1_chainLengths : ∀ x ∈ tb_X1_chainLengths, ix_okB 30 x = true := by decide +kernel
theorem ok_X1_isAnyEmpty : ∀ x ∈ tb_X1_isAnyEmpty, ix_okB 31 x = true := by decide +kernel
theorem ok_J6_lowestOneBit_0f7a4 : ∀ x ∈ tb_J6_lowestOneBit_0f7a4, ix_okB 32 x = true := by decide +kernel
theorem ok_X1_hangsTogether : ∀ x ∈ tb_X1_hangsTogether, ix_okB 33 x = true := by decide +kernel
theorem ok_X1_isAnyTorn : ∀ x ∈ tb_X1_isAnyTorn, ix_okB 34 x = true := by decide +kernel
theorem ok_X1_isAnyPairApart : ∀ x ∈ tb_X1_isAnyPairApart, ix_okB 35 x = true := by decide +kernel
theorem ok_X1_firstFailing : ∀ x ∈ tb_X1_firstFailing, ix_okB 36 x = true := by decide +kernel
theorem ok_X1_mostOf : ∀ x ∈ tb_X1_mostOf, ix_okB 37 x = true := by decide +kernel
theorem ok_X2_size : ∀ x ∈ tb_X2_size, ix_okB 38 x = true := by decide +kernel
theorem ok_X2_add : ∀ x ∈ tb_X2_add, ix_okB 39 x = true := by decide +kernel
theorem ok_X2_dropLast : ∀ x ∈ tb_X2_dropLast, ix_okB 40 x = true := by decide +kernel
theorem ok_X2_forgetAll : ∀ x ∈ tb_X2_forgetAll, ix_okB 41 x = true := by decide +kernel
theorem ok_X2_missedBy : ∀ x ∈ tb_X2_missedBy, ix_okB 42 x = true := by decide +kernel
theorem ok_X3_startAnew : ∀ x ∈ tb_X3_startAnew, ix_okB 43 x = true := by decide +kernel
theorem ok_X3_states : ∀ x ∈ tb_X3_states, ix_okB 44 x = true := by decide +kernel
theorem ok_X3_setBetween : ∀ x ∈ tb_X3_setBetween, ix_okB 45 x = true := by decide +kernel
theorem ok_X3_weightedPairs : ∀ x ∈ tb_X3_weightedPairs, ix_okB 46 x = true := by decide +kernel
theorem ok_X3_gainOf : ∀ x ∈ tb_X3_gainOf, ix_okB 47 x = true := by decide +kernel
theorem ok_X3_energyOf : ∀ x ∈ tb_X3_energyOf, ix_okB 48 x = true := by decide +kernel
theorem ok_X3_fillEnergies : ∀ x ∈ tb_X3_fillEnergies, ix_okB 49 x = true := by decide +kernel
theorem ok_X3_changeBy : ∀ x ∈ tb_X3_changeBy, ix_okB 50 x = true := by decide +kernel
theorem ok_X3_valueToFix : ∀ x ∈ tb_X3_valueToFix, ix_okB 51 x = true := by decide +kernel
theorem ok_X3_lowerBound : ∀ x ∈ tb_X3_lowerBound, ix_okB 52 x = true := by decide +kernel
theorem ok_X3_turnedBetween : ∀ x ∈ tb_X3_turnedBetween, ix_okB 53 x = true := by decide +kernel
theorem ok_X3_turnBy : ∀ x ∈ tb_X3_turnBy, ix_okB 54 x = true := by decide +kernel
theorem ok_J9_abs_0f7a4 : ∀ x ∈ tb_J9_abs_0f7a4, ix_okB 55 x = true := by decide +kernel
theorem ok_X3_nearestMultiple : ∀ x ∈ tb_X3_nearestMultiple, ix_okB 56 x = true := by decide +kernel
theorem ok_X3_cutTo : ∀ x ∈ tb_X3_cutTo, ix_okB 57 x = true := by decide +kernel
theorem ok_X4_letters : ∀ x ∈ tb_X4_letters, ix_okB 58 x = true := by decide +kernel
theorem ok_X4_isLetter : ∀ x ∈ tb_X4_isLetter, ix_okB 59 x = true := by decide +kernel
theorem ok_X4_weigh : ∀ x ∈ tb_X4_weigh, ix_okB 60 x = true := by decide +kernel
theorem ok_X4_weight : ∀ x ∈ tb_X4_weight, ix_okB 61 x = true := by decide +kernel
theorem ok_X4_isSetOfLetters : ∀ x ∈ tb_X4_isSetOfLetters, ix_okB 62 x = true := by decide +kernel
theorem ok_X4_energy : ∀ x ∈ tb_X4_energy, ix_okB 63 x = true := by decide +kernel
theorem ok_X4_law : ∀ x ∈ tb_X4_law, ix_okB 64 x = true := by decide +kernel
theorem ok_X4_unlaw : ∀ x ∈ tb_X4_unlaw, ix_okB 65 x = true := by decide +kernel
theorem ok_X4_isPull : ∀ x ∈ tb_X4_isPull, ix_okB 66 x = true := by decide +kernel
theorem ok_X4_fillWeighed : ∀ x ∈ tb_X4_fillWeighed, ix_okB 67 x = true := by decide +kernel
theorem ok_X4_leastOfRow : ∀ x ∈ tb_X4_leastOfRow, ix_okB 68 x = true := by decide +kernel
theorem ok_X4_best : ∀ x ∈ tb_X4_best, ix_okB 69 x = true := by decide +kernel
theorem ok_X4_listBest : ∀ x ∈ tb_X4_listBest, ix_okB 70 x = true := by decide +kernel
theorem ok_X4_many : ∀ x ∈ tb_X4_many, ix_okB 71 x = true := by decide +kernel
theorem ok_X4_bestAt : ∀ x ∈ tb_X4_bestAt, ix_okB 72 x = true := by decide +kernel
theorem ok_X4_bestKeeper : ∀ x ∈ tb_X4_bestKeeper, ix_okB 73 x = true := by decide +kernel
theorem ok_X4_pull : ∀ x ∈ tb_X4_pull, ix_okB 74 x = true := by decide +kernel
theorem ok_X4_fixed : ∀ x ∈ tb_X4_fixed, ix_okB 75 x = true := by decide +kernel
theorem ok_X4_floor : ∀ x ∈ tb_X4_floor, ix_okB 76 x = true := by decide +kernel
theorem ok_X4_kill : ∀ x ∈ tb_X4_kill, ix_okB 77 x = true := by decide +kernel
theorem ok_X4_chain : ∀ x ∈ tb_X4_chain, ix_okB 78 x = true := by decide +kernel
theorem ok_X4_stands : ∀ x ∈ tb_X4_stands, ix_okB 79 x = true := by decide +kernel
theorem ok_X4_link : ∀ x ∈ tb_X4_link, ix_okB 80 x = true := by decide +kernel
theorem ok_X4_strong : ∀ x ∈ tb_X4_strong, ix_okB 81 x = true := by decide +kernel
theorem ok_X4_readBack : ∀ x ∈ tb_X4_readBack, ix_okB 82 x = true := by decide +kernel
theorem ok_X4_turn : ∀ x ∈ tb_X4_turn, ix_okB 83 x = true := by decide +kernel
theorem ok_X4_cut : ∀ x ∈ tb_X4_cut, ix_okB 84 x = true := by decide +kernel
theorem ok_X4_walk : ∀ x ∈ tb_X4_walk, ix_okB 85 x = true := by decide +kernel
theorem ok_X4_count : ∀ x ∈ tb_X4_count, ix_okB 86 x = true := by decide +kernel
theorem ok_X5_in : ∀ x ∈ tb_X5_in, ix_okB 87 x = true := by decide +kernel
theorem ok_X5_size : ∀ x ∈ tb_X5_size, ix_okB 88 x = true := by decide +kernel
theorem ok_X5_ones : ∀ x ∈ tb_X5_ones, ix_okB 89 x = true := by decide +kernel
theorem ok_X5_isLetter : ∀ x ∈ tb_X5_isLetter, ix_okB 90 x = true := by decide +kernel
theorem ok_X5_isState : ∀ x ∈ tb_X5_isState, ix_okB 91 x = true := by decide +kernel
theorem ok_X5_letters : ∀ x ∈ tb_X5_letters, ix_okB 92 x = true := by decide +kernel
theorem ok_X5_putWeight : ∀ x ∈ tb_X5_putWeight, ix_okB 93 x = true := by decide +kernel
theorem ok_X5_weigh : ∀ x ∈ tb_X5_weigh, ix_okB 94 x = true := by decide +kernel
theorem ok_X5_weight : ∀ x ∈ tb_X5_weight, ix_okB 95 x = true := by decide +kernel
theorem ok_X5_energyOf : ∀ x ∈ tb_X5_energyOf, ix_okB 96 x = true := by decide +kernel
theorem ok_X5_energy : ∀ x ∈ tb_X5_energy, ix_okB 97 x = true := by decide +kernel
theorem ok_X5_law : ∀ x ∈ tb_X5_law, ix_okB 98 x = true := by decide +kernel
theorem ok_X5_unlaw : ∀ x ∈ tb_X5_unlaw, ix_okB 99 x = true := by decide +kernel
theorem ok_X5_missed : ∀ x ∈ tb_X5_missed, ix_okB 100 x = true := by decide +kernel
theorem ok_X5_weighed : ∀ x ∈ tb_X5_weighed, ix_okB 101 x = true := by decide +kernel
theorem ok_X5_leastBy : ∀ x ∈ tb_X5_leastBy, ix_okB 102 x = true := by decide +kernel
theorem ok_X5_isPull : ∀ x ∈ tb_X5_isPull, ix_okB 103 x = true := by decide +kernel
theorem ok_X5_best : ∀ x ∈ tb_X5_best, ix_okB 104 x = true := by decide +kernel
theorem ok_X5_many : ∀ x ∈ tb_X5_many, ix_okB 105 x = true := by decide +kernel
theorem ok_X5_bestAt : ∀ x ∈ tb_X5_bestAt, ix_okB 106 x = true := by decide +kernel
theorem ok_X5_pull : ∀ x ∈ tb_X5_pull, ix_okB 107 x = true := by decide +kernel
theorem ok_X5_mayBe : ∀ x ∈ tb_X5_mayBe, ix_okB 108 x = true := by decide +kernel
theorem ok_X5_fixAll : ∀ x ∈ tb_X5_fixAll, ix_okB 109 x = true := by decide +kernel
theorem ok_X5_fixed : ∀ x ∈ tb_X5_fixed, ix_okB 110 x = true := by decide +kernel
theorem ok_X5_floor : ∀ x ∈ tb_X5_floor, ix_okB 111 x = true := by decide +kernel
theorem ok_X5_kill : ∀ x ∈ tb_X5_kill, ix_okB 112 x = true := by decide +kernel
theorem ok_X5_chain : ∀ x ∈ tb_X5_chain, ix_okB 113 x = true := by decide +kernel
theorem ok_X5_beside : ∀ x ∈ tb_X5_beside, ix_okB 114 x = true := by decide +kernel
theorem ok_X5_firstOf : ∀ x ∈ tb_X5_firstOf, ix_okB 115 x = true := by decide +kernel
theorem ok_X5_hangs : ∀ x ∈ tb_X5_hangs, ix_okB 116 x = true := by decide +kernel
theorem ok_X5_all : ∀ x ∈ tb_X5_all, ix_okB 117 x = true := by decide +kernel
theorem ok_X5_together : ∀ x ∈ tb_X5_together, ix_okB 118 x = true := by decide +kernel
theorem ok_X5_fails : ∀ x ∈ tb_X5_fails, ix_okB 119 x = true := by decide +kernel
theorem ok_X5_stands : ∀ x ∈ tb_X5_stands, ix_okB 120 x = true := by decide +kernel
theorem ok_X5_linkOf : ∀ x ∈ tb_X5_linkOf, ix_okB 121 x = true := by decide +kernel
theorem ok_X5_link : ∀ x ∈ tb_X5_link, ix_okB 122 x = true := by decide +kernel
theorem ok_X5_spread : ∀ x ∈ tb_X5_spread, ix_okB 123 x = true := by decide +kernel
theorem ok_X5_layGrid : ∀ x ∈ tb_X5_layGrid, ix_okB 124 x = true := by decide +kernel
theorem ok_X5_energyOn : ∀ x ∈ tb_X5_energyOn, ix_okB 125 x = true := by decide +kernel
theorem ok_X5_unlike : ∀ x ∈ tb_X5_unlike, ix_okB 126 x = true := by decide +kernel
theorem ok_X5_strong : ∀ x ∈ tb_X5_strong, ix_okB 127 x = true := by decide +kernel
theorem ok_X5_readBack : ∀ x ∈ tb_X5_readBack, ix_okB 128 x = true := by decide +kernel
theorem ok_X5_turnOne : ∀ x ∈ tb_X5_turnOne, ix_okB 129 x = true := by decide +kernel
theorem ok_X5_turn : ∀ x ∈ tb_X5_turn, ix_okB 130 x = true := by decide +kernel
theorem ok_X5_cutOf : ∀ x ∈ tb_X5_cutOf, ix_okB 131 x = true := by decide +kernel
theorem ok_X5_cut : ∀ x ∈ tb_X5_cut, ix_okB 132 x = true := by decide +kernel
theorem ok_X5_walk : ∀ x ∈ tb_X5_walk, ix_okB 133 x = true := by decide +kernel
theorem ok_X5_count : ∀ x ∈ tb_X5_count, ix_okB 134 x = true := by decide +kernel
theorem mb_0 : ∀ i, i < 16 → ix_mB (0 + i) = true := by decide +kernel
theorem mb_1 : ∀ i, i < 16 → ix_mB (16 + i) = true := by decide +kernel
theorem mb_2 : ∀ i, i < 16 → ix_mB (32 + i) = true := by decide +kernel
theorem mb_3 : ∀ i, i < 16 → ix_mB (48 + i) = true := by decide +kernel
theorem mb_4 : ∀ i, i < 16 → ix_mB (64 + i) = true := by decide +kernel
theorem mb_5 : ∀ i, i < 16 → ix_mB (80 + i) = true := by decide +kernel
theorem mb_6 : ∀ i, i < 16 → ix_mB (96 + i) = true := by decide +kernel
theorem mb_7 : ∀ i, i < 16 → ix_mB (112 + i) = true := by decide +kernel
theorem mb_8 : ∀ i, i < 7 → ix_mB (128 + i) = true := by decide +kernel
theorem ix_lk_ok0 {l : List (Nat × ix_E)} {k : Nat} (h : ∀ x ∈ l, ix_okB k x = true) {pc : Nat} {e : ix_E} (he : l.lookup pc = some e) : ix_okB k (pc, e) = true := by
  induction l with
  | nil => exact absurd he (by simp)
  | cons x r ih =>
    obtain ⟨a, b⟩ := x
    rw [List.lookup_cons] at he
    by_cases hc : (pc == a) = true
    · rw [hc] at he
      have e1 : pc = a := by simpa using hc
      have e2 : b = e := Option.some.inj he
      subst e1; subst e2
      exact h _ List.mem_cons_self
    · have hc2 : (pc == a) = false := by simpa using hc
      rw [hc2] at he
      exact ih (fun x hx => h x (List.mem_cons_of_mem _ hx)) he
theorem okh_0 : ∀ i, ∀ x ∈ (ix_tbs0.getD i []), ix_okB (0 + i) x = true := by
  intro i
  match i with
  | 0 => exact ok_X0_clear
  | 1 => exact ok_X3_constant
  | 2 => exact ok_X1_boundToRight
  | 3 => exact ok_X1_boundToBelow
  | 4 => exact ok_X1_cellsOfChains
  | 5 => exact ok_X4_isIn
  | 6 => exact ok_X0_listCells
  | 7 => exact ok_X3_size
  | 8 => exact ok_J6_numberOfTrailingZeros_0f7a4
  | 9 => exact ok_X1_leastCellOf
  | 10 => exact ok_X3_place
  | 11 => exact ok_X3_between
  | 12 => exact ok_X4_isWithin
  | 13 => exact ok_X0_addOwn
  | 14 => exact ok_X1_neighboursOf
  | 15 => exact ok_X1_linkFrom
  | i + 16 => intro x hx; exact absurd hx (by simp [ix_tbs0])
theorem okh_1 : ∀ i, ∀ x ∈ (ix_tbs1.getD i []), ix_okB (16 + i) x = true := by
  intro i
  match i with
  | 0 => exact ok_X1_linkTo
  | 1 => exact ok_J9_min_7cf53
  | 2 => exact ok_J9_max_7cf53
  | 3 => exact ok_X0_addLink
  | 4 => exact ok_X0_layOut
  | 5 => exact ok_X0_gainOf
  | 6 => exact ok_J6_bitCount_0f7a4
  | 7 => exact ok_X0_unlikeNeighbours
  | 8 => exact ok_X0_leastHold
  | 9 => exact ok_X1_isDead
  | 10 => exact ok_X1_setDead
  | 11 => exact ok_X1_deadCells
  | 12 => exact ok_X1_setChain
  | 13 => exact ok_X1_forgetChains
  | 14 => exact ok_X1_chainLengths
  | 15 => exact ok_X1_isAnyEmpty
  | i + 16 => intro x hx; exact absurd hx (by simp [ix_tbs1])
theorem okh_2 : ∀ i, ∀ x ∈ (ix_tbs2.getD i []), ix_okB (32 + i) x = true := by
  intro i
  match i with
  | 0 => exact ok_J6_lowestOneBit_0f7a4
  | 1 => exact ok_X1_hangsTogether
  | 2 => exact ok_X1_isAnyTorn
  | 3 => exact ok_X1_isAnyPairApart
  | 4 => exact ok_X1_firstFailing
  | 5 => exact ok_X1_mostOf
  | 6 => exact ok_X2_size
  | 7 => exact ok_X2_add
  | 8 => exact ok_X2_dropLast
  | 9 => exact ok_X2_forgetAll
  | 10 => exact ok_X2_missedBy
  | 11 => exact ok_X3_startAnew
  | 12 => exact ok_X3_states
  | 13 => exact ok_X3_setBetween
  | 14 => exact ok_X3_weightedPairs
  | 15 => exact ok_X3_gainOf
  | i + 16 => intro x hx; exact absurd hx (by simp [ix_tbs2])
theorem okh_3 : ∀ i, ∀ x ∈ (ix_tbs3.getD i []), ix_okB (48 + i) x = true := by
  intro i
  match i with
  | 0 => exact ok_X3_energyOf
  | 1 => exact ok_X3_fillEnergies
  | 2 => exact ok_X3_changeBy
  | 3 => exact ok_X3_valueToFix
  | 4 => exact ok_X3_lowerBound
  | 5 => exact ok_X3_turnedBetween
  | 6 => exact ok_X3_turnBy
  | 7 => exact ok_J9_abs_0f7a4
  | 8 => exact ok_X3_nearestMultiple
  | 9 => exact ok_X3_cutTo
  | 10 => exact ok_X4_letters
  | 11 => exact ok_X4_isLetter
  | 12 => exact ok_X4_weigh
  | 13 => exact ok_X4_weight
  | 14 => exact ok_X4_isSetOfLetters
  | 15 => exact ok_X4_energy
  | i + 16 => intro x hx; exact absurd hx (by simp [ix_tbs3])
theorem okh_4 : ∀ i, ∀ x ∈ (ix_tbs4.getD i []), ix_okB (64 + i) x = true := by
  intro i
  match i with
  | 0 => exact ok_X4_law
  | 1 => exact ok_X4_unlaw
  | 2 => exact ok_X4_isPull
  | 3 => exact ok_X4_fillWeighed
  | 4 => exact ok_X4_leastOfRow
  | 5 => exact ok_X4_best
  | 6 => exact ok_X4_listBest
  | 7 => exact ok_X4_many
  | 8 => exact ok_X4_bestAt
  | 9 => exact ok_X4_bestKeeper
  | 10 => exact ok_X4_pull
  | 11 => exact ok_X4_fixed
  | 12 => exact ok_X4_floor
  | 13 => exact ok_X4_kill
  | 14 => exact ok_X4_chain
  | 15 => exact ok_X4_stands
  | i + 16 => intro x hx; exact absurd hx (by simp [ix_tbs4])
theorem okh_5 : ∀ i, ∀ x ∈ (ix_tbs5.getD i []), ix_okB (80 + i) x = true := by
  intro i
  match i with
  | 0 => exact ok_X4_link
  | 1 => exact ok_X4_strong
  | 2 => exact ok_X4_readBack
  | 3 => exact ok_X4_turn
  | 4 => exact ok_X4_cut
  | 5 => exact ok_X4_walk
  | 6 => exact ok_X4_count
  | 7 => exact ok_X5_in
  | 8 => exact ok_X5_size
  | 9 => exact ok_X5_ones
  | 10 => exact ok_X5_isLetter
  | 11 => exact ok_X5_isState
  | 12 => exact ok_X5_letters
  | 13 => exact ok_X5_putWeight
  | 14 => exact ok_X5_weigh
  | 15 => exact ok_X5_weight
  | i + 16 => intro x hx; exact absurd hx (by simp [ix_tbs5])
theorem okh_6 : ∀ i, ∀ x ∈ (ix_tbs6.getD i []), ix_okB (96 + i) x = true := by
  intro i
  match i with
  | 0 => exact ok_X5_energyOf
  | 1 => exact ok_X5_energy
  | 2 => exact ok_X5_law
  | 3 => exact ok_X5_unlaw
  | 4 => exact ok_X5_missed
  | 5 => exact ok_X5_weighed
  | 6 => exact ok_X5_leastBy
  | 7 => exact ok_X5_isPull
  | 8 => exact ok_X5_best
  | 9 => exact ok_X5_many
  | 10 => exact ok_X5_bestAt
  | 11 => exact ok_X5_pull
  | 12 => exact ok_X5_mayBe
  | 13 => exact ok_X5_fixAll
  | 14 => exact ok_X5_fixed
  | 15 => exact ok_X5_floor
  | i + 16 => intro x hx; exact absurd hx (by simp [ix_tbs6])
theorem okh_7 : ∀ i, ∀ x ∈ (ix_tbs7.getD i []), ix_okB (112 + i) x = true := by
  intro i
  match i with
  | 0 => exact ok_X5_kill
  | 1 => exact ok_X5_chain
  | 2 => exact ok_X5_beside
  | 3 => exact ok_X5_firstOf
  | 4 => exact ok_X5_hangs
  | 5 => exact ok_X5_all
  | 6 => exact ok_X5_together
  | 7 => exact ok_X5_fails
  | 8 => exact ok_X5_stands
  | 9 => exact ok_X5_linkOf
  | 10 => exact ok_X5_link
  | 11 => exact ok_X5_spread
  | 12 => exact ok_X5_layGrid
  | 13 => exact ok_X5_energyOn
  | 14 => exact ok_X5_unlike
  | 15 => exact ok_X5_strong
  | i + 16 => intro x hx; exact absurd hx (by simp [ix_tbs7])
theorem okh_8 : ∀ i, ∀ x ∈ (ix_tbs8.getD i []), ix_okB (128 + i) x = true := by
  intro i
  match i with
  | 0 => exact ok_X5_readBack
  | 1 => exact ok_X5_turnOne
  | 2 => exact ok_X5_turn
  | 3 => exact ok_X5_cutOf
  | 4 => exact ok_X5_cut
  | 5 => exact ok_X5_walk
  | 6 => exact ok_X5_count
  | i + 7 => intro x hx; exact absurd hx (by simp [ix_tbs8])
theorem ix_tb_ok : ∀ k, ∀ x ∈ ix_tb k, ix_okB k x = true := by
  intro k
  have e : k = 16 * (k / 16) + k % 16 := (Nat.div_add_mod k 16).symm
  unfold ix_tb
  generalize hh : k / 16 = h at e ⊢
  generalize hl : k % 16 = i at e ⊢
  subst e
  match h with
  | 0 => exact okh_0 i
  | 1 => exact okh_1 i
  | 2 => exact okh_2 i
  | 3 => exact okh_3 i
  | 4 => exact okh_4 i
  | 5 => exact okh_5 i
  | 6 => exact okh_6 i
  | 7 => exact okh_7 i
  | 8 => exact okh_8 i
  | h + 9 => intro x hx; exact absurd hx (by simp [ix_tbs])
theorem ix_ok {k pc : Nat} {e : ix_E} (he : ix_lk k pc = some e) : decode (ix_c k) pc = .ok (e.1, ix_ln e) ∧ ix_okX k pc e = true := by
  have h := ix_lk_ok0 (ix_tb_ok k) he
  unfold ix_okB at h
  rw [Bool.and_eq_true, decide_eq_true_eq] at h
  exact h
theorem ix_mb {k : Nat} (hk : k < ix_N) : ix_mB k = true := by
  have hN : k < 135 := hk
  have e : k = 16 * (k / 16) + k % 16 := (Nat.div_add_mod k 16).symm
  have h2 : k % 16 < 16 := Nat.mod_lt _ (by decide)
  have h1 : k / 16 < 9 := by omega
  generalize hh : k / 16 = h at e h1
  generalize hl : k % 16 = i at e h2
  match h, h1 with
  | 0, _ => rw [e]; exact mb_0 i (by omega)
  | 1, _ => rw [e]; exact mb_1 i (by omega)
  | 2, _ => rw [e]; exact mb_2 i (by omega)
  | 3, _ => rw [e]; exact mb_3 i (by omega)
  | 4, _ => rw [e]; exact mb_4 i (by omega)
  | 5, _ => rw [e]; exact mb_5 i (by omega)
  | 6, _ => rw [e]; exact mb_6 i (by omega)
  | 7, _ => rw [e]; exact mb_7 i (by omega)
  | 8, _ => rw [e]; exact mb_8 i (by omega)
  | h + 9, h1 => exact absurd h1 (by omega)
theorem ix_uw0 : ∀ w ∈ wsX00, w ∈ ix_gw := by
  have h : ∀ w ∈ wsX00, (decide (w ∈ lw_tbl) && goodWord w) = true := by decide +kernel
  intro w hw
  have := h w hw
  rw [Bool.and_eq_true, decide_eq_true_eq] at this
  exact List.mem_filter.mpr this
theorem ix_uw1 : ∀ w ∈ wsX10, w ∈ ix_gw := by
  have h : ∀ w ∈ wsX10, (decide (w ∈ lw_tbl) && goodWord w) = true := by decide +kernel
  intro w hw
  have := h w hw
  rw [Bool.and_eq_true, decide_eq_true_eq] at this
  exact List.mem_filter.mpr this
theorem ix_uw2 : ∀ w ∈ wsX20, w ∈ ix_gw := by
  have h : ∀ w ∈ wsX20, (decide (w ∈ lw_tbl) && goodWord w) = true := by decide +kernel
  intro w hw
  have := h w hw
  rw [Bool.and_eq_true, decide_eq_true_eq] at this
  exact List.mem_filter.mpr this
theorem ix_uw3 : ∀ w ∈ wsX30, w ∈ ix_gw := by
  have h : ∀ w ∈ wsX30, (decide (w ∈ lw_tbl) && goodWord w) = true := by decide +kernel
  intro w hw
  have := h w hw
  rw [Bool.and_eq_true, decide_eq_true_eq] at this
  exact List.mem_filter.mpr this
theorem ix_uw4 : ∀ w ∈ wsX40, w ∈ ix_gw := by
  have h : ∀ w ∈ wsX40, (decide (w ∈ lw_tbl) && goodWord w) = true := by decide +kernel
  intro w hw
  have := h w hw
  rw [Bool.and_eq_true, decide_eq_true_eq] at this
  exact List.mem_filter.mpr this
theorem ix_uw5 : ∀ w ∈ wsX50, w ∈ ix_gw := by
  have h : ∀ w ∈ wsX50, (decide (w ∈ lw_tbl) && goodWord w) = true := by decide +kernel
  intro w hw
  have := h w hw
  rw [Bool.and_eq_true, decide_eq_true_eq] at this
  exact List.mem_filter.mpr this
theorem ix_uw {b : Nat} {C : String} {T : u_T} {N : Nat} (h : vwCl[b]? = some (C, T, N)) : ∀ w ∈ u_ws C T N, w ∈ ix_gw := by
  match b, h with
  | 0, h => cases h; exact ix_uw0
  | 1, h => cases h; exact ix_uw1
  | 2, h => cases h; exact ix_uw2
  | 3, h => cases h; exact ix_uw3
  | 4, h => cases h; exact ix_uw4
  | 5, h => cases h; exact ix_uw5
  | b + 6, h => exact absurd h (by simp)
theorem ix_ut {b : Nat} {C : String} {T : u_T} {N : Nat} (h : vwCl[b]? = some (C, T, N)) : (∃ ty : Nat → FieldType, ∀ k, k < N → parseFieldDescriptor (T k).2.2.1 = some (ty k)) ∧ (∀ x, x < N → ∀ y, y < N → x ≠ y → (T x).2.1 ≠ (T y).2.1) := by
  match b, h with
  | 0, h => cases h; exact ⟨⟨tyX0, tyX0_ok⟩, nmX0⟩
  | 1, h => cases h; exact ⟨⟨tyX1, tyX1_ok⟩, nmX1⟩
  | 2, h => cases h; exact ⟨⟨tyX2, tyX2_ok⟩, nmX2⟩
  | 3, h => cases h; exact ⟨⟨tyX3, tyX3_ok⟩, nmX3⟩
  | 4, h => cases h; exact ⟨⟨tyX4, tyX4_ok⟩, nmX4⟩
  | 5, h => cases h; exact ⟨⟨tyX5, tyX5_ok⟩, nmX5⟩
  | b + 6, h => exact absurd h (by simp)
end
section
/-! The small machine is sound: what it answers, the machine answers. -/
def ix_v (ad : Nat → Nat) : ix_V → Value
  | .inl x => .int x
  | .inr q => .ref (ad q)
def ix_ce (ad : Nat → Nat) (cA : ClassId) : ix_C → va_E
  | .inl (n, f) => .inl (cA, n, .inl f)
  | .inr (ci, fs) => .inr (ci, fs.map (ix_v ad))
def ix_mw (ad : Nat → Nat) (cA : ClassId) (w : ix_W) : va_W := w.mapIdx (fun q c => (ad q, ix_ce ad cA c))
theorem ix_v_cat (ad : Nat → Nat) (v : ix_V) : (ix_v ad v).category = 1 := by cases v <;> rfl
theorem ix_mw_at {ad : Nat → Nat} {cA : ClassId} {w : ix_W} {q : Nat} {c : ix_C} (h : w[q]? = some c) : (ix_mw ad cA w)[q]? = some (ad q, ix_ce ad cA c) := by
  unfold ix_mw
  rw [List.getElem?_mapIdx, h]
  rfl
theorem ix_mw_set (ad : Nat → Nat) (cA : ClassId) (w : ix_W) (q : Nat) (c : ix_C) : ix_mw ad cA (w.set q c) = (ix_mw ad cA w).set q (ad q, ix_ce ad cA c) := by
  apply List.ext_getElem?
  intro i
  unfold ix_mw
  rw [List.getElem?_mapIdx, List.getElem?_set, List.getElem?_set]
  by_cases hi : q = i
  · subst hi
    rw [if_pos rfl, if_pos rfl]
    by_cases hl : q < w.length
    · rw [if_pos hl, if_pos (by rw [List.length_mapIdx]; exact hl)]; rfl
    · rw [if_neg hl, if_neg (by rw [List.length_mapIdx]; exact hl)]; rfl
  · rw [if_neg hi, if_neg hi, List.getElem?_mapIdx]
/-- the locals -/
def ix_lv (ad : Nat → Nat) (ls : Array Slot) (nL : Nat) (L : ix_L) : Prop := L.length = nL ∧ ls.size = nL ∧ lv_wf ls ∧ ∀ (i : Nat) (v : ix_V), L[i]? = some (some v) → ls[i]? = some (.val (ix_v ad v))
def ix_as (ad : Nat → Nat) (L : ix_L) : List (Nat × Value) := (List.range L.length).filterMap (fun i => match L[i]? with
  | some (some v) => some (i, ix_v ad v)
  | _ => none)
theorem ix_as_in {ad : Nat → Nat} {L : ix_L} {q : Nat × Value} (h : q ∈ ix_as ad L) : ∃ v : ix_V, L[q.1]? = some (some v) ∧ q.2 = ix_v ad v := by
  unfold ix_as at h
  obtain ⟨i, -, hi⟩ := List.mem_filterMap.mp h
  split at hi
  · rename_i v hv
    cases hi
    exact ⟨v, hv, rfl⟩
  · cases hi
theorem ix_as_of {ad : Nat → Nat} {L : ix_L} {i : Nat} {v : ix_V} (h : L[i]? = some (some v)) : (i, ix_v ad v) ∈ ix_as ad L := by
  unfold ix_as
  refine List.mem_filterMap.mpr ⟨i, List.mem_range.mpr (List.getElem?_eq_some_iff.mp h).1, ?_⟩
  rw [h]
theorem ix_lv.has {ad : Nat → Nat} {ls : Array Slot} {nL : Nat} {L : ix_L} (h : ix_lv ad ls nL L) : lv_has ls nL (ix_as ad L) := ⟨h.2.1, h.2.2.1, fun q hq => by
  obtain ⟨v, h1, h2⟩ := ix_as_in hq
  rw [h2]
  exact h.2.2.2 _ _ h1⟩
theorem ix_lv.back {ad : Nat → Nat} {ls ls2 : Array Slot} {nL : Nat} {L : ix_L} {i : Nat} {x : ix_V} (h : ix_lv ad ls nL L) (hi : i < nL) (h2 : lv_has ls2 nL ((i, ix_v ad x) :: (ix_as ad L).filter (fun q => !(q.1 == i) && !(q.1 + 1 == i && q.2.category == 2)))) : ix_lv ad ls2 nL (L.set i (some x)) := by
  refine ⟨by rw [List.length_set]; exact h.1, h2.1, h2.2.1, fun j v hj => ?_⟩
  rw [List.getElem?_set] at hj
  by_cases hij : i = j
  · subst hij
    rw [if_pos rfl, if_pos (by rw [h.1]; exact hi)] at hj
    cases hj
    exact h2.2.2 _ List.mem_cons_self
  · rw [if_neg hij] at hj
    refine h2.2.2 (j, ix_v ad v) (List.mem_cons_of_mem _ (List.mem_filter.mpr ⟨ix_as_of hj, ?_⟩))
    have e1 : (j == i) = false := by simpa using fun q : j = i => hij q.symm
    simp [e1, ix_v_cat]
/-- the nest's words -/
def ix_isN : Cond → Bool
  | .methodLinkNest .. => true
  | _ => false
def ix_NW (U : State) : Prop := ∀ w ∈ lw_tbl, ix_isN w = true → va_Nw w U
theorem ix_NW.warm {s U : State} (hW : s.WarmedH U.vm) (h : ix_NW s) : ix_NW U := by
  intro w hw hi
  have h1 := h w hw hi
  cases w <;> first | exact va_Nw.warmM hW h1 | (simp [ix_isN] at hi; done)
theorem ix_NW.same {u U : State} (hvm : u.vm = U.vm) (h : ix_NW u) : ix_NW U := by
  intro w hw hi
  have h1 := h w hw hi
  cases w <;> first | exact va_Nw.same rfl hvm h1 | (simp [ix_isN] at hi; done)
def ix_rm (k : Nat) : Room := { frames := ix_rk k, cells := 0, slots := 0, locals := ix_lr k }
def ix_ws (k : Nat) : List Cond := .code (ix_y k) (ix_c k) (ix_ml k) (ix_r k) :: ix_gw
/-- what holds in a method's body -/
def ix_X (p : Program) (s : State) (m : MethodId) (args : Array Value) (meth : Method) (c : Code) (k : Nat) (dC : Nat → ClassId) (dI : Nat → Nat → Nat) (cA : ClassId) (A : Nat → Prop) : Prop :=
  p.tables.exec = Jvm.exec ∧ c.code = ix_c k ∧ c.maxLocals = ix_ml k ∧ meth.sig.returnType = ix_r k ∧ meth.locks = false ∧ s.vm.findClass (ix_y k).cls = some m.cls ∧ (∀ w ∈ ix_gw, w.before args s = true) ∧ va_K (dC, dI) vwCl [(cA, .int)] s ∧ ix_NW s ∧ (∀ q : Nat, s.heap.size ≤ q → A q) ∧ k < ix_N
/-- a method's end -/
def ix_Q (ad : Nat → Nat) (cA : ClassId) (dC : Nat → ClassId) (dI : Nat → Nat → Nat) (A : Nat → Prop) (r : Option ix_V) (w1 : ix_W) : Array Value → State → Outcome → State → Prop := fun _ st oc t =>
  oc = .returned (r.map (ix_v ad)) ∧ (va_P (dC, dI) vwCl (ix_mw ad cA w1) t.heap ∧ va_K (dC, dI) vwCl [(cA, .int)] t ∧ va_D A (ix_mw ad cA w1)) ∧ va_F A st t
def ix_Snd (l : Launch) (n : Nat) : Prop := ∀ (k pc : Nat) (L : ix_L) (st : List ix_V) (w : ix_W) (r : Option ix_V) (w1 : ix_W), ix_run n k pc L st w = some (r, w1) →
  ∀ (p : Program) (e : Env) (s : State) (m : MethodId) (args : Array Value) (below : List Frame) (meth : Method) (c : Code) (ad : Nat → Nat) (cA : ClassId) (dC : Nat → ClassId) (dI : Nat → Nat → Nat) (A : Nat → Prop), ix_X p s m args meth c k dC dI cA A →
  ∀ (H : Heap) (locs : List Loc) (ls : Array Slot), va_P (dC, dI) vwCl (ix_mw ad cA w) H → va_D A (ix_mw ad cA w) → va_S A s.heap H locs → ix_lv ad ls (ix_ml k) L →
  W p l e (ix_rm k) s m args below meth c H locs 0 0 (MQ below (ix_Q ad cA dC dI A r w1) args s 0 0 A) (F0 m pc ls (st.map (ix_v ad)))
/-- a contract's frame: the method of the class plainly named, or no native row -/
theorem ix_ofW {l : Launch} {y : MethodName} {ws ws' : List Cond} {rm : Room} {Pc : Array Value → State → Prop} {Qc : Array Value → State → Outcome → State → Prop} {mc ms : Nat} {free : Addr → Prop} {cc : ByteArray} {maxL : Nat} {ret : Option FieldType}
    (hy : plainFor y = true) (hw : ws = Cond.code y cc maxL ret :: ws')
    (body : ∀ p e s m args below meth c s₁, BodyLoose p l y (headSpec ws rm) cc maxL ret e s m args below meth c s₁ → c.maxLocals = maxL → Pc args s →
      W p l e (headSpec ws rm).room s m args below meth c s.heap [] 0 0 (MQ below Qc args s mc ms free) (entryFrame m args maxL)) : Met l y ws rm Pc Qc mc ms free := by
  refine MetFree.of_bodySF (code := cc) (maxLocals := maxL) (ret := ret) hy ?_ ?_
  · intro args s m h hn
    obtain ⟨meth, c, h1, h2, h3, h4, h5, h6, -, -⟩ := Cond.code_spec hn (atoms_spec (ws := ws) h _ (by rw [hw]; exact List.mem_cons_self))
    exact ⟨meth, c, h1, h2, h3, h4, h5, h6⟩
  · intro p e s m args below meth c s₁ B hml hP _
    have hh0 : s₁.heap = s.heap := by rw [B.state]; rfl
    obtain ⟨t, a1, o, b1, b2, b3⟩ := body p e s m args below meth c s₁ B hml hP s₁ hh0 (Stand.of_body B)
    exact ⟨t, o, a1, b1, b2, ⟨b3.1, b3.2⟩⟩
theorem ix_sl (ad : Nat → Nat) (as : List ix_V) : (lg_sl (as.map (ix_v ad))).length = as.length := by
  induction as with
  | nil => rfl
  | cons a r ih =>
    unfold lg_sl at ih ⊢
    rw [List.map_cons, List.flatMap_cons, List.length_append, ih, if_neg (by rw [ix_v_cat]; decide)]
    simp
    omega
theorem ix_args {ad : Nat → Nat} : ∀ (as : List ix_V) (o i : Nat) (v : ix_V), as[i]? = some v → (o + i, ix_v ad v) ∈ lv_args o (as.map (ix_v ad)) := by
  intro as
  induction as with
  | nil => intro o i v h; simp at h
  | cons a r ih =>
    intro o i v h
    rw [List.map_cons, lv_args]
    cases i with
    | zero =>
      rw [List.getElem?_cons_zero] at h
      cases h
      exact List.mem_cons_self
    | succ i =>
      rw [List.getElem?_cons_succ] at h
      have h1 := ih (o + 1) i v h
      refine List.mem_cons_of_mem _ ?_
      rw [ix_v_cat]
      rw [show o + (i + 1) = o + 1 + i by omega]
      exact h1
/-- a contract out of a run -/
theorem ix_met {l : Launch} {n : Nat} (hS : ix_Snd l n) {k : Nat} {as : List ix_V} {w w1 : ix_W} {r : Option ix_V} (hr : ix_run n k 0 (ix_en k as) [] w = some (r, w1)) (hk : k < ix_N) (hn : as.length ≤ ix_ml k) (ad : Nat → Nat) (cA : ClassId) (dC : Nat → ClassId) (dI : Nat → Nat → Nat) (sz : Nat) :
    Met l (ix_y k) (ix_ws k) (ix_rm k) (va_Pc (as.map (ix_v ad)) (fun U => U.heap.size = sz ∧ va_P (dC, dI) vwCl (ix_mw ad cA w) U.heap ∧ va_K (dC, dI) vwCl [(cA, .int)] U ∧ va_D (fun _ => True) (ix_mw ad cA w) ∧ ix_NW U)) (ix_Q ad cA dC dI (va_A (ix_mw ad cA w) sz) r w1) 0 0 (va_A (ix_mw ad cA w) sz) := by
  have hmb := ix_mb hk
  refine ix_ofW (cc := ix_c k) (maxL := ix_ml k) (ret := ix_r k) ?_ rfl ?_
  · unfold ix_mB at hmb
    simp only [Bool.and_eq_true] at hmb
    exact hmb.1.2
  · intro p e s m args below meth c s₁ B hml hv
    obtain ⟨rfl, hsz, hP, hK, hD0, hN⟩ := hv
    have hts := atoms_spec (ws := ix_ws k) B.pre
    have hown : s.vm.findClass (ix_y k).cls = some m.cls := findClass_of_methodNamed B.named
    subst hsz
    have hD := hD0.self (sz := s.heap.size)
    have hl := lv_entry (as.map (ix_v ad)) (n := ix_ml k) (by rw [ix_sl]; exact hn)
    rw [lg_entry_eq]
    generalize (lg_sl (as.map (ix_v ad)) ++ List.replicate (ix_ml k - (lg_sl (as.map (ix_v ad))).length) Slot.unset).toArray = ls at hl ⊢
    refine hS k 0 (ix_en k as) [] w r w1 hr p e s m _ below meth c ad cA dC dI _ ⟨B.exec, B.bytes, hml, B.returns, B.notSynchronized, hown, fun w hw => hts w (List.mem_cons_of_mem _ hw), hK, hN, fun q h => Or.inr h, hk⟩ s.heap [] ls hP hD va_S.rf ⟨?_, hl.1, hl.2.1, fun i v hi => ?_⟩
    · unfold ix_en
      rw [List.length_append, List.length_map, List.length_replicate]
      omega
    · have h1 : as[i]? = some v := by
        unfold ix_en at hi
        by_cases hlt : i < as.length
        · rw [List.getElem?_append_left (by rw [List.length_map]; exact hlt), List.getElem?_map] at hi
          cases ha : as[i]? with
          | none => rw [ha] at hi; cases hi
          | some u => rw [ha] at hi; cases hi; rfl
        · rw [List.getElem?_append_right (by rw [List.length_map]; omega)] at hi
          have := List.mem_of_getElem? hi
          rw [List.mem_replicate] at this
          exact absurd this.2 (by simp)
      have h2 := ix_args (ad := ad) as 0 i v h1
      rw [Nat.zero_add] at h2
      exact hl.2.2 _ h2
end
section
/-! one instruction of the small machine, on the machine -/
set_option maxHeartbeats 4000000 in
theorem ix_step {l : Launch} {p : Program} {e : Env} {s : State} {m : MethodId} {args : Array Value} {below : List Frame} {meth : Method} {c : Code} {ad : Nat → Nat} {cA : ClassId} {dC : Nat → ClassId} {dI : Nat → Nat → Nat} {A : Nat → Prop} {k : Nat} {Q : State → Prop} (X : ix_X p s m args meth c k dC dI cA A)
    {pc : Nat} {E : ix_E} (he : ix_lk k pc = some E) (hkd : ix_kd E = 0) {L : ix_L} {st : List ix_V} {w : ix_W} {pc1 : Nat} {L1 : ix_L} {st1 : List ix_V} {w1 : ix_W} (hst : ix_st pc E L st w = some (pc1, L1, st1, w1))
    {H : Heap} {locs : List Loc} {ls : Array Slot} (hP : va_P (dC, dI) vwCl (ix_mw ad cA w) H) (hD : va_D A (ix_mw ad cA w)) (hS : va_S A s.heap H locs) (hl : ix_lv ad ls (ix_ml k) L)
    (kk : ∀ (H1 : Heap) (locs1 : List Loc) (ls1 : Array Slot), va_P (dC, dI) vwCl (ix_mw ad cA w1) H1 → va_D A (ix_mw ad cA w1) → va_S A s.heap H1 locs1 → ix_lv ad ls1 (ix_ml k) L1 → W p l e (ix_rm k) s m args below meth c H1 locs1 0 0 Q (F0 m pc1 ls1 (st1.map (ix_v ad)))) :
    W p l e (ix_rm k) s m args below meth c H locs 0 0 Q (F0 m pc ls (st.map (ix_v ad))) := by
  obtain ⟨hx, hb, hml, hr, hlk, hown, hts, hK, hN, hA, hkN⟩ := X
  obtain ⟨hdg, hok⟩ := ix_ok he
  obtain ⟨i, nx, a, b, j, v⟩ := E
  dsimp only at hdg
  have push : ∀ {len : Nat} {x : Int32}, nx = pc + len → ix_push nx x L st w = some (pc1, L1, st1, w1) → W p l e (ix_rm k) s m args below meth c H locs 0 0 Q (F0 m (pc + len) ls (.int x :: st.map (ix_v ad))) := by
    intro len x hn h
    simp only [ix_push, Option.some.injEq, Prod.mk.injEq] at h
    obtain ⟨e1, e2, e3, e4⟩ := h
    subst e1 e2 e3 e4 hn
    exact kk H locs ls hP hD hS hl
  have store : ∀ {len : Nat}, nx = pc + len → ix_ist nx a L st w = some (pc1, L1, st1, w1) → ∃ (x : Int32) (r : List ix_V), st = .inl x :: r ∧ a < ix_ml k ∧ ∀ ls1, lv_has ls1 (ix_ml k) ((a, Value.int x) :: (ix_as ad L).filter (fun q => !(q.1 == a) && !(q.1 + 1 == a && q.2.category == 2))) → W p l e (ix_rm k) s m args below meth c H locs 0 0 Q (F0 m (pc + len) ls1 (r.map (ix_v ad))) := by
    intro len hn h
    unfold ix_ist at h
    split at h
    · rename_i x r
      split at h
      · rename_i ha
        simp only [Option.some.injEq, Prod.mk.injEq] at h
        obtain ⟨e1, e2, e3, e4⟩ := h
        subst e1 e2 e3 e4 hn
        rw [hl.1] at ha
        exact ⟨x, r, rfl, ha, fun ls1 h1 => kk H locs ls1 hP hD hS (hl.back (x := .inl x) ha h1)⟩
      · cases h
    · cases h
  have load : ∀ {len : Nat}, nx = pc + len → ix_ild nx a L st w = some (pc1, L1, st1, w1) → ∃ x : Int32, ls[a]? = some (.val (.int x)) ∧ W p l e (ix_rm k) s m args below meth c H locs 0 0 Q (F0 m (pc + len) ls (.int x :: st.map (ix_v ad))) := by
    intro len hn h
    unfold ix_ild at h
    split at h
    · rename_i x hx
      simp only [Option.some.injEq, Prod.mk.injEq] at h
      obtain ⟨e1, e2, e3, e4⟩ := h
      subst e1 e2 e3 e4 hn
      exact ⟨x, hl.2.2.2 _ _ hx, kk H locs ls hP hD hS hl⟩
    · cases h
  have bin : ∀ {f : Int32 → Int32 → Int32}, nx = pc + 1 → ix_bi f nx L st w = some (pc1, L1, st1, w1) → ∃ (x y : Int32) (r : List ix_V), st = .inl y :: .inl x :: r ∧ W p l e (ix_rm k) s m args below meth c H locs 0 0 Q (F0 m (pc + 1) ls (.int (f x y) :: r.map (ix_v ad))) := by
    intro f hn h
    unfold ix_bi at h
    split at h
    · rename_i y x r
      simp only [Option.some.injEq, Prod.mk.injEq] at h
      obtain ⟨e1, e2, e3, e4⟩ := h
      subst e1 e2 e3 e4 hn
      exact ⟨x, y, r, rfl, kk H locs ls hP hD hS hl⟩
    · cases h
  have div : ∀ {f : Int32 → Int32 → Int32}, nx = pc + 1 → ix_dv f nx L st w = some (pc1, L1, st1, w1) → ∃ (x y : Int32) (r : List ix_V), st = .inl y :: .inl x :: r ∧ ¬ y = 0 ∧ W p l e (ix_rm k) s m args below meth c H locs 0 0 Q (F0 m (pc + 1) ls (.int (f x y) :: r.map (ix_v ad))) := by
    intro f hn h
    unfold ix_dv at h
    split at h
    · rename_i y x r
      split at h
      · cases h
      · rename_i hy
        simp only [Option.some.injEq, Prod.mk.injEq] at h
        obtain ⟨e1, e2, e3, e4⟩ := h
        subst e1 e2 e3 e4 hn
        exact ⟨x, y, r, rfl, hy, kk H locs ls hP hD hS hl⟩
    · cases h
  cases i <;> first | (simp only [ix_st] at hst; cases hst; done) | skip
  all_goals simp only [ix_st] at hst
  all_goals simp only [ix_okX, Bool.and_eq_true, decide_eq_true_eq] at hok
  all_goals simp only [ix_ln] at hdg
  case iconst n => exact lv_iconst hx hb hdg hok.2 (push hok.1 hst)
  case bipush n => exact lv_bipush hx hb hdg hok.2 (push hok.1 hst)
  case sipush n => exact lv_sipush hx hb hdg hok.2 (push hok.1 hst)
  case ldc n => exact lv_ldc hx hb hown (hts _ (ix_wd_in hok.2)) hdg (push hok.1 hst)
  case ldc_w n => exact lv_ldcw hx hb hown (hts _ (ix_wd_in hok.2)) hdg (push hok.1 hst)
  case iload n =>
    obtain ⟨x, h1, h2⟩ := load hok.1 hst
    obtain ⟨-, h3⟩ := hok
    subst h3
    exact lv_iload hx hb hdg h1 h2
  case iload_n n =>
    obtain ⟨x, h1, h2⟩ := load hok.1 hst
    exact lv_iload_n hx hb hdg hok.2 h1 h2
  case aload_n n =>
    unfold ix_ald at hst
    split at hst
    · rename_i x hxx
      simp only [Option.some.injEq, Prod.mk.injEq] at hst
      obtain ⟨e1, e2, e3, e4⟩ := hst
      obtain ⟨h1, h2⟩ := hok
      subst e1 e2 e3 e4 h1
      exact lv_aload_n hx hb hdg h2 (hl.2.2.2 _ _ hxx) (kk H locs ls hP hD hS hl)
    · cases hst
  case istore n =>
    obtain ⟨x, r, e1, h1, h2⟩ := store hok.1 hst
    obtain ⟨-, h3⟩ := hok
    subst h3 e1
    exact lv_istore hx hb hdg hl.has h1 rfl h2
  case istore_n n =>
    obtain ⟨x, r, e1, h1, h2⟩ := store hok.1 hst
    subst e1
    exact lv_istore_n hx hb hdg hok.2 hl.has h1 rfl h2
  case iinc n d =>
    unfold ix_inc at hst
    split at hst
    · rename_i x hxx
      simp only [Option.some.injEq, Prod.mk.injEq] at hst
      obtain ⟨e1, e2, e3, e4⟩ := hst
      obtain ⟨h1, h2, h3⟩ := hok
      subst e1 e2 e3 e4 h1 h2 h3
      have hlt : n < ix_ml k := by rw [← hl.1]; exact (List.getElem?_eq_some_iff.mp hxx).1
      obtain ⟨q, hq⟩ := List.getElem?_of_mem (ix_as_of (ad := ad) hxx)
      exact lv_iinc hx hb hdg hl.has hq rfl hlt rfl (fun ls1 h9 => kk H locs ls1 hP hD hS (hl.back (x := .inl (x + Int32.ofInt d)) hlt h9))
    · cases hst
  case iadd => obtain ⟨x, y, r, e1, h1⟩ := bin hok hst; subst e1; exact lv_iadd hx hb hdg h1
  case isub => obtain ⟨x, y, r, e1, h1⟩ := bin hok hst; subst e1; exact lv_isub hx hb hdg h1
  case imul => obtain ⟨x, y, r, e1, h1⟩ := bin hok hst; subst e1; exact lv_imul hx hb hdg h1
  case iand => obtain ⟨x, y, r, e1, h1⟩ := bin hok hst; subst e1; exact lv_iand hx hb hdg h1
  case ior => obtain ⟨x, y, r, e1, h1⟩ := bin hok hst; subst e1; exact lv_ior hx hb hdg h1
  case ixor => obtain ⟨x, y, r, e1, h1⟩ := bin hok hst; subst e1; exact lv_ixor hx hb hdg h1
  case ishl => obtain ⟨x, y, r, e1, h1⟩ := bin hok hst; subst e1; exact lv_ishl hx hb hdg h1
  case ishr => obtain ⟨x, y, r, e1, h1⟩ := bin hok hst; subst e1; exact lv_ishr hx hb hdg h1
  case iushr => obtain ⟨x, y, r, e1, h1⟩ := bin hok hst; subst e1; exact lv_iushr hx hb hdg rfl h1
  case idiv => obtain ⟨x, y, r, e1, h0, h1⟩ := div hok hst; subst e1; exact lv_idiv hx hb hdg h0 h1
  case irem => obtain ⟨x, y, r, e1, h0, h1⟩ := div hok hst; subst e1; exact lv_irem hx hb hdg h0 h1
  case ineg =>
    unfold ix_un at hst
    split at hst
    · rename_i x r
      simp only [Option.some.injEq, Prod.mk.injEq] at hst
      obtain ⟨e1, e2, e3, e4⟩ := hst
      subst e1 e2 e3 e4 hok
      exact lv_ineg hx hb hdg (kk H locs ls hP hD hS hl)
    · cases hst
  case goto off =>
    simp only [Option.some.injEq, Prod.mk.injEq] at hst
    obtain ⟨e1, e2, e3, e4⟩ := hst
    subst e1 e2 e3 e4
    exact lv_goto hx hb hdg hok.2 (kk H locs ls hP hD hS hl)
  case ifCond cd off =>
    unfold ix_br1 at hst
    split at hst
    · rename_i x r
      simp only [Option.some.injEq, Prod.mk.injEq] at hst
      obtain ⟨e1, e2, e3, e4⟩ := hst
      obtain ⟨h1, h2⟩ := hok
      subst e2 e3 e4 h1
      have go := fun (z : pc1 = a) => (z ▸ kk H locs ls hP hD hS hl : W p l e (ix_rm k) s m args below meth c H locs 0 0 Q (F0 m a ls (r.map (ix_v ad))))
      have no := fun (z : pc1 = pc + 3) => (z ▸ kk H locs ls hP hD hS hl : W p l e (ix_rm k) s m args below meth c H locs 0 0 Q (F0 m (pc + 3) ls (r.map (ix_v ad))))
      cases cd <;> simp only [ix_t1] at e1
      · exact lv_if_eq hx hb hdg h2 (fun q => go (by rw [← e1, if_pos q])) (fun q => no (by rw [← e1, if_neg q]))
      · exact lv_if_ne hx hb hdg h2 (fun q => go (by rw [← e1, if_neg q])) (fun q => no (by rw [← e1, if_pos q]))
      · exact lv_if_lt hx hb hdg h2 (fun q => go (by rw [← e1, if_pos q])) (fun q => no (by rw [← e1, if_neg q]))
      · exact lv_if_ge hx hb hdg h2 (fun q => go (by rw [← e1, if_pos q])) (fun q => no (by rw [← e1, if_neg q]))
      · exact lv_if_gt hx hb hdg h2 (fun q => go (by rw [← e1, if_pos q])) (fun q => no (by rw [← e1, if_neg q]))
      · exact lv_if_le hx hb hdg h2 (fun q => go (by rw [← e1, if_pos q])) (fun q => no (by rw [← e1, if_neg q]))
    · cases hst
  case if_icmp cd off =>
    unfold ix_br2 at hst
    split at hst
    · rename_i y x r
      simp only [Option.some.injEq, Prod.mk.injEq] at hst
      obtain ⟨e1, e2, e3, e4⟩ := hst
      obtain ⟨h1, h2⟩ := hok
      subst e2 e3 e4 h1
      have go := fun (z : pc1 = a) => (z ▸ kk H locs ls hP hD hS hl : W p l e (ix_rm k) s m args below meth c H locs 0 0 Q (F0 m a ls (r.map (ix_v ad))))
      have no := fun (z : pc1 = pc + 3) => (z ▸ kk H locs ls hP hD hS hl : W p l e (ix_rm k) s m args below meth c H locs 0 0 Q (F0 m (pc + 3) ls (r.map (ix_v ad))))
      cases cd <;> simp only [ix_t2] at e1
      · exact lv_icmp_eq hx hb hdg h2 (fun q => go (by rw [← e1, if_pos q])) (fun q => no (by rw [← e1, if_neg q]))
      · exact lv_icmp_ne hx hb hdg h2 (fun q => go (by rw [← e1, if_neg q])) (fun q => no (by rw [← e1, if_pos q]))
      · exact lv_icmp_lt hx hb hdg h2 (fun q => go (by rw [← e1, if_pos q])) (fun q => no (by rw [← e1, if_neg q]))
      · exact lv_icmp_ge hx hb hdg h2 (fun q => go (by rw [← e1, if_pos q])) (fun q => no (by rw [← e1, if_neg q]))
      · exact lv_icmp_gt hx hb hdg h2 (fun q => go (by rw [← e1, if_pos q])) (fun q => no (by rw [← e1, if_neg q]))
      · exact lv_icmp_le hx hb hdg h2 (fun q => go (by rw [← e1, if_pos q])) (fun q => no (by rw [← e1, if_neg q]))
    · cases hst
  case getfield n =>
    obtain ⟨h1, h2⟩ := hok
    split at h2
    · rename_i C T N hC
      simp only [Bool.and_eq_true, decide_eq_true_eq] at h2
      unfold ix_get at hst
      split at hst
      · rename_i q r
        split at hst
        · rename_i ci fs hq
          split at hst
          · rename_i hcb
            split at hst
            · rename_i u hu
              simp only [Option.some.injEq, Prod.mk.injEq] at hst
              obtain ⟨e1, e2, e3, e4⟩ := hst
              subst e1 e2 e3 e4 h1 hcb
              exact va_get hx hb hts (ix_uw hC) hown hK hP q (ix_mw_at hq) hC a h2.1.1 (hts _ (ix_wd_in h2.2)) (fun _ h9 => h9) (v := ix_v ad u) (by rw [List.getElem?_map, hu]; rfl) hdg (kk H locs ls hP hD hS hl)
            · cases hst
          · cases hst
        · cases hst
      · cases hst
    · cases h2
  case putfield n =>
    obtain ⟨h1, h2⟩ := hok
    split at h2
    · rename_i C T N hC
      simp only [Bool.and_eq_true, decide_eq_true_eq] at h2
      unfold ix_put at hst
      split at hst
      · rename_i x q r
        split at hst
        · rename_i ci fs hq
          split at hst
          · rename_i hcb
            simp only [Option.some.injEq, Prod.mk.injEq] at hst
            obtain ⟨e1, e2, e3, e4⟩ := hst
            obtain ⟨hc1, hc2⟩ := hcb
            subst e1 e2 e3 e4 h1 hc1
            obtain ⟨⟨ty0, hty⟩, hnm⟩ := ix_ut hC
            have hd : parseFieldDescriptor (T a).2.2.1 = some .int := by rw [h2.1.2.1]; decide +kernel
            refine va_put hx hb hts (ix_uw hC) ty0 hty hnm hown hK hP hD hS q (ix_mw_at hq) hC a h2.1.1 (hts _ (ix_wd_in h2.2)) (fun _ h9 => h9) h2.1.2.2 (ty := .int) (v := .int x) hd rfl rfl (by rw [List.length_map]; exact hc2) hdg (fun H1 locs1 hP1 hD1 hS1 => ?_)
            have e : ix_mw ad cA (w.set q (.inr (ci, fs.set a (.inl x)))) = (ix_mw ad cA w).set q (ad q, .inr (ci, (fs.map (ix_v ad)).set a (.int x))) := by
              rw [ix_mw_set, ix_ce, List.map_set]; rfl
            exact kk H1 locs1 ls (by rw [e]; exact hP1) (by rw [e]; exact hD1) hS1 hl
          · cases hst
        · cases hst
      · cases hst
    · cases h2
  case iaload =>
    unfold ix_iald at hst
    split at hst
    · rename_i i q r
      split at hst
      · rename_i n f hq
        split at hst
        · cases hst
        · rename_i hin
          simp only [Option.some.injEq, Prod.mk.injEq] at hst
          obtain ⟨e1, e2, e3, e4⟩ := hst
          subst e1 e2 e3 e4 hok
          exact va_iald hx hb hK hP q 0 (ix_mw_at hq) rfl hin hdg (kk H locs ls hP hD hS hl)
      · cases hst
    · cases hst
  case iastore =>
    unfold ix_iast at hst
    split at hst
    · rename_i x i q r
      split at hst
      · rename_i n f hq
        split at hst
        · cases hst
        · rename_i hin
          simp only [Option.some.injEq, Prod.mk.injEq] at hst
          obtain ⟨e1, e2, e3, e4⟩ := hst
          subst e1 e2 e3 e4 hok
          refine va_iast hx hb hK hP hD hS q 0 (ix_mw_at hq) rfl hin hdg (fun H1 locs1 hP1 hD1 hS1 => ?_)
          have e : ix_mw ad cA (w.set q (.inl (n, upd f i.toNatClampNeg x))) = (ix_mw ad cA w).set q (ad q, .inl (cA, n, .inl (upd f i.toNatClampNeg x))) := by
            rw [ix_mw_set]; rfl
          exact kk H1 locs1 ls (by rw [e]; exact hP1) (by rw [e]; exact hD1) hS1 hl
      · cases hst
    · cases hst
  case arraylength =>
    unfold ix_alen at hst
    split at hst
    · rename_i q r
      split at hst
      · rename_i n f hq
        simp only [Option.some.injEq, Prod.mk.injEq] at hst
        obtain ⟨e1, e2, e3, e4⟩ := hst
        subst e1 e2 e3 e4 hok
        exact va_alen hx hb hK hP q 0 (ix_mw_at hq) rfl rfl hdg (kk H locs ls hP hD hS hl)
      · cases hst
    · cases hst
  case dup =>
    unfold ix_dup at hst
    split at hst
    · rename_i u r
      simp only [Option.some.injEq, Prod.mk.injEq] at hst
      obtain ⟨e1, e2, e3, e4⟩ := hst
      subst e1 e2 e3 e4 hok
      exact lv_dup hx hb hdg (ix_v_cat ad u) (kk H locs ls hP hD hS hl)
    · cases hst
  case dup2 =>
    unfold ix_dup2 at hst
    split at hst
    · rename_i u u2 r
      simp only [Option.some.injEq, Prod.mk.injEq] at hst
      obtain ⟨e1, e2, e3, e4⟩ := hst
      subst e1 e2 e3 e4 hok
      exact lv_dup2_11 hx hb hdg (ix_v_cat ad u) (ix_v_cat ad u2) (kk H locs ls hP hD hS hl)
    · cases hst
  case tableswitch d lo hi offs =>
    unfold ix_tsw at hst
    split at hst
    · rename_i x r
      split at hst
      · rename_i ho
        split at hst
        · rename_i h0
          simp only [Option.some.injEq, Prod.mk.injEq] at hst
          obtain ⟨e1, e2, e3, e4⟩ := hst
          subst e1 e2 e3 e4
          exact lv_tableOut hx hb hdg ho (Int.toNat_of_nonneg h0).symm (kk H locs ls hP hD hS hl)
        · cases hst
      · rename_i ho
        split at hst
        · rename_i off hoff
          split at hst
          · rename_i h0
            simp only [Option.some.injEq, Prod.mk.injEq] at hst
            obtain ⟨e1, e2, e3, e4⟩ := hst
            subst e1 e2 e3 e4
            exact lv_tableIn hx hb hdg (fun q => ho (Or.inl q)) (fun q => ho (Or.inr q)) hoff (Int.toNat_of_nonneg h0).symm (kk H locs ls hP hD hS hl)
          · cases hst
        · cases hst
    · cases hst
  all_goals exact absurd hkd (by simp [ix_kd])
end
section
/-! the small machine is sound: calls, returns, whole runs -/
theorem ix_call {p : Program} {l : Launch} {e : Env} {R : Room} {s : State} {m : MethodId} {args : Array Value} {below : List Frame} {meth : Method} {c : Code} {H : Heap} {locs : List Loc} {Q : State → Prop} {pc : Nat} {ls : Array Slot} {rest st0 : List Value} {a : Array Value} {A0 A1 : Nat → Prop} {H0 : Heap} {free : Addr → Prop}
    {ad : Nat → Nat} {cA : ClassId} {dC : Nat → ClassId} {dI : Nat → Nat → Nat} {r : Option ix_V} {w1 : ix_W} {cells slots : Nat}
    (hr : va_Run p l e R s m args below meth c H locs cells slots 0 0 (F0 m pc ls st0) rest (ix_Q ad cA dC dI A1 r w1 a) free) (hS : va_S A0 H0 H locs) (hA : ∀ q, q < H.size → A1 q → A0 q) (hf : ∀ q, free q → A0 q)
    (kk : ∀ (H1 : Heap) (locs1 : List Loc), va_P (dC, dI) vwCl (ix_mw ad cA w1) H1 → va_D A1 (ix_mw ad cA w1) → H.size ≤ H1.size → (∀ q : Nat, q < H.size → ¬ A1 q → H1[q]? = H[q]?) → va_S A0 H0 H1 locs1 → W p l e R s m args below meth c H1 locs1 cells slots Q (F0 m (pc + 3) ls ((r.map (ix_v ad)).toList ++ rest))) : W p l e R s m args below meth c H locs cells slots Q (F0 m pc ls st0) := by
  intro T hT X
  obtain ⟨v, st₀, t, T', L, h0, X', hL, e1, e2, ⟨hv, ⟨hp1, hp2, hp3⟩, hz, hk⟩, st⟩ := hr T hT X
  have hv : v = r.map (ix_v ad) := by simpa using hv
  subst hv
  rw [h0] at hz hk
  obtain ⟨t2, a1, b1⟩ := kk T'.heap (locs ++ L) (by rw [e1]; exact hp1) hp3 (by rw [e1]; exact hz) (fun q h1 h2 => by rw [e1]; exact hk q h1 h2)
    ⟨Nat.le_trans hS.1 (by rw [e1]; exact hz), fun q h1 h2 => by rw [e1, hk q (Nat.lt_of_lt_of_le h1 hS.1) (fun z => h2 (hA q (Nat.lt_of_lt_of_le h1 hS.1) z))]; exact hS.2.1 q h1 h2, fun q hq => by
      rcases List.mem_append.mp hq with h | h
      · exact hS.2.2 q h
      · exact hf _ (hL q h)⟩ T' rfl X'
  exact ⟨t2, st t2 a1, b1⟩
theorem ix_gw_good {w : Cond} (h : w ∈ ix_gw) : (w.onTables && w.keeps) = true ∨ ∃ ty, w = .arrayClass ty := good_of_word (List.mem_filter.mp h).2
theorem ix_good {k : Nat} (hc : .code (ix_y k) (ix_c k) (ix_ml k) (ix_r k) ∈ ix_gw) : GoodIn ix_gw (ix_ws k) := by
  intro w hw
  rcases List.mem_cons.mp hw with h | h
  · rw [h]; exact ⟨hc, ix_gw_good hc⟩
  · exact ⟨h, ix_gw_good h⟩
theorem ix_gd_of {k k2 r : Nat} (h : ix_gd k k2 r = true) : ix_rk k2 + 1 ≤ ix_rk k ∧ 8 + (ix_ml k2 + 11) + ix_lr k2 ≤ ix_lr k ∧ r ≤ 8 ∧ ix_na k2 ≤ ix_ml k2 := by
  unfold ix_gd at h
  simp only [Bool.and_eq_true] at h
  exact ⟨Nat.le_of_ble_eq_true h.1.1.1, Nat.le_of_ble_eq_true h.1.1.2, Nat.le_of_ble_eq_true h.1.2, Nat.le_of_ble_eq_true h.2⟩
theorem ix_sum (ad : Nat → Nat) (r : List ix_V) : ((r.map (ix_v ad)).map fun v => v.category).sum = r.length := by
  induction r with
  | nil => rfl
  | cons a r ih => rw [List.map_cons, List.map_cons, List.sum_cons, ih, ix_v_cat, List.length_cons]; omega
/-- what a method's row says -/
theorem ix_mbs {k : Nat} (hk : k < ix_N) : .code (ix_y k) (ix_c k) (ix_ml k) (ix_r k) ∈ ix_gw ∧ .initialized (ix_y k).cls ∈ ix_gw ∧ ((ix_y k).cls ≠ "java/lang/invoke/MethodHandle" ∧ (ix_y k).cls ≠ "java/lang/invoke/VarHandle") ∧ (ix_r k = if ix_rt k = 0 then none else if ix_rt k = 1 then some .int else some .boolean) ∧ ix_rt k ≤ 2 ∧ (ix_ci k = 99 → .static (ix_y k) ∈ ix_gw ∧ (parseMethodDescriptor (ix_y k).desc).map (fun d => d.parameters.length) = some (ix_na k)) ∧ (ix_ci k ≠ 99 → .instanceMethod (ix_y k) ∈ ix_gw ∧ .selects (ix_y k).cls (ix_y k) (ix_y k) ∈ ix_gw ∧ (parseMethodDescriptor (ix_y k).desc).map (fun d => d.parameters.length + 1) = some (ix_na k) ∧ ∃ q : vw_C, vwCl[ix_ci k]? = some q ∧ q.1 = (ix_y k).cls) := by
  have h := ix_mb hk
  unfold ix_mB at h
  simp only [Bool.and_eq_true, decide_eq_true_eq] at h
  obtain ⟨⟨⟨⟨⟨⟨h1, h2⟩, h3⟩, h4⟩, h5⟩, h6⟩, h7⟩ := h
  refine ⟨ix_wd_in h1, ix_wd_in h2, h3, h4, h5, fun hc => ?_, fun hc => ?_⟩
  · rw [if_pos hc] at h7
    simp only [Bool.and_eq_true, decide_eq_true_eq] at h7
    exact ⟨ix_wd_in h7.1, h7.2⟩
  · rw [if_neg hc] at h7
    simp only [Bool.and_eq_true, decide_eq_true_eq] at h7
    refine ⟨ix_wd_in h7.1.1.1, ix_wd_in h7.1.1.2, h7.1.2, ?_⟩
    have h8 := h7.2
    split at h8
    · rename_i C T N hC
      exact ⟨_, hC, of_decide_eq_true h8⟩
    · cases h8
set_option maxHeartbeats 4000000 in
theorem ix_sound (l : Launch) : ∀ n, ix_Snd l n := by
  intro n
  induction n with
  | zero => intro k pc L st w r w1 h; exact absurd h (by simp [ix_run])
  | succ n ih =>
    intro k pc L st w r w1 h p e s m args below meth c ad cA dC dI A X H locs ls hP hD hS hl
    rw [ix_run] at h
    cases he : ix_lk k pc with
    | none => rw [he] at h; cases h
    | some E =>
      rw [he] at h
      dsimp only at h
      split at h
      · rename_i hkd
        obtain ⟨z, h1, h2⟩ := Option.bind_eq_some_iff.mp h
        exact ix_step X he hkd (pc1 := z.1) (L1 := z.2.1) (st1 := z.2.2.1) (w1 := z.2.2.2) h1 hP hD hS hl (fun H1 locs1 ls1 hP1 hD1 hS1 hl1 => ih _ _ _ _ _ _ _ h2 p e s m args below meth c ad cA dC dI A X H1 locs1 ls1 hP1 hD1 hS1 hl1)
      · rename_i hkd
        obtain ⟨hx, hb, hml, hr, hlk, hown, hts, hK, hN, hA, hkN⟩ := X
        obtain ⟨-, -, -, hrt, -, -⟩ := ix_mbs hkN
        obtain ⟨hdg, hok⟩ := ix_ok he
        obtain ⟨i, nx, a, b, j, v⟩ := E
        have hi : i = .ireturn := by
          cases i <;> first | rfl | (simp [ix_kd] at hkd; done)
        subst hi
        simp only [ix_ln] at hdg
        unfold ix_iret at h
        split at h
        · rename_i x
          split at h
          · rename_i hc
            cases h
            rw [hrt] at hr
            have fin : ∀ t : State, t.heap = H → s.WarmedH t.vm → ix_Q ad cA dC dI A (some (.inl x)) w args s (.returned (some (.int x))) t := fun t ht hW => ⟨rfl, ⟨by rw [ht]; exact hP, va_K.moved hW.alike hK, hD⟩, hS.F ht⟩
            rcases hc with h1 | ⟨h1, h2⟩
            · rw [if_neg (by rw [h1]; decide), if_pos h1] at hr
              exact W.iret (v := x) hx hb hr fin hS.2.2 hdg hlk
            · rw [if_neg (by rw [h1]; decide), if_neg (by rw [h1]; decide)] at hr
              exact W.zret (v := x) hx hb hr (by rcases h2 with rfl | rfl <;> rfl) fin hS.2.2 hdg hlk
          · cases h
        · cases h
      · rename_i hkd
        obtain ⟨hx, hb, hml, hr, hlk, hown, hts, hK, hN, hA, hkN⟩ := X
        obtain ⟨-, -, -, hrt, -, -⟩ := ix_mbs hkN
        obtain ⟨hdg, hok⟩ := ix_ok he
        obtain ⟨i, nx, a, b, j, v⟩ := E
        have hi : i = .return_ := by
          cases i <;> first | rfl | (simp [ix_kd] at hkd; done)
        subst hi
        simp only [ix_ln] at hdg
        unfold ix_vret at h
        split at h
        · split at h
          · rename_i hc
            cases h
            rw [hrt, if_pos hc] at hr
            exact W.vret hx hb hr (fun t ht hW => ⟨rfl, ⟨by rw [ht]; exact hP, va_K.moved hW.alike hK, hD⟩, hS.F ht⟩) hS.2.2 hdg hlk
          · cases h
        · cases h
      · rename_i hkd
        have X0 := X
        obtain ⟨hx, hb, hml, hr, hlk, hown, hts, hK, hN, hA, hkN⟩ := X
        obtain ⟨hdg, hok⟩ := ix_ok he
        obtain ⟨z, h1, h2⟩ := Option.bind_eq_some_iff.mp h
        obtain ⟨y, h3, h4⟩ := Option.bind_eq_some_iff.mp h2
        obtain ⟨i, nx, a, b, j, v⟩ := E
        obtain ⟨ix, hi⟩ : ∃ ix, i = .invokestatic ix := by
          cases i <;> first | exact ⟨_, rfl⟩ | (simp [ix_kd] at hkd; done)
        subst hi
        simp only [ix_ln] at hdg
        simp only [ix_okX, Bool.and_eq_true, decide_eq_true_eq] at hok
        dsimp only at h1 h3 h4
        obtain ⟨⟨hnx, haN⟩, hlink⟩ := hok
        unfold ix_cs at h1
        split at h1
        · rename_i hg
          cases h1
          obtain ⟨hg1, hg2, hg3⟩ := hg
          obtain ⟨g1, g2, g3, g4⟩ := ix_gd_of hg3
          obtain ⟨b1, b2, b3, -, -, b5, -⟩ := ix_mbs haN
          obtain ⟨b6, b7⟩ := b5 hg2
          have hlen : (st.take (ix_na a)).reverse.length = ix_na a := by rw [List.length_reverse]; exact hg1
          have hM := ix_met ih (r := y.1) (w1 := y.2) h3 haN (by rw [hlen]; exact g4) ad cA dC dI H.size
          have hstk : st.map (ix_v ad) = ((st.take (ix_na a)).reverse.map (ix_v ad)).reverse ++ (st.drop (ix_na a)).map (ix_v ad) := by
            rw [← List.map_reverse, List.reverse_reverse, ← List.map_append, List.take_append_drop]
          have hblind : FrameBlind (va_Pc ((st.take (ix_na a)).reverse.map (ix_v ad)) (fun U => U.heap.size = H.size ∧ va_P (dC, dI) vwCl (ix_mw ad cA w) U.heap ∧ va_K (dC, dI) vwCl [(cA, .int)] U ∧ va_D (fun _ => True) (ix_mw ad cA w) ∧ ix_NW U)) := fun a U g mk q => by
            obtain ⟨q0, q1, qP, qK, qD, qN⟩ := q
            exact ⟨q0, q1, qP, va_K.moved (u := U) (U := U.calling g mk a) (Vm.Alike.refl U.vm) qK, qD, ix_NW.same (u := U) (U := U.calling g mk a) rfl qN⟩
          have hpre : PreS s H (va_Pc ((st.take (ix_na a)).reverse.map (ix_v ad)) (fun U => U.heap.size = H.size ∧ va_P (dC, dI) vwCl (ix_mw ad cA w) U.heap ∧ va_K (dC, dI) vwCl [(cA, .int)] U ∧ va_D (fun _ => True) (ix_mw ad cA w) ∧ ix_NW U)) ((st.take (ix_na a)).reverse.map (ix_v ad)) := ⟨hblind, fun U hU hW => ⟨rfl, by rw [hU], by rw [hU]; exact hP, va_K.moved hW.alike hK, hD.weaken (fun _ _ _ _ => trivial), hN.warm hW⟩⟩
          have hF : ∀ q, va_A (ix_mw ad cA w) H.size q → A q := by
            intro q hq
            rcases hq with ⟨k1, e1, hq⟩ | hq
            · exact hD.2 k1 _ hq
            · exact hA q (Nat.le_trans hS.1 hq)
          have hrun : va_Run p l e (ix_rm k) s m args below meth c H locs 0 0 0 0 (F0 m pc ls (st.map (ix_v ad))) ((st.drop (ix_na a)).map (ix_v ad)) (ix_Q ad cA dC dI (va_A (ix_mw ad cA w) H.size) y.1 y.2 ((st.take (ix_na a)).reverse.map (ix_v ad)).toArray) (va_A (ix_mw ad cA w) H.size) := by
            by_cases hb1 : b = 1
            · rw [if_pos hb1] at hlink
              refine va_runSN (n := ix_na a) (bytes := ix_c a) (maxL := ix_ml a) (ret := ix_r a) (nL := ix_ml k) ⟨hx, hb, hml, hown, hts⟩ hM ⟨va_cnB (ix_na a) hts (ix_good b1) rfl rfl rfl (hN _ (ix_wn_in hlink) rfl) (hts _ b2) ⟨b3.1, b3.2, b7⟩ ⟨g1, g2⟩, hts _ b6, trivial⟩ hpre rfl (by rw [List.length_map]; exact hlen) hl.2.1 hstk (lv_room (by rw [ix_sum]; exact g3)) hdg ⟨Nat.le_refl 0, Nat.le_refl 0⟩
            · rw [if_neg hb1] at hlink
              refine va_runS (n := ix_na a) (bytes := ix_c a) (maxL := ix_ml a) (ret := ix_r a) (nL := ix_ml k) ⟨hx, hb, hml, hown, hts⟩ hM ⟨callB_of (ix_na a) hts (ix_good b1) rfl rfl rfl (hts _ b2) (hts _ (ix_wd_in hlink)) ⟨b3.1, b3.2, b7⟩ ⟨g1, g2⟩, hts _ b6⟩ hpre rfl (by rw [List.length_map]; exact hlen) hl.2.1 hstk (lv_room (by rw [ix_sum]; exact g3)) hdg ⟨Nat.le_refl 0, Nat.le_refl 0⟩
          refine ix_call hrun hS (fun q _ h => hF q h) hF (fun H1 locs1 hP1 hD1 hz1 hk1 hS1 => ?_)
          subst hnx
          have hstk2 : (y.1.map (ix_v ad)).toList ++ (st.drop (ix_na a)).map (ix_v ad) = (y.1.toList ++ st.drop (ix_na a)).map (ix_v ad) := by
            cases y.1 <;> simp
          rw [hstk2]
          exact ih _ _ _ _ _ _ _ h4 p e s m args below meth c ad cA dC dI A X0 H1 locs1 ls hP1 (hD1.weaken (fun _ q _ h => hF q.1 h)) hS1 hl
        · cases h1
      · rename_i k0 k1 k2 k3
        have X0 := X
        obtain ⟨hx, hb, hml, hr, hlk, hown, hts, hK, hN, hA, hkN⟩ := X
        obtain ⟨hdg, hok⟩ := ix_ok he
        obtain ⟨z, h1, h2⟩ := Option.bind_eq_some_iff.mp h
        obtain ⟨y, h3, h4⟩ := Option.bind_eq_some_iff.mp h2
        obtain ⟨i, nx, a, b, j, v⟩ := E
        obtain ⟨ix, hi⟩ : ∃ ix, i = .invokevirtual ix := by
          cases i <;> first | exact ⟨_, rfl⟩ | exact absurd rfl k0 | exact absurd rfl k1 | exact absurd rfl k2 | exact absurd rfl k3
        subst hi
        simp only [ix_ln] at hdg
        simp only [ix_okX, Bool.and_eq_true, decide_eq_true_eq] at hok
        dsimp only at h1 h3 h4
        obtain ⟨⟨hnx, haN⟩, hlink⟩ := hok
        unfold ix_cv at h1
        split at h1
        · rename_i hg
          obtain ⟨hg1, hg3⟩ := hg
          obtain ⟨g1, g2, g3, g4⟩ := ix_gd_of hg3
          obtain ⟨b1, b2, b3, -, -, -, b5⟩ := ix_mbs haN
          have hlen : (st.take (ix_na a)).reverse.length = ix_na a := by rw [List.length_reverse]; exact hg1
          split at h1
          · rename_i q as has
            split at h1
            · rename_i ci fs hq
              split at h1
              · rename_i hci
                cases h1
                dsimp only at h3 h4
                have hc99 : ix_ci a ≠ 99 := by
                  intro h99
                  obtain ⟨rr, hr1, -⟩ := hP q _ (ix_mw_at hq)
                  have hlt : ci < 6 := (List.getElem?_eq_some_iff.mp hr1).1
                  omega
                obtain ⟨b6, b8, b7, qc, hqc, hqy⟩ := b5 hc99
                rw [has] at hlen
                rw [List.length_cons] at hlen
                have hpar : (parseMethodDescriptor (ix_y a).desc).map (fun d => d.parameters.length) = some as.length := by
                  cases hpd : parseMethodDescriptor (ix_y a).desc with
                  | none => rw [hpd] at b7; cases b7
                  | some d =>
                    rw [hpd] at b7
                    have : d.parameters.length + 1 = ix_na a := Option.some.inj b7
                    show some d.parameters.length = some as.length
                    rw [show d.parameters.length = as.length by omega]
                have hM := ix_met ih (r := y.1) (w1 := y.2) h3 haN (by rw [List.length_cons, hlen]; exact g4) ad cA dC dI H.size
                have hstk : st.map (ix_v ad) = (as.map (ix_v ad)).reverse ++ Value.ref (ad q) :: (st.drop (ix_na a)).map (ix_v ad) := by
                  have e1 : st.take (ix_na a) = as.reverse ++ [.inr q] := by
                    rw [← List.reverse_reverse (st.take (ix_na a)), has, List.reverse_cons]
                  have e2 : st = as.reverse ++ [.inr q] ++ st.drop (ix_na a) := by rw [← e1, List.take_append_drop]
                  have e3 : st.map (ix_v ad) = (as.reverse ++ [(Sum.inr q : ix_V)] ++ st.drop (ix_na a)).map (ix_v ad) := congrArg _ e2
                  rw [e3]
                  simp [ix_v]
                have hblind : FrameBlind (va_Pc ((Sum.inr q :: as).map (ix_v ad)) (fun U => U.heap.size = H.size ∧ va_P (dC, dI) vwCl (ix_mw ad cA w) U.heap ∧ va_K (dC, dI) vwCl [(cA, .int)] U ∧ va_D (fun _ => True) (ix_mw ad cA w) ∧ ix_NW U)) := fun a U g mk q => by
                  obtain ⟨q0, q1, qP, qK, qD, qN⟩ := q
                  exact ⟨q0, q1, qP, va_K.moved (u := U) (U := U.calling g mk a) (Vm.Alike.refl U.vm) qK, qD, ix_NW.same (u := U) (U := U.calling g mk a) rfl qN⟩
                have hpre : PreV s H (ix_y a).cls (ad q) (va_Pc ((Sum.inr q :: as).map (ix_v ad)) (fun U => U.heap.size = H.size ∧ va_P (dC, dI) vwCl (ix_mw ad cA w) U.heap ∧ va_K (dC, dI) vwCl [(cA, .int)] U ∧ va_D (fun _ => True) (ix_mw ad cA w) ∧ ix_NW U)) (as.map (ix_v ad)) := ⟨hblind, by rw [← hqy]; exact va_recv hK hP hqc (by rw [← hci]; exact ix_mw_at hq), fun U hU hW => ⟨rfl, by rw [hU], by rw [hU]; exact hP, va_K.moved hW.alike hK, hD.weaken (fun _ _ _ _ => trivial), hN.warm hW⟩⟩
                have hF : ∀ q, va_A (ix_mw ad cA w) H.size q → A q := by
                  intro q hq
                  rcases hq with ⟨k1, e1, hq⟩ | hq
                  · exact hD.2 k1 _ hq
                  · exact hA q (Nat.le_trans hS.1 hq)
                have hrun : va_Run p l e (ix_rm k) s m args below meth c H locs 0 0 0 0 (F0 m pc ls (st.map (ix_v ad))) ((st.drop (ix_na a)).map (ix_v ad)) (ix_Q ad cA dC dI (va_A (ix_mw ad cA w) H.size) y.1 y.2 (Value.ref (ad q) :: as.map (ix_v ad)).toArray) (va_A (ix_mw ad cA w) H.size) :=
                  va_runV (n := as.length) (bytes := ix_c a) (maxL := ix_ml a) (ret := ix_r a) (nL := ix_ml k) ⟨hx, hb, hml, hown, hts⟩ hM ⟨callB_of as.length hts (ix_good b1) rfl rfl rfl (hts _ b2) (hts _ (ix_wd_in hlink)) ⟨b3.1, b3.2, hpar⟩ ⟨g1, g2⟩, hts _ b6, hts _ b8⟩ hpre rfl (by rw [List.length_map]) hl.2.1 hstk (lv_room (by rw [ix_sum]; exact g3)) hdg ⟨Nat.le_refl 0, Nat.le_refl 0⟩
                refine ix_call hrun hS (fun q _ h => hF q h) hF (fun H1 locs1 hP1 hD1 hz1 hk1 hS1 => ?_)
                subst hnx
                have hstk2 : (y.1.map (ix_v ad)).toList ++ (st.drop (ix_na a)).map (ix_v ad) = (y.1.toList ++ st.drop (ix_na a)).map (ix_v ad) := by
                  cases y.1 <;> simp
                rw [hstk2]
                exact ih _ _ _ _ _ _ _ h4 p e s m args below meth c ad cA dC dI A X0 H1 locs1 ls hP1 (hD1.weaken (fun _ q _ h => hF q.1 h)) hS1 hl
              · cases h1
            · cases h1
          · cases h1
        · cases h1
end
section
/-! runs of the small machine, without their fuel -/
def Ev (k pc : Nat) (L : ix_L) (st : List ix_V) (w : ix_W) (x : Option ix_V × ix_W) : Prop := ∃ n, ix_run n k pc L st w = some x
/-- a call of method k -/
def Cl (k : Nat) (as : List ix_V) (w : ix_W) (r : Option ix_V) (w1 : ix_W) : Prop := Ev k 0 (ix_en k as) [] w (r, w1)
def ix_sn : Nat → Nat → ix_S → Option ix_S
  | 0, _, z => some z
  | n + 1, k, z => match ix_lk k z.1 with
    | some e => match ix_kd e with
      | 0 => (ix_st z.1 e z.2.1 z.2.2.1 z.2.2.2).bind (ix_sn n k)
      | _ => none
    | none => none
theorem Ev.go {k pc pc1 : Nat} {L L1 : ix_L} {st st1 : List ix_V} {w w1 : ix_W} {x : Option ix_V × ix_W} (n : Nat) (h : ix_sn n k (pc, L, st, w) = some (pc1, L1, st1, w1)) (kk : Ev k pc1 L1 st1 w1 x) : Ev k pc L st w x := by
  induction n generalizing pc L st w with
  | zero =>
    rw [ix_sn] at h
    cases h
    exact kk
  | succ n ih =>
    rw [ix_sn] at h
    dsimp only at h
    split at h
    · rename_i e he
      split at h
      · rename_i hk
        obtain ⟨z, h1, h2⟩ := Option.bind_eq_some_iff.mp h
        obtain ⟨f, hf⟩ := ih (pc := z.1) (L := z.2.1) (st := z.2.2.1) (w := z.2.2.2) h2
        refine ⟨f + 1, ?_⟩
        rw [ix_run, he]
        dsimp only
        rw [hk]
        show Option.bind _ _ = _
        rw [h1]
        exact hf
      · cases h
    · cases h
theorem Ev.if_ {k pc1 pc2 : Nat} {c : Prop} {L : ix_L} {st : List ix_V} {w : ix_W} {x : Option ix_V × ix_W} {d : Decidable c} (h1 : c → Ev k pc1 L st w x) (h2 : ¬ c → Ev k pc2 L st w x) : Ev k (@ite _ c d pc1 pc2) L st w x := by
  by_cases hc : c
  · rw [if_pos hc]; exact h1 hc
  · rw [if_neg hc]; exact h2 hc
theorem Ev.tt {k pc1 pc2 : Nat} {c : Prop} {L : ix_L} {st : List ix_V} {w : ix_W} {x : Option ix_V × ix_W} {d : Decidable c} (hc : c) (h1 : Ev k pc1 L st w x) : Ev k (@ite _ c d pc1 pc2) L st w x := by
  rw [if_pos hc]; exact h1
theorem Ev.ff {k pc1 pc2 : Nat} {c : Prop} {L : ix_L} {st : List ix_V} {w : ix_W} {x : Option ix_V × ix_W} {d : Decidable c} (hc : ¬ c) (h1 : Ev k pc2 L st w x) : Ev k (@ite _ c d pc1 pc2) L st w x := by
  rw [if_neg hc]; exact h1
theorem Ev.iret {k pc : Nat} {L : ix_L} {v : Int32} {w : ix_W} {E : ix_E} {r : ix_V} (he : ix_lk k pc = some E) (hk : ix_kd E = 1) (hv : .inl v = r) (hr : ix_rt k = 1) : Ev k pc L [.inl v] w (some r, w) := ⟨1, by
  subst hv
  rw [ix_run, he]
  dsimp only
  rw [hk]
  show ix_iret k _ _ = _
  rw [ix_iret, if_pos (Or.inl hr)]⟩
theorem Ev.zret {k pc : Nat} {L : ix_L} {v : Int32} {w : ix_W} {E : ix_E} {r : ix_V} (he : ix_lk k pc = some E) (hk : ix_kd E = 1) (hv : .inl v = r) (hr : ix_rt k = 2) (h01 : v = 0 ∨ v = 1) : Ev k pc L [.inl v] w (some r, w) := ⟨1, by
  subst hv
  rw [ix_run, he]
  dsimp only
  rw [hk]
  show ix_iret k _ _ = _
  rw [ix_iret, if_pos (Or.inr ⟨hr, h01⟩)]⟩
theorem Ev.vret {k pc : Nat} {L : ix_L} {w : ix_W} {E : ix_E} (he : ix_lk k pc = some E) (hk : ix_kd E = 2) (hr : ix_rt k = 0) : Ev k pc L [] w (none, w) := ⟨1, by
  rw [ix_run, he]
  dsimp only
  rw [hk]
  show ix_vret k _ _ = _
  rw [ix_vret, if_pos hr]⟩
theorem Ev.st1 {k pc pc1 : Nat} {L L1 : ix_L} {st st1 : List ix_V} {w w1 : ix_W} {x : Option ix_V × ix_W} {E : ix_E} (he : ix_lk k pc = some E) (hk : ix_kd E = 0) (hs : ix_st pc E L st w = some (pc1, L1, st1, w1)) (kk : Ev k pc1 L1 st1 w1 x) : Ev k pc L st w x := by
  obtain ⟨m, hm⟩ := kk
  refine ⟨m + 1, ?_⟩
  rw [ix_run, he]
  dsimp only
  rw [hk]
  rw [hs]
  exact hm
theorem Ev.ald {k pc : Nat} {L : ix_L} {st : List ix_V} {w : ix_W} {x : Option ix_V × ix_W} {nx a0 b0 j0 : Nat} {v0 : Int32} {q n a : Nat} {f : Nat → Int32} (he : ix_lk k pc = some (.iaload, nx, a0, b0, j0, v0)) (hq : w[q]? = some (.inl (n, f))) (ha : a < n) (hn : n < 2 ^ 31) (kk : Ev k nx L (.inl (f a) :: st) w x) : Ev k pc L (.inl (nI a) :: .inr q :: st) w x := by
  refine Ev.st1 he rfl ?_ kk
  simp only [ix_st, ix_iald]
  rw [hq]
  dsimp only
  rw [if_neg (nI_in ha hn), nI_clamp (Nat.lt_trans ha hn)]
theorem Ev.ast {k pc : Nat} {L : ix_L} {st : List ix_V} {w : ix_W} {x : Option ix_V × ix_W} {nx a0 b0 j0 : Nat} {v0 : Int32} {q n a : Nat} {f : Nat → Int32} {y : Int32} (he : ix_lk k pc = some (.iastore, nx, a0, b0, j0, v0)) (hq : w[q]? = some (.inl (n, f))) (ha : a < n) (hn : n < 2 ^ 31) (kk : Ev k nx L st (w.set q (.inl (n, upd f a y))) x) : Ev k pc L (.inl y :: .inl (nI a) :: .inr q :: st) w x := by
  refine Ev.st1 he rfl ?_ kk
  simp only [ix_st, ix_iast]
  rw [hq]
  dsimp only
  rw [if_neg (nI_in ha hn), nI_clamp (Nat.lt_trans ha hn)]
theorem Ev.dv {k pc : Nat} {L : ix_L} {st : List ix_V} {w : ix_W} {z : Option ix_V × ix_W} {nx a0 b0 j0 : Nat} {v0 x y : Int32} (he : ix_lk k pc = some (.idiv, nx, a0, b0, j0, v0)) (hy : y ≠ 0) (kk : Ev k nx L (.inl (x / y) :: st) w z) : Ev k pc L (.inl y :: .inl x :: st) w z := by
  refine Ev.st1 he rfl ?_ kk
  simp only [ix_st, ix_dv]
  rw [if_neg hy]
theorem Ev.rm {k pc : Nat} {L : ix_L} {st : List ix_V} {w : ix_W} {z : Option ix_V × ix_W} {nx a0 b0 j0 : Nat} {v0 x y : Int32} (he : ix_lk k pc = some (.irem, nx, a0, b0, j0, v0)) (hy : y ≠ 0) (kk : Ev k nx L (.inl (x - x / y * y) :: st) w z) : Ev k pc L (.inl y :: .inl x :: st) w z := by
  refine Ev.st1 he rfl ?_ kk
  simp only [ix_st, ix_dv]
  rw [if_neg hy]
theorem Ev.callS {k pc : Nat} {L : ix_L} {st rest : List ix_V} {w w1 : ix_W} {x : Option ix_V × ix_W} {i nx k2 b0 j0 : Nat} {v0 : Int32} {as : List ix_V} {r : Option ix_V} (he : ix_lk k pc = some (.invokestatic i, nx, k2, b0, j0, v0)) (hs : ix_cs k k2 st = some (as, rest)) (hc : Cl k2 as w r w1) (kk : Ev k nx L (r.toList ++ rest) w1 x) : Ev k pc L st w x := by
  obtain ⟨m, hm⟩ := kk
  obtain ⟨m2, hm2⟩ := hc
  refine ⟨max m m2 + 1, ?_⟩
  rw [ix_run, he]
  simp only [ix_kd]
  rw [hs]
  simp only [Option.bind_some]
  rw [ix_mono (Nat.le_max_right m m2) hm2]
  exact ix_mono (Nat.le_max_left m m2) hm
theorem Ev.callV {k pc : Nat} {L : ix_L} {st rest : List ix_V} {w w1 : ix_W} {x : Option ix_V × ix_W} {i nx k2 b0 j0 : Nat} {v0 : Int32} {as : List ix_V} {r : Option ix_V} (he : ix_lk k pc = some (.invokevirtual i, nx, k2, b0, j0, v0)) (hs : ix_cv k k2 st w = some (as, rest)) (hc : Cl k2 as w r w1) (kk : Ev k nx L (r.toList ++ rest) w1 x) : Ev k pc L st w x := by
  obtain ⟨m, hm⟩ := kk
  obtain ⟨m2, hm2⟩ := hc
  refine ⟨max m m2 + 1, ?_⟩
  rw [ix_run, he]
  simp only [ix_kd]
  rw [hs]
  simp only [Option.bind_some]
  rw [ix_mono (Nat.le_max_right m m2) hm2]
  exact ix_mono (Nat.le_max_left m m2) hm
/-- 0: goes on; 1: done, then stop; 2: stop ahead of it -/
def ix_bk (e : ix_E) : Nat := match e.1 with
  | .ifCond _ _ => 1
  | .if_icmp _ _ => 1
  | .iaload => 2
  | .iastore => 2
  | .idiv => 2
  | .irem => 2
  | .invokestatic _ => 2
  | .invokevirtual _ => 2
  | .ireturn => 2
  | .return_ => 2
  | .tableswitch _ _ _ _ => 2
  | _ => 0
/-- runs on until it is at 'stop', or something stands in the way -/
def ix_sm (stop : Nat) : Nat → Nat → ix_S → Option ix_S
  | 0, _, z => some z
  | n + 1, k, (pc, L, st, w) => if pc = stop then some (pc, L, st, w) else match ix_lk k pc with
    | some e => match ix_bk e with
      | 0 => match ix_st pc e L st w with
        | some z => ix_sm stop n k z
        | none => none
      | 1 => ix_st pc e L st w
      | _ => some (pc, L, st, w)
    | none => none
theorem ix_bk_kd {e : ix_E} (h : ix_bk e = 0 ∨ ix_bk e = 1) : ix_kd e = 0 := by
  obtain ⟨i, r⟩ := e
  cases i <;> first | rfl | (simp [ix_bk] at h; done)
theorem Ev.to {k pc pc1 : Nat} {L L1 : ix_L} {st st1 : List ix_V} {w w1 : ix_W} {x : Option ix_V × ix_W} (stop : Nat) (h : ix_sm stop 60 k (pc, L, st, w) = some (pc1, L1, st1, w1)) (kk : Ev k pc1 L1 st1 w1 x) : Ev k pc L st w x := by
  generalize 60 = n at h
  induction n generalizing pc L st w with
  | zero =>
    rw [ix_sm] at h
    cases h
    exact kk
  | succ n ih =>
    rw [ix_sm] at h
    split at h
    · cases h; exact kk
    · split at h
      · rename_i e he
        split at h
        · rename_i hk
          split at h
          · rename_i z hz
            obtain ⟨z1, z2, z3, z4⟩ := z
            exact Ev.st1 he (ix_bk_kd (Or.inl hk)) hz (ih h)
          · cases h
        · rename_i hk
          exact Ev.st1 he (ix_bk_kd (Or.inr hk)) h kk
        · cases h
          exact kk
      · cases h
theorem Ev.eq {k pc : Nat} {L L1 : ix_L} {st st1 : List ix_V} {w w1 : ix_W} {x : Option ix_V × ix_W} (hL : L = L1) (hs : st = st1) (hw : w = w1) (h : Ev k pc L1 st1 w1 x) : Ev k pc L st w x := by
  subst hL hs hw; exact h
theorem Cl.eq {k : Nat} {as as1 : List ix_V} {w w1 : ix_W} {r r1 : Option ix_V} (h : Cl k as w r w1) (ha : as = as1) (hr : r = r1) : Cl k as1 w r1 w1 := by
  subst ha hr; exact h
theorem Ev.aldE {k pc : Nat} {L : ix_L} {st : List ix_V} {w : ix_W} {x : Option ix_V × ix_W} {nx a0 b0 j0 : Nat} {v0 y : Int32} {q n : Nat} {f : Nat → Int32} (a : Nat) (hy : y = nI a) (he : ix_lk k pc = some (.iaload, nx, a0, b0, j0, v0)) (hq : w[q]? = some (.inl (n, f))) (ha : a < n) (hn : n < 2 ^ 31) (kk : Ev k nx L (.inl (f a) :: st) w x) : Ev k pc L (.inl y :: .inr q :: st) w x := by
  subst hy; exact Ev.ald he hq ha hn kk
theorem Ev.astE {k pc : Nat} {L : ix_L} {st : List ix_V} {w : ix_W} {x : Option ix_V × ix_W} {nx a0 b0 j0 : Nat} {v0 z : Int32} {q n : Nat} {f : Nat → Int32} {y : Int32} (a : Nat) (hz : z = nI a) (he : ix_lk k pc = some (.iastore, nx, a0, b0, j0, v0)) (hq : w[q]? = some (.inl (n, f))) (ha : a < n) (hn : n < 2 ^ 31) (kk : Ev k nx L st (w.set q (.inl (n, upd f a y))) x) : Ev k pc L (.inl y :: .inl z :: .inr q :: st) w x := by
  subst hz; exact Ev.ast he hq ha hn kk
/-- a loop that counts -/
theorem Ev.loop {k pc : Nat} {x : Option ix_V × ix_W} {st : List ix_V} (L : Nat → ix_L) (w : Nat → ix_W) (P : Nat → Prop) (a N : Nat) (hle : a ≤ N) (h0 : P a) (step : ∀ i, a ≤ i → i < N → P i → (P (i + 1) → Ev k pc (L (i + 1)) st (w (i + 1)) x) → Ev k pc (L i) st (w i) x) (fin : P N → Ev k pc (L N) st (w N) x) : Ev k pc (L a) st (w a) x := by
  obtain ⟨d, rfl⟩ := Nat.exists_eq_add_of_le hle
  clear hle
  induction d generalizing a with
  | zero => exact fin h0
  | succ d ih =>
    refine step a (Nat.le_refl a) (by omega) h0 (fun h1 => ?_)
    refine ih (a + 1) h1 (fun i hi hi2 => step i (by omega) (by omega)) ?_
    rw [show a + 1 + d = a + (d + 1) by omega]
    exact fin
/-- a loop by a measure that falls -/
theorem Ev.while {k pc : Nat} {x : Option ix_V × ix_W} {st : List ix_V} {σ : Type} (L : σ → ix_L) (w : σ → ix_W) (P : σ → Prop) (μ : σ → Nat) (step : ∀ s, P s → (∀ s2, P s2 → μ s2 < μ s → Ev k pc (L s2) st (w s2) x) → Ev k pc (L s) st (w s) x) (s : σ) (h0 : P s) : Ev k pc (L s) st (w s) x := by
  have key : ∀ d s, μ s < d → P s → Ev k pc (L s) st (w s) x := by
    intro d
    induction d with
    | zero => intro s h; exact absurd h (by omega)
    | succ d ih => intro s h hp; exact step s hp (fun s2 h2 h3 => ih s2 (by omega) h2)
  exact key (μ s + 1) s (Nat.lt_succ_self _) h0
/-- a fold that counts -/
def fd {α : Type} (g : Nat → α → α) (s : α) : Nat → α
  | 0 => s
  | n + 1 => g n (fd g s n)
/-- bit j -/
def bb (s : Int32) (j : Nat) : Bool := decide (¬ ((s >>> (nI j &&& 31)) &&& 1 = 0))
abbrev cw (n : Nat) (c : Int32) (tb tn : Nat → Int32) (tl : Nat) (se on : Nat → Int32) (dd : Int32) (ch ro ot ow tr tu ld : Nat → Int32) (lc : Nat) (cc br bw : Int32) : ix_W := [.inr (4, [.inr 1, .inr 2, .inr 3, .inr 4, .inr 5, .inr 6]), .inr (3, [.inr 7, .inr 8, .inl (nI n), .inl c]), .inr (2, [.inr 9, .inr 10, .inl (nI tl)]), .inr (1, [.inr 11, .inl dd]), .inr (0, [.inr 12, .inr 13, .inr 14, .inr 15, .inl (nI lc), .inl cc, .inl br, .inl bw]), .inl (256, ro), .inl (256, ot), .inl (64, tb), .inl (64, tn), .inl (6, se), .inl (6, on), .inl (8, ch), .inl (20, ow), .inl (20, tr), .inl (20, tu), .inl (14, ld)]
abbrev mw (n : Nat) (c : Int32) (tb : Nat → Int32) (tl : Nat) (se on : Nat → Int32) (dd : Int32) (ch : Nat → Int32) (fs fo : Int32) (cm : Nat) (ce li ke be : Nat → Int32) : ix_W := [.inr (5, [.inl (nI n), .inl c, .inr 1, .inl (nI tl), .inr 2, .inr 3, .inl dd, .inr 4, .inl fs, .inl fo, .inl (nI cm), .inr 5, .inr 6, .inr 7, .inr 8]), .inl (64, tb), .inl (6, se), .inl (6, on), .inl (8, ch), .inl (14, ce), .inl (64, li), .inl (64, ke), .inl (256, be)]
end
section
/-! less known of the locals is enough -/
def ix_le (L L1 : ix_L) : Prop := L.length = L1.length ∧ ∀ (i : Nat) (v : ix_V), L[i]? = some (some v) → L1[i]? = some (some v)
theorem le_nil : ix_le [] [] := ⟨rfl, fun _ _ h => h⟩
theorem le_cc {a : Option ix_V} {l l1 : ix_L} (h : ix_le l l1) : ix_le (a :: l) (a :: l1) := ⟨by simp [h.1], fun i v hi => by
  cases i with
  | zero => exact hi
  | succ i => rw [List.getElem?_cons_succ] at hi ⊢; exact h.2 i v hi⟩
theorem le_nc {a : Option ix_V} {l l1 : ix_L} (h : ix_le l l1) : ix_le (none :: l) (a :: l1) := ⟨by simp [h.1], fun i v hi => by
  cases i with
  | zero => simp at hi
  | succ i => rw [List.getElem?_cons_succ] at hi ⊢; exact h.2 i v hi⟩
theorem le_set {L L1 : ix_L} (h : ix_le L L1) (a : Nat) (x : ix_V) : ix_le (L.set a (some x)) (L1.set a (some x)) := ⟨by simp [h.1], fun i v hi => by
  rw [List.getElem?_set] at hi ⊢
  by_cases e : a = i
  · subst e
    rw [if_pos rfl] at hi ⊢
    rw [← h.1]; exact hi
  · rw [if_neg e] at hi ⊢
    exact h.2 i v hi⟩
theorem le_st {pc : Nat} {e : ix_E} {L L1 : ix_L} {st : List ix_V} {w : ix_W} {pc1 : Nat} {L2 : ix_L} {st1 : List ix_V} {w1 : ix_W} (h : ix_le L L1) (hs : ix_st pc e L st w = some (pc1, L2, st1, w1)) : ∃ L3, ix_le L2 L3 ∧ ix_st pc e L1 st w = some (pc1, L3, st1, w1) := by
  obtain ⟨i, nx, a, b, j, v⟩ := e
  cases i <;> simp only [ix_st] at hs ⊢
  all_goals first | (cases hs; done) | skip
  all_goals (try unfold ix_push at hs ⊢)
  all_goals (try unfold ix_un at hs ⊢)
  all_goals (try unfold ix_bi at hs ⊢)
  all_goals (try unfold ix_dv at hs ⊢)
  all_goals (try unfold ix_ild at hs ⊢)
  all_goals (try unfold ix_ald at hs ⊢)
  all_goals (try unfold ix_ist at hs ⊢)
  all_goals (try unfold ix_inc at hs ⊢)
  all_goals (try unfold ix_br1 at hs ⊢)
  all_goals (try unfold ix_br2 at hs ⊢)
  all_goals (try unfold ix_get at hs ⊢)
  all_goals (try unfold ix_put at hs ⊢)
  all_goals (try unfold ix_iald at hs ⊢)
  all_goals (try unfold ix_iast at hs ⊢)
  all_goals (try unfold ix_alen at hs ⊢)
  all_goals (try unfold ix_dup at hs ⊢)
  all_goals (try unfold ix_dup2 at hs ⊢)
  all_goals (try unfold ix_tsw at hs ⊢)
  all_goals (repeat' split at hs)
  all_goals first | (cases hs; done) | skip
  all_goals first
    | (cases hs; exact ⟨_, h, rfl⟩)
    | (rename_i x hx; cases hs; rw [h.2 _ _ hx]; exact ⟨_, h, rfl⟩)
    | (rename_i x hx; cases hs; rw [h.2 _ _ hx]; exact ⟨_, le_set h _ _, rfl⟩)
    | (rename_i x r ha; cases hs; rw [← h.1, if_pos ha]; exact ⟨_, le_set h _ _, rfl⟩)
    | (cases hs; simp only [*]; exact ⟨_, h, rfl⟩)
    | (cases hs; simp [*]; exact h)
theorem le_run : ∀ (n k pc : Nat) (L L1 : ix_L) (st : List ix_V) (w : ix_W) (x : Option ix_V × ix_W), ix_le L L1 → ix_run n k pc L st w = some x → ix_run n k pc L1 st w = some x := by
  intro n
  induction n with
  | zero => intro k pc L L1 st w x _ h; exact absurd h (by simp [ix_run])
  | succ n ih =>
    intro k pc L L1 st w x hle h
    rw [ix_run] at h ⊢
    cases he : ix_lk k pc with
    | none => rw [he] at h; exact absurd h (by simp)
    | some e =>
      rw [he] at h
      dsimp only at h ⊢
      split at h
      · obtain ⟨z, h1, h2⟩ := Option.bind_eq_some_iff.mp h
        obtain ⟨z1, z2, z3, z4⟩ := z
        obtain ⟨L3, h3, h4⟩ := le_st hle h1
        rw [h4]; exact ih _ _ _ _ _ _ _ h3 h2
      · exact h
      · exact h
      · obtain ⟨z, h1, h2⟩ := Option.bind_eq_some_iff.mp h
        obtain ⟨y, h3, h4⟩ := Option.bind_eq_some_iff.mp h2
        rw [h1]; show Option.bind (ix_run n _ _ _ _ _) _ = _
        rw [h3]; exact ih _ _ _ _ _ _ _ hle h4
      · obtain ⟨z, h1, h2⟩ := Option.bind_eq_some_iff.mp h
        obtain ⟨y, h3, h4⟩ := Option.bind_eq_some_iff.mp h2
        rw [h1]; show Option.bind (ix_run n _ _ _ _ _) _ = _
        rw [h3]; exact ih _ _ _ _ _ _ _ hle h4
theorem Ev.fg {k pc : Nat} {L L1 : ix_L} {st : List ix_V} {w : ix_W} {x : Option ix_V × ix_W} (h : Ev k pc L st w x) (hle : ix_le L L1) : Ev k pc L1 st w x := by
  obtain ⟨n, hn⟩ := h
  exact ⟨n, le_run _ _ _ _ _ _ _ _ hle hn⟩
/-! small static methods -/
/-- a boolean as an int -/
def bz (b : Bool) : Int32 := if b = true then 1 else 0
theorem bz_t {b : Bool} (h : b = true) : bz b = 1 := by rw [bz, if_pos h]
theorem bz_f {b : Bool} (h : b = false) : bz b = 0 := by rw [h]; rfl
theorem bz_01 (b : Bool) : bz b = 0 ∨ bz b = 1 := by cases b <;> simp [bz]
theorem bz_0 {b : Bool} : bz b = 0 ↔ b = false := by cases b <;> simp [bz]
theorem Ev.on {k pc1 pc2 : Nat} {b : Bool} {L : ix_L} {st : List ix_V} {w : ix_W} {x : Option ix_V × ix_W} {d : Decidable (bz b = 0)} (h1 : b = false → Ev k pc1 L st w x) (h2 : b = true → Ev k pc2 L st w x) : Ev k (@ite _ (bz b = 0) d pc1 pc2) L st w x := by
  cases b with
  | false => rw [if_pos (bz_f rfl)]; exact h1 rfl
  | true => rw [if_neg (by rw [bz_t rfl]; decide)]; exact h2 rfl
theorem e_place (i j : Int32) (w : ix_W) : Cl m_X3_place [.inl i, .inl j] w (some (.inl (i * 8 + j))) w := by
  refine Ev.to 999 rfl ?_
  exact Ev.iret rfl rfl rfl rfl
theorem bb_t {s : Int32} {j : Nat} (h : ¬ ((s >>> (nI j &&& 31)) &&& 1 = 0)) : bb s j = true := decide_eq_true h
theorem bb_f {s : Int32} {j : Nat} (h : (s >>> (nI j &&& 31)) &&& 1 = 0) : bb s j = false := decide_eq_false (fun q => q h)
theorem e_isIn (s : Int32) (m : Nat) (w : ix_W) : Cl m_X4_isIn [.inl s, .inl (nI m)] w (some (.inl (bz (bb s m)))) w := by
  refine Ev.to 999 rfl ?_
  refine Ev.if_ (fun h => ?_) (fun h => ?_)
  · refine Ev.to 999 rfl ?_
    exact Ev.zret rfl rfl (by rw [bb_f h]; rfl) rfl (Or.inl rfl)
  · refine Ev.to 999 rfl ?_
    exact Ev.zret rfl rfl (by rw [bb_t h]; rfl) rfl (Or.inr rfl)
def inw (x l m : Int32) : Bool := decide (l ≤ x ∧ x ≤ m)
theorem i32_nlt {a b : Int32} : ¬ a < b ↔ b ≤ a := Int32.not_lt
theorem i32_nle {a b : Int32} : ¬ a ≤ b ↔ b < a := Int32.not_le
theorem e_isWithin (x l m : Int32) (w : ix_W) : Cl m_X4_isWithin [.inl x, .inl l, .inl m] w (some (.inl (bz (inw x l m)))) w := by
  refine Ev.to 999 rfl ?_
  refine Ev.if_ (fun h => ?_) (fun h => ?_)
  · refine Ev.to 999 rfl ?_
    exact Ev.zret rfl rfl (by rw [inw, bz_f (decide_eq_false (fun q => i32_nlt.mpr q.1 h))]) rfl (Or.inl rfl)
  · refine Ev.to 999 rfl ?_
    refine Ev.if_ (fun h2 => ?_) (fun h2 => ?_)
    · refine Ev.to 999 rfl ?_
      exact Ev.zret rfl rfl (by rw [inw, bz_f (decide_eq_false (fun q => i32_nlt.mpr q.2 h2))]) rfl (Or.inl rfl)
    · refine Ev.to 999 rfl ?_
      exact Ev.zret rfl rfl (by rw [inw, bz_t (decide_eq_true ⟨i32_nlt.mp h, i32_nlt.mp h2⟩)]) rfl (Or.inr rfl)
theorem m_in (x l m : Int32) (w : ix_W) : Cl m_X5_in [.inl x, .inl l, .inl m] w (some (.inl (bz (inw x l m)))) w := by
  refine Ev.to 999 rfl ?_
  refine Ev.if_ (fun h => ?_) (fun h => ?_)
  · refine Ev.to 999 rfl ?_
    exact Ev.zret rfl rfl (by rw [inw, bz_f (decide_eq_false (fun q => i32_nlt.mpr q.1 h))]) rfl (Or.inl rfl)
  · refine Ev.to 999 rfl ?_
    refine Ev.if_ (fun h2 => ?_) (fun h2 => ?_)
    · refine Ev.to 999 rfl ?_
      exact Ev.zret rfl rfl (by rw [inw, bz_f (decide_eq_false (fun q => i32_nlt.mpr q.2 h2))]) rfl (Or.inl rfl)
    · refine Ev.to 999 rfl ?_
      exact Ev.zret rfl rfl (by rw [inw, bz_t (decide_eq_true ⟨i32_nlt.mp h, i32_nlt.mp h2⟩)]) rfl (Or.inr rfl)
theorem e_isPull (x : Int32) (w : ix_W) : Cl m_X4_isPull [.inl x] w (some (.inl (bz (inw x 0 1000)))) w := by
  refine Ev.to 999 rfl ?_
  refine Ev.callS rfl rfl (e_isWithin _ _ _ _) ?_
  exact Ev.zret rfl rfl rfl rfl (bz_01 _)
theorem m_isPull (x : Int32) (w : ix_W) : Cl m_X5_isPull [.inl x] w (some (.inl (bz (inw x 0 1000)))) w := by
  refine Ev.to 999 rfl ?_
  refine Ev.callS rfl rfl (m_in _ _ _ _) ?_
  exact Ev.zret rfl rfl rfl rfl (bz_01 _)
def iabs (x : Int32) : Int32 := if 0 ≤ x then x else -x
def imin (x y : Int32) : Int32 := if y < x then y else x
def imax (x y : Int32) : Int32 := if x < y then y else x
theorem m_size (x : Int32) (w : ix_W) : Cl m_X5_size [.inl x] w (some (.inl (iabs x))) w := by
  refine Ev.to 999 rfl ?_
  refine Ev.if_ (fun h => ?_) (fun h => ?_)
  · refine Ev.to 999 rfl ?_
    exact Ev.iret rfl rfl (by rw [iabs, if_pos h]) rfl
  · refine Ev.to 999 rfl ?_
    exact Ev.iret rfl rfl (by rw [iabs, if_neg h]) rfl
theorem j_abs (x : Int32) (w : ix_W) : Cl m_J9_abs_0f7a4 [.inl x] w (some (.inl (iabs x))) w := by
  refine Ev.to 999 rfl ?_
  refine Ev.if_ (fun h => ?_) (fun h => ?_)
  · refine Ev.to 999 rfl ?_
    exact Ev.iret rfl rfl (by rw [iabs, if_pos h]) rfl
  · refine Ev.to 999 rfl ?_
    exact Ev.iret rfl rfl (by rw [iabs, if_neg h]) rfl
theorem j_min (x y : Int32) (w : ix_W) : Cl m_J9_min_7cf53 [.inl x, .inl y] w (some (.inl (imin x y))) w := by
  refine Ev.to 999 rfl ?_
  refine Ev.if_ (fun h => ?_) (fun h => ?_)
  · refine Ev.to 999 rfl ?_
    exact Ev.iret rfl rfl (by rw [imin, if_pos h]) rfl
  · refine Ev.to 999 rfl ?_
    exact Ev.iret rfl rfl (by rw [imin, if_neg h]) rfl
theorem j_max (x y : Int32) (w : ix_W) : Cl m_J9_max_7cf53 [.inl x, .inl y] w (some (.inl (imax x y))) w := by
  refine Ev.to 999 rfl ?_
  refine Ev.if_ (fun h => ?_) (fun h => ?_)
  · refine Ev.to 999 rfl ?_
    exact Ev.iret rfl rfl (by rw [imax, if_pos h]) rfl
  · refine Ev.to 999 rfl ?_
    exact Ev.iret rfl rfl (by rw [imax, if_neg h]) rfl
theorem j_low (x : Int32) (w : ix_W) : Cl m_J6_lowestOneBit_0f7a4 [.inl x] w (some (.inl (x &&& (-x)))) w := by
  refine Ev.to 999 rfl ?_
  exact Ev.iret rfl rfl rfl rfl
def ius (x y : Int32) : Int32 := (x.toUInt32 >>> (y.toUInt32 &&& Int32.toUInt32 31)).toInt32
def ibc1 (x : Int32) : Int32 := x - (ius x 1 &&& 1431655765)
def ibc2 (x : Int32) : Int32 := (x &&& 858993459) + (ius x 2 &&& 858993459)
def ibc3 (x : Int32) : Int32 := (x + ius x 4) &&& 252645135
def ibc4 (x : Int32) : Int32 := x + ius x 8
def ibc5 (x : Int32) : Int32 := x + ius x 16
def ibc (x : Int32) : Int32 := ibc5 (ibc4 (ibc3 (ibc2 (ibc1 x)))) &&& 63
theorem j_bc (x : Int32) (w : ix_W) : Cl m_J6_bitCount_0f7a4 [.inl x] w (some (.inl (ibc x))) w := by
  rw [ibc]
  refine Ev.to 10 (L1 := [some (.inl (ibc1 x))]) (st1 := []) rfl ?_
  generalize ibc1 x = x1
  refine Ev.to 24 (L1 := [some (.inl (ibc2 x1))]) (st1 := []) rfl ?_
  generalize ibc2 x1 = x2
  refine Ev.to 34 (L1 := [some (.inl (ibc3 x2))]) (st1 := []) rfl ?_
  generalize ibc3 x2 = x3
  refine Ev.to 41 (L1 := [some (.inl (ibc4 x3))]) (st1 := []) rfl ?_
  generalize ibc4 x3 = x4
  refine Ev.to 48 (L1 := [some (.inl (ibc5 x4))]) (st1 := []) rfl ?_
  generalize ibc5 x4 = x5
  refine Ev.to 999 rfl ?_
  exact Ev.iret rfl rfl rfl rfl
def itz5 (y r : Int32) : Int32 := r + ius y 1
def itz4 (y r : Int32) : Int32 := if y ≤ 4 then itz5 y r else itz5 (ius y 2) (r + 2)
def itz3 (y r : Int32) : Int32 := if y ≤ 16 then itz4 y r else itz4 (ius y 4) (r + 4)
def itz2 (y r : Int32) : Int32 := if y ≤ 256 then itz3 y r else itz3 (ius y 8) (r + 8)
def itz1 (y r : Int32) : Int32 := if y ≤ 65536 then itz2 y r else itz2 (ius y 16) (r + 16)
def itz0 (y : Int32) : Int32 := if 0 < y then itz1 y 1 else y &&& 32
def itz (x : Int32) : Int32 := itz0 ((x ^^^ (-1)) &&& (x - 1))
theorem j_tz5 (y r : Int32) (w : ix_W) : Ev m_J6_numberOfTrailingZeros_0f7a4 74 [some (.inl y), some (.inl r)] [] w (some (.inl (itz5 y r)), w) := by
  refine Ev.to 999 rfl ?_
  exact Ev.iret rfl rfl rfl rfl
theorem j_tz4 (y r : Int32) (w : ix_W) : Ev m_J6_numberOfTrailingZeros_0f7a4 62 [some (.inl y), some (.inl r)] [] w (some (.inl (itz4 y r)), w) := by
  refine Ev.to 74 rfl ?_
  refine Ev.if_ (fun h => ?_) (fun h => ?_)
  · rw [itz4, if_pos h]; exact j_tz5 _ _ _
  · rw [itz4, if_neg h]
    refine Ev.to 74 (L1 := [_, _]) rfl ?_
    exact j_tz5 _ _ _
theorem j_tz3 (y r : Int32) (w : ix_W) : Ev m_J6_numberOfTrailingZeros_0f7a4 49 [some (.inl y), some (.inl r)] [] w (some (.inl (itz3 y r)), w) := by
  refine Ev.to 62 rfl ?_
  refine Ev.if_ (fun h => ?_) (fun h => ?_)
  · rw [itz3, if_pos h]; exact j_tz4 _ _ _
  · rw [itz3, if_neg h]
    refine Ev.to 62 (L1 := [_, _]) rfl ?_
    exact j_tz4 _ _ _
theorem j_tz2 (y r : Int32) (w : ix_W) : Ev m_J6_numberOfTrailingZeros_0f7a4 34 [some (.inl y), some (.inl r)] [] w (some (.inl (itz2 y r)), w) := by
  refine Ev.to 49 rfl ?_
  refine Ev.if_ (fun h => ?_) (fun h => ?_)
  · rw [itz2, if_pos h]; exact j_tz3 _ _ _
  · rw [itz2, if_neg h]
    refine Ev.to 49 (L1 := [_, _]) rfl ?_
    exact j_tz3 _ _ _
theorem j_tz1 (y r : Int32) (w : ix_W) : Ev m_J6_numberOfTrailingZeros_0f7a4 19 [some (.inl y), some (.inl r)] [] w (some (.inl (itz1 y r)), w) := by
  refine Ev.to 34 rfl ?_
  refine Ev.if_ (fun h => ?_) (fun h => ?_)
  · rw [itz1, if_pos h]; exact j_tz2 _ _ _
  · rw [itz1, if_neg h]
    refine Ev.to 34 (L1 := [_, _]) rfl ?_
    exact j_tz2 _ _ _
theorem j_tz (x : Int32) (w : ix_W) : Cl m_J6_numberOfTrailingZeros_0f7a4 [.inl x] w (some (.inl (itz x))) w := by
  refine Ev.to 8 (L1 := [some (.inl ((x ^^^ (-1)) &&& (x - 1))), none]) (st1 := []) rfl ?_
  rw [itz]
  generalize (x ^^^ (-1)) &&& (x - 1) = y
  refine Ev.to 999 rfl ?_
  refine Ev.if_ (fun h => ?_) (fun h => ?_)
  · rw [itz0, if_pos h]
    refine Ev.to 19 (L1 := [_, _]) rfl ?_
    exact j_tz1 _ _ _
  · rw [itz0, if_neg h]
    refine Ev.to 999 rfl ?_
    exact Ev.iret rfl rfl rfl rfl
/-! numbers -/
theorem ni8 (i j : Nat) : nI i * 8 + nI j = nI (8 * i + j) := by
  rw [show (8 : Int32) = nI 8 from rfl, pk_mul, nI_add, Nat.mul_comm]
theorem ni8' (i j : Nat) : 8 * nI i + nI j = nI (8 * i + j) := by
  rw [show (8 : Int32) = nI 8 from rfl, pk_mul, nI_add]
theorem pw_n {n : Nat} (h : n ≤ 8) : (1 : Int32) <<< (nI n &&& 31) = nI (2 ^ n) := by
  have : ∀ n, n < 9 → (1 : Int32) <<< (nI n &&& 31) = nI (2 ^ n) := by decide +kernel
  exact this n (by omega)
theorem nI_ng {i n : Nat} (h : i < n) (hn : n ≤ 1000000) : ¬ nI n ≤ nI i := nI_ge h (by omega)
theorem nI_gg {n : Nat} (hn : n ≤ 1000000) : nI n ≤ nI n := nI_le (Nat.le_refl n) (by omega)
/-! Weights -/
theorem e_size {n : Nat} {c : Int32} {tb tn : Nat → Int32} {tl : Nat} {se on : Nat → Int32} {dd : Int32} {ch ro ot ow tr tu ld : Nat → Int32} {lc : Nat} {cc br bw : Int32} : Cl m_X3_size [.inr 1] (cw n c tb tn tl se on dd ch ro ot ow tr tu ld lc cc br bw) (some (.inl (nI n))) (cw n c tb tn tl se on dd ch ro ot ow tr tu ld lc cc br bw) := by
  refine Ev.to 999 rfl ?_
  exact Ev.iret rfl rfl rfl rfl
theorem e_states {n : Nat} {c : Int32} {tb tn : Nat → Int32} {tl : Nat} {se on : Nat → Int32} {dd : Int32} {ch ro ot ow tr tu ld : Nat → Int32} {lc : Nat} {cc br bw : Int32} (hn : n ≤ 8) : Cl m_X3_states [.inr 1] (cw n c tb tn tl se on dd ch ro ot ow tr tu ld lc cc br bw) (some (.inl (nI (2 ^ n)))) (cw n c tb tn tl se on dd ch ro ot ow tr tu ld lc cc br bw) := by
  refine Ev.to 999 rfl ?_
  exact Ev.iret rfl rfl (congrArg Sum.inl (pw_n hn)) rfl
theorem e_constant {n : Nat} {c : Int32} {tb tn : Nat → Int32} {tl : Nat} {se on : Nat → Int32} {dd : Int32} {ch ro ot ow tr tu ld : Nat → Int32} {lc : Nat} {cc br bw : Int32} : Cl m_X3_constant [.inr 1] (cw n c tb tn tl se on dd ch ro ot ow tr tu ld lc cc br bw) (some (.inl c)) (cw n c tb tn tl se on dd ch ro ot ow tr tu ld lc cc br bw) := by
  refine Ev.to 999 rfl ?_
  exact Ev.iret rfl rfl rfl rfl
theorem e_between {n : Nat} {c : Int32} {tb tn : Nat → Int32} {tl : Nat} {se on : Nat → Int32} {dd : Int32} {ch ro ot ow tr tu ld : Nat → Int32} {lc : Nat} {cc br bw : Int32} {i j : Nat} (hi : i < 8) (hj : j < 8) : Cl m_X3_between [.inr 1, .inl (nI i), .inl (nI j)] (cw n c tb tn tl se on dd ch ro ot ow tr tu ld lc cc br bw) (some (.inl (tb (8 * i + j)))) (cw n c tb tn tl se on dd ch ro ot ow tr tu ld lc cc br bw) := by
  refine Ev.to 999 rfl ?_
  refine Ev.callS rfl rfl (e_place _ _ _) ?_
  refine Ev.aldE (8 * i + j) (ni8 i j) rfl rfl (by omega) (by decide) ?_
  exact Ev.iret rfl rfl rfl rfl
theorem e_setBetween {n : Nat} {c : Int32} {tb tn : Nat → Int32} {tl : Nat} {se on : Nat → Int32} {dd : Int32} {ch ro ot ow tr tu ld : Nat → Int32} {lc : Nat} {cc br bw : Int32} {i j : Nat} (hi : i < 8) (hj : j < 8) (x : Int32) : Cl m_X3_setBetween [.inr 1, .inl (nI i), .inl (nI j), .inl x] (cw n c tb tn tl se on dd ch ro ot ow tr tu ld lc cc br bw) none (cw n c (upd (upd tb (8 * i + j) x) (8 * j + i) x) tn tl se on dd ch ro ot ow tr tu ld lc cc br bw) := by
  refine Ev.to 999 rfl ?_
  refine Ev.callS rfl rfl (e_place _ _ _) ?_
  refine Ev.to 999 rfl ?_
  refine Ev.astE (8 * i + j) (ni8 i j) rfl rfl (by omega) (by decide) ?_
  refine Ev.to 999 rfl ?_
  refine Ev.callS rfl rfl (e_place _ _ _) ?_
  refine Ev.to 999 rfl ?_
  refine Ev.astE (8 * j + i) (ni8 j i) rfl rfl (by omega) (by decide) ?_
  exact Ev.vret rfl rfl rfl
def g_gs (tb : Nat → Int32) (i : Nat) (o : Int32) (j : Nat) (a : Int32) : Int32 := if j ≠ i ∧ bb o j = true then a + tb (8 * i + j) else a
def g_gain (n : Nat) (tb : Nat → Int32) (i : Nat) (o : Int32) : Int32 := fd (g_gs tb i o) (tb (8 * i + i)) n
theorem e_gainOf {n : Nat} {c : Int32} {tb tn : Nat → Int32} {tl : Nat} {se on : Nat → Int32} {dd : Int32} {ch ro ot ow tr tu ld : Nat → Int32} {lc : Nat} {cc br bw : Int32} (hn : n ≤ 8) {i : Nat} (hi : i < 8) (o : Int32) : Cl m_X3_gainOf [.inr 1, .inl (nI i), .inl o] (cw n c tb tn tl se on dd ch ro ot ow tr tu ld lc cc br bw) (some (.inl (g_gain n tb i o))) (cw n c tb tn tl se on dd ch ro ot ow tr tu ld lc cc br bw) := by
  refine Ev.to 999 rfl ?_
  refine Ev.callV (rest := []) rfl rfl (e_between hi hi) ?_
  refine Ev.to 10 (L1 := [_, _, _, _, _]) (st1 := []) rfl ?_
  refine Ev.loop (fun j => [some (.inr 1), some (.inl (nI i)), some (.inl o), some (.inl (fd (g_gs tb i o) (tb (8 * i + i)) j)), some (.inl (nI j))]) (fun _ => (cw n c tb tn tl se on dd ch ro ot ow tr tu ld lc cc br bw)) (fun _ => True) 0 n (Nat.zero_le n) trivial (fun j _ hj _ kk => ?_) (fun _ => ?_)
  · refine Ev.to 999 rfl ?_
    refine Ev.ff (nI_ng hj (by omega)) ?_
    refine Ev.to 999 rfl ?_
    have kk := kk trivial
    rw [nI_succ, fd] at kk
    refine Ev.if_ (fun h => ?_) (fun h => ?_)
    · rw [nI_eq (by omega) (by omega)] at h
      rw [g_gs, if_neg (fun q => q.1 h)] at kk
      exact Ev.to 10 (L1 := [_, _, _, _, _]) rfl kk
    · rw [nI_eq (by omega) (by omega)] at h
      refine Ev.to 999 rfl ?_
      refine Ev.callS (rest := []) rfl rfl (e_isIn _ _ _) ?_
      refine Ev.to 999 rfl ?_
      refine Ev.on (fun hb => ?_) (fun hb => ?_)
      · rw [g_gs, if_neg (fun q => by rw [hb] at q; exact absurd q.2 (by decide))] at kk
        exact Ev.to 10 (L1 := [_, _, _, _, _]) rfl kk
      · rw [g_gs, if_pos ⟨h, hb⟩] at kk
        refine Ev.to 999 rfl ?_
        refine Ev.callV rfl rfl (e_between hi (by omega)) ?_
        exact Ev.to 10 (L1 := [_, _, _, _, _]) rfl kk
  · refine Ev.to 999 rfl ?_
    refine Ev.tt (nI_gg (by omega)) ?_
    refine Ev.to 999 rfl ?_
    exact Ev.iret rfl rfl rfl rfl
end
section
/-! plain facts on numbers and arrays, to paste: each family by itself; over the kit's rows on nI and upd -/
/-! ===== order of ints, in all its forms, and through longs ===== -/
theorem fa_lt (a b : Int32) : a < b ↔ a.toInt < b.toInt := Int32.lt_iff_toInt_lt
theorem fa_le (a b : Int32) : a ≤ b ↔ a.toInt ≤ b.toInt := Int32.le_iff_toInt_le
theorem fa_eq (a b : Int32) : a = b ↔ a.toInt = b.toInt := Int32.toInt_inj.symm
theorem fa_lt64 (a b : Int64) : a < b ↔ a.toInt < b.toInt := Int64.lt_iff_toInt_lt
theorem fa_le64 (a b : Int64) : a ≤ b ↔ a.toInt ≤ b.toInt := Int64.le_iff_toInt_le
theorem fa_eq64 (a b : Int64) : a = b ↔ a.toInt = b.toInt := Int64.toInt_inj.symm
/-- a comparison of two ints taken as longs -/
theorem fa_wide_lt (a b : Int32) : a.toInt64 < b.toInt64 ↔ a < b := by rw [fa_lt64, fa_lt, Int32.toInt_toInt64, Int32.toInt_toInt64]
theorem fa_wide_le (a b : Int32) : a.toInt64 ≤ b.toInt64 ↔ a ≤ b := by rw [fa_le64, fa_le, Int32.toInt_toInt64, Int32.toInt_toInt64]
theorem fa_wide_eq (a b : Int32) : a.toInt64 = b.toInt64 ↔ a = b := by rw [fa_eq64, fa_eq, Int32.toInt_toInt64, Int32.toInt_toInt64]
/-- one strict comparison gives all the others -/
theorem fa_of_lt {a b : Int32} (h : a < b) : a ≤ b ∧ ¬ b ≤ a ∧ ¬ b < a ∧ a ≠ b ∧ b ≠ a := by
  rw [fa_lt] at h
  refine ⟨?_, ?_, ?_, ?_, ?_⟩
  · rw [fa_le]; omega
  · rw [fa_le]; omega
  · rw [fa_lt]; omega
  · intro e; rw [fa_eq] at e; omega
  · intro e; rw [fa_eq] at e; omega
theorem fa_of_nlt {a b : Int32} (h : ¬ a < b) : b ≤ a := by
  rw [fa_lt] at h
  rw [fa_le]
  omega
theorem fa_of_nle {a b : Int32} (h : ¬ a ≤ b) : b < a := by
  rw [fa_le] at h
  rw [fa_lt]
  omega
theorem fa_le_ne {a b : Int32} (h : a ≤ b) (h2 : a ≠ b) : a < b := by
  rw [fa_le] at h
  rw [fa_lt]
  have h3 : a.toInt ≠ b.toInt := fun e => h2 ((fa_eq a b).mpr e)
  omega
theorem fa_three (a b : Int32) : a < b ∨ a = b ∨ b < a := by
  rw [fa_lt, fa_lt, fa_eq]
  omega
theorem fa_trans {a b c : Int32} (h : a < b) (h2 : b ≤ c) : a < c := by
  rw [fa_lt] at *
  rw [fa_le] at h2
  omega
/-! ===== small literals as numbers ===== -/
theorem fa_lit (n : Nat) : (OfNat.ofNat n : Int32) = nI n := rfl
theorem fa_litL (n : Nat) : (OfNat.ofNat n : Int64) = lN n := rfl
/-! ===== bits of a number: 'or', masks, one bit ===== -/
theorem fa_and (a b : Nat) : nI a &&& nI b = nI (a &&& b) := by
  apply Int32.toBitVec_inj.1
  show BitVec.ofNat 32 a &&& BitVec.ofNat 32 b = BitVec.ofNat 32 (a &&& b)
  apply BitVec.eq_of_getLsbD_eq
  intro i hi
  simp [hi]
theorem fa_or (a b : Nat) : nI a ||| nI b = nI (a ||| b) := by
  apply Int32.toBitVec_inj.1
  show BitVec.ofNat 32 a ||| BitVec.ofNat 32 b = BitVec.ofNat 32 (a ||| b)
  apply BitVec.eq_of_getLsbD_eq
  intro i hi
  simp [hi]
/-- a remainder by a power of two, as a mask -/
theorem fa_mask (n k : Nat) : nI n &&& nI (2 ^ k - 1) = nI (n % 2 ^ k) := by rw [fa_and, Nat.and_two_pow_sub_one_eq_mod]
/-- 'or' of a high part and a low one that don't meet is their sum -/
theorem fa_or_sum {a k : Nat} (b : Nat) (h : a < 2 ^ k) : nI (2 ^ k * b) ||| nI a = nI (2 ^ k * b + a) := by rw [fa_or, Nat.two_pow_add_eq_or_of_lt h]
/-- one bit, by 'and' with a power of two -/
theorem fa_bit {n j : Nat} (hj : j < 31) : nI n &&& nI (2 ^ j) = 0 ↔ n.testBit j = false := by
  have h2 : (2 : Nat) ^ j < 2 ^ 31 := Nat.pow_lt_pow_right (by decide) hj
  have hle : n &&& 2 ^ j ≤ 2 ^ j := Nat.and_le_right
  have e : n &&& 2 ^ j = 0 ↔ n.testBit j = false := by
    constructor
    · intro h
      have h1 : (n &&& 2 ^ j).testBit j = false := by rw [h]; simp
      rw [Nat.testBit_and] at h1
      first | simpa using h1 | simpa [Nat.testBit_two_pow_self] using h1 | simpa [Nat.testBit_two_pow] using h1
    · intro h
      apply Nat.eq_of_testBit_eq
      intro i
      rw [Nat.testBit_and]
      by_cases hi : j = i
      · subst hi; simp [h]
      · first | (simp [Nat.testBit_two_pow, hi]; done) | (simp [Nat.testBit_two_pow_of_ne hi]; done)
  rw [fa_and]
  constructor
  · intro h
    apply e.mp
    rcases Nat.eq_zero_or_pos (n &&& 2 ^ j) with z | z
    · exact z
    · exact absurd h (nI_ne0 z (Nat.lt_of_le_of_lt hle h2))
  · intro h
    rw [e.mpr h]; exact nI_0
/-- a remainder by a power of two of a number that isn't negative, as Java divides -/
theorem fa_rem {a k : Nat} (ha : a < 2 ^ 31) (hk : k < 31) : nI a - nI a / nI (2 ^ k) * nI (2 ^ k) = nI (a % 2 ^ k) := pk_rem ha (Nat.two_pow_pos k) (Nat.pow_lt_pow_right (by decide) hk)
/-! ===== cuts to a byte, a short ===== -/
theorem fa_byte_xor (x y : Int32) : (x ^^^ y).toInt8 = x.toInt8 ^^^ y.toInt8 := by
  apply Int8.toBitVec_inj.1
  apply BitVec.eq_of_getLsbD_eq
  intro i hi
  first | (simp [hi]; done) | (simp [hi, BitVec.getLsbD_setWidth, BitVec.getLsbD_signExtend]; done)
theorem fa_short_xor (x y : Int32) : (x ^^^ y).toInt16 = x.toInt16 ^^^ y.toInt16 := by
  apply Int16.toBitVec_inj.1
  apply BitVec.eq_of_getLsbD_eq
  intro i hi
  first | (simp [hi]; done) | (simp [hi, BitVec.getLsbD_setWidth, BitVec.getLsbD_signExtend]; done)
/-- the cut to a byte sees the low byte alone -/
theorem fa_byte_low (x : Int32) : (x &&& 255).toInt8 = x.toInt8 := by
  apply Int8.toBitVec_inj.1
  apply BitVec.eq_of_getLsbD_eq
  intro i hi
  have h2 : (255 : Int32).toBitVec.getLsbD i = true := by
    have : ∀ j : Fin 8, (255 : Int32).toBitVec.getLsbD j.val = true := by decide +kernel
    exact this ⟨i, hi⟩
  have h4 : (x &&& 255).toBitVec.getLsbD i = x.toBitVec.getLsbD i := by
    show (x.toBitVec &&& (255 : Int32).toBitVec).getLsbD i = _
    rw [BitVec.getLsbD_and, h2, Bool.and_true]
  have h3 : i < 32 := by omega
  first
    | (show (((x &&& 255).toBitVec).signExtend 8).getLsbD i = (x.toBitVec.signExtend 8).getLsbD i; rw [BitVec.getLsbD_signExtend, BitVec.getLsbD_signExtend, if_pos h3, if_pos h3, h4])
    | (show (((x &&& 255).toBitVec).setWidth 8).getLsbD i = (x.toBitVec.setWidth 8).getLsbD i; rw [BitVec.getLsbD_setWidth, BitVec.getLsbD_setWidth, h4])
    | (simp [hi, h3, h4]; done)
theorem fa_short_low (x : Int32) : (x &&& 65535).toInt16 = x.toInt16 := by
  apply Int16.toBitVec_inj.1
  apply BitVec.eq_of_getLsbD_eq
  intro i hi
  have h2 : (65535 : Int32).toBitVec.getLsbD i = true := by
    have : ∀ j : Fin 16, (65535 : Int32).toBitVec.getLsbD j.val = true := by decide +kernel
    exact this ⟨i, hi⟩
  have h4 : (x &&& 65535).toBitVec.getLsbD i = x.toBitVec.getLsbD i := by
    show (x.toBitVec &&& (65535 : Int32).toBitVec).getLsbD i = _
    rw [BitVec.getLsbD_and, h2, Bool.and_true]
  have h3 : i < 32 := by omega
  first
    | (show (((x &&& 65535).toBitVec).signExtend 16).getLsbD i = (x.toBitVec.signExtend 16).getLsbD i; rw [BitVec.getLsbD_signExtend, BitVec.getLsbD_signExtend, if_pos h3, if_pos h3, h4])
    | (show (((x &&& 65535).toBitVec).setWidth 16).getLsbD i = (x.toBitVec.setWidth 16).getLsbD i; rw [BitVec.getLsbD_setWidth, BitVec.getLsbD_setWidth, h4])
    | (simp [hi, h3, h4]; done)
/-- a small number is its own byte, its own short -/
theorem fa_byte_small {n : Nat} (h : n < 128) : (nI n).toInt8.toInt32 = nI n := by
  have : ∀ j : Fin 128, (nI j.val).toInt8.toInt32 = nI j.val := by decide +kernel
  exact this ⟨n, h⟩
/-! ===== absolute difference ===== -/
theorem fa_absdiff {a b : Nat} (ha : a < 2 ^ 31) (hb : b < 2 ^ 31) : (if nI a < nI b then nI b - nI a else nI a - nI b) = nI (if a < b then b - a else a - b) := by
  by_cases h : a < b
  · rw [if_pos (nI_lt h hb), if_pos h]
    exact pk_sub (Nat.le_of_lt h)
  · rw [if_neg (nI_nlt (Nat.le_of_not_lt h) ha), if_neg h]
    exact pk_sub (Nat.le_of_not_lt h)
/-! ===== an array behind i stores, a conditional store, a row copied ===== -/
/-- f where k < i, what stood there else -/
def fa_fill {α : Type} (f g : Nat → α) (i : Nat) : Nat → α := fun k => if k < i then f k else g k
theorem fa_fill_0 {α : Type} (f g : Nat → α) : fa_fill f g 0 = g := funext fun k => if_neg (Nat.not_lt_zero k)
theorem fa_fill_in {α : Type} {f g : Nat → α} {i k : Nat} (h : k < i) : fa_fill f g i k = f k := if_pos h
theorem fa_fill_out {α : Type} {f g : Nat → α} {i k : Nat} (h : i ≤ k) : fa_fill f g i k = g k := if_neg (Nat.not_lt.mpr h)
theorem fa_fill_succ (f g : Nat → Int32) (i : Nat) : upd (fa_fill f g i) i (f i) = fa_fill f g (i + 1) := by
  funext k
  by_cases e : k = i
  · subst e
    rw [pk_us]
    exact (if_pos (Nat.lt_succ_self k)).symm
  · rw [pk_un e]
    by_cases h : k < i
    · rw [fa_fill_in h, fa_fill_in (Nat.lt_succ_of_lt h)]
    · rw [fa_fill_out (Nat.le_of_not_lt h), fa_fill_out (by omega)]
/-- a store that changes nothing -/
theorem fa_upd_same {f : Nat → Int32} {i : Nat} {x : Int32} (h : f i = x) : upd f i x = f := by
  funext k
  by_cases e : k = i
  · subst e
    rw [pk_us, h]
  · rw [pk_un e]
/-- a store under a condition, told as one -/
theorem fa_upd_if (c : Prop) [Decidable c] (f : Nat → Int32) (i : Nat) (x : Int32) : (if c then upd f i x else f) = upd f i (if c then x else f i) := by
  by_cases h : c
  · rw [if_pos h, if_pos h]
  · rw [if_neg h, if_neg h, fa_upd_same rfl]
/-- two stores at one place, at two -/
theorem fa_upd_twice (f : Nat → Int32) (i : Nat) (x y : Int32) : upd (upd f i x) i y = upd f i y := by
  funext k
  by_cases e : k = i
  · subst e
    rw [pk_us, pk_us]
  · rw [pk_un e, pk_un e, pk_un e]
theorem fa_upd_swap (f : Nat → Int32) {i j : Nat} (h : i ≠ j) (x y : Int32) : upd (upd f i x) j y = upd (upd f j y) i x := by
  funext k
  by_cases e : k = i
  · subst e
    rw [pk_un h, pk_us, pk_us]
  · by_cases e2 : k = j
    · subst e2
      rw [pk_us, pk_un e, pk_us]
    · rw [pk_un e2, pk_un e, pk_un e, pk_un e2]
/-! ===== the first index with a property; a count ===== -/
/-- the first k < n with p k, n if there is none -/
def fa_first (p : Nat → Bool) : Nat → Nat
  | 0 => 0
  | n + 1 => if fa_first p n < n then fa_first p n else if p n then n else n + 1
theorem fa_first_le (p : Nat → Bool) : ∀ n, fa_first p n ≤ n
  | 0 => Nat.le_refl 0
  | n + 1 => by
    have ih := fa_first_le p n
    unfold fa_first
    split
    · omega
    · split
      · omega
      · omega
theorem fa_first_no (p : Nat → Bool) : ∀ n k, k < fa_first p n → p k = false
  | 0, k, h => absurd h (Nat.not_lt_zero k)
  | n + 1, k, h => by
    have ih := fa_first_no p n
    have hl := fa_first_le p n
    unfold fa_first at h
    split at h
    · exact ih k h
    · rename_i h1
      split at h
      · exact ih k (by omega)
      · rename_i h2
        by_cases e : k = n
        · subst e
          exact Bool.eq_false_iff.mpr h2
        · exact ih k (by omega)
theorem fa_first_yes (p : Nat → Bool) : ∀ n, fa_first p n < n → p (fa_first p n) = true
  | 0, h => absurd h (Nat.not_lt_zero _)
  | n + 1, h => by
    have ih := fa_first_yes p n
    have hl := fa_first_le p n
    unfold fa_first at h ⊢
    split at h
    · rename_i h1
      rw [if_pos h1]
      exact ih h1
    · rename_i h1
      rw [if_neg h1]
      split at h
      · rename_i h2
        rw [if_pos h2]
        exact h2
      · omega
/-- how many k < n have p k -/
def fa_cnt (p : Nat → Bool) : Nat → Nat
  | 0 => 0
  | n + 1 => fa_cnt p n + if p n then 1 else 0
theorem fa_cnt_le (p : Nat → Bool) : ∀ n, fa_cnt p n ≤ n
  | 0 => Nat.le_refl 0
  | n + 1 => by
    have ih := fa_cnt_le p n
    unfold fa_cnt
    split
    · omega
    · omega
theorem fa_cnt_yes {p : Nat → Bool} {n : Nat} (h : p n = true) : fa_cnt p (n + 1) = fa_cnt p n + 1 := by rw [fa_cnt, if_pos h]
theorem fa_cnt_no {p : Nat → Bool} {n : Nat} (h : p n = false) : fa_cnt p (n + 1) = fa_cnt p n := by rw [fa_cnt, if_neg (by rw [h]; decide)]; rfl
theorem fa_cnt_cong {p q : Nat → Bool} : ∀ {n : Nat}, (∀ k, k < n → p k = q k) → fa_cnt p n = fa_cnt q n
  | 0, _ => rfl
  | n + 1, h => by rw [fa_cnt, fa_cnt, fa_cnt_cong (fun k hk => h k (Nat.lt_succ_of_lt hk)), h n (Nat.lt_succ_self n)]
/-! ===== an answer carried into a post; a branch on a boolean answer ===== -/
theorem fa_post {α : Type} {P : α → Prop} {x y : α} (h : x = y) (hp : P y) : P x := h ▸ hp
theorem fa_post2 {α β : Type} {P : α → β → Prop} {x y : α} {u v : β} (h : x = y) (h2 : u = v) (hp : P y v) : P x u := h ▸ h2 ▸ hp
theorem fa_bool {r : Int32} {b : Bool} (h : r = if b then 1 else 0) : (r = 0 ↔ b = false) ∧ (¬ r = 0 ↔ b = true) := by
  subst h
  cases b
  · exact ⟨⟨fun _ => rfl, fun _ => rfl⟩, ⟨fun h => absurd rfl h, fun h => absurd h (by decide)⟩⟩
  · exact ⟨⟨fun h => absurd h (by decide), fun h => absurd h (by decide)⟩, ⟨fun _ => rfl, fun _ => by decide⟩⟩
/-- a boolean's narrowing changes nothing -/
theorem fa_bool_and {r : Int32} (h : r = 0 ∨ r = 1) : r &&& 1 = r := by
  rcases h with rfl | rfl
  · decide
  · decide
theorem fa_bool_prop {c : Prop} [Decidable c] {r : Int32} (h : r = if c then 1 else 0) : (r = 0 ↔ ¬ c) ∧ (¬ r = 0 ↔ c) := by
  subst h
  by_cases hc : c
  · rw [if_pos hc]
    exact ⟨⟨fun h => absurd h (by decide), fun h => absurd hc h⟩, ⟨fun _ => hc, fun _ => by decide⟩⟩
  · rw [if_neg hc]
    exact ⟨⟨fun _ => hc, fun _ => rfl⟩, ⟨fun h => absurd rfl h, fun h => absurd h hc⟩⟩

/-! plain facts to paste, each family by itself; over the kit's nI, lN and upd -/
/-! ===== drawers: more things than places ===== -/
theorem fb_holes : ∀ (m n : Nat) (f : Nat → Nat), (∀ i, i < n → f i < m) → (∀ i j, i < j → j < n → f i ≠ f j) → n ≤ m := by
  intro m
  induction m with
  | zero =>
    intro n f h1 _
    rcases Nat.eq_zero_or_pos n with h | h
    · omega
    · exact absurd (h1 0 h) (Nat.not_lt_zero _)
  | succ m ih =>
    intro n f h1 h2
    by_cases hx : ∃ i, i < n ∧ f i = m
    · obtain ⟨a, ha, hfa⟩ := hx
      have hg := ih (n - 1) (fun i => if i < a then f i else f (i + 1)) (by
        intro i hi
        by_cases q : i < a
        · simp only [if_pos q]
          have b1 := h1 i (by omega)
          have b2 := h2 i a q ha
          omega
        · simp only [if_neg q]
          have b1 := h1 (i + 1) (by omega)
          have b2 := h2 a (i + 1) (by omega) (by omega)
          omega) (by
        intro i j hij hj
        by_cases q : i < a
        · by_cases r : j < a
          · simp only [if_pos q, if_pos r]
            exact h2 i j hij (by omega)
          · simp only [if_pos q, if_neg r]
            exact h2 i (j + 1) (by omega) (by omega)
        · have r : ¬ j < a := by omega
          simp only [if_neg q, if_neg r]
          exact h2 (i + 1) (j + 1) (by omega) (by omega))
      omega
    · have hg := ih n f (fun i hi => by
        have b1 := h1 i hi
        have b2 : f i ≠ m := fun e => hx ⟨i, hi, e⟩
        omega) h2
      omega
/-- two of them in one place -/
theorem fb_twice {m n : Nat} {f : Nat → Nat} (h : ∀ i, i < n → f i < m) (hm : m < n) : ∃ i j, i < j ∧ j < n ∧ f i = f j := by
  refine Classical.byContradiction fun hx => ?_
  have := fb_holes m n f h (fun i j hij hj e => hx ⟨i, j, hij, hj, e⟩)
  omega
/-- as many as places, none twice: each place is taken -/
theorem fb_onto {n : Nat} {f : Nat → Nat} (h : ∀ i, i < n → f i < n) (h2 : ∀ i j, i < j → j < n → f i ≠ f j) {y : Nat} (hy : y < n) : ∃ i, i < n ∧ f i = y := by
  refine Classical.byContradiction fun hx => ?_
  have hne : ∀ i, i < n → f i ≠ y := fun i hi e => hx ⟨i, hi, e⟩
  have := fb_holes (n - 1) n (fun i => if f i < y then f i else f i - 1) (by
    intro i hi
    have b1 := h i hi
    have b2 := hne i hi
    by_cases q : f i < y
    · simp only [if_pos q]; omega
    · simp only [if_neg q]; omega) (by
    intro i j hij hj
    have b1 := hne i (by omega)
    have b2 := hne j hj
    have b3 := h2 i j hij hj
    by_cases q : f i < y
    · by_cases r : f j < y
      · simp only [if_pos q, if_pos r]; exact b3
      · simp only [if_pos q, if_neg r]; omega
    · by_cases r : f j < y
      · simp only [if_neg q, if_pos r]; omega
      · simp only [if_neg q, if_neg r]; omega)
  omega
/-! ===== how many places have a property ===== -/
def fb_ct (p : Nat → Bool) : Nat → Nat
  | 0 => 0
  | n + 1 => fb_ct p n + (if p n then 1 else 0)
theorem fb_ct_succ (p : Nat → Bool) (n : Nat) : fb_ct p (n + 1) = fb_ct p n + (if p n then 1 else 0) := rfl
theorem fb_ct_le (p : Nat → Bool) : ∀ n, fb_ct p n ≤ n
  | 0 => Nat.le_refl _
  | n + 1 => by
    have h := fb_ct_le p n
    rw [fb_ct_succ]
    split <;> omega
theorem fb_ct_step (p : Nat → Bool) (m : Nat) : ∀ n, fb_ct p m ≤ fb_ct p (m + n)
  | 0 => Nat.le_refl _
  | n + 1 => by
    have h := fb_ct_step p m n
    show fb_ct p m ≤ fb_ct p (m + n + 1)
    rw [fb_ct_succ]
    omega
theorem fb_ct_mono (p : Nat → Bool) {m n : Nat} (h : m ≤ n) : fb_ct p m ≤ fb_ct p n := by
  have := fb_ct_step p m (n - m)
  rwa [Nat.add_sub_cancel' h] at this
theorem fb_ct_cong {p q : Nat → Bool} : ∀ {n : Nat}, (∀ k, k < n → p k = q k) → fb_ct p n = fb_ct q n
  | 0, _ => rfl
  | n + 1, h => by
    rw [fb_ct_succ, fb_ct_succ, fb_ct_cong (fun k hk => h k (by omega)), h n (by omega)]
/-- one place changed -/
theorem fb_ct_out (p : Nat → Bool) (b : Bool) {i n : Nat} (h : n ≤ i) : fb_ct (fun k => if k = i then b else p k) n = fb_ct p n :=
  fb_ct_cong fun k hk => if_neg (by omega)
theorem fb_ct_upd (p : Nat → Bool) (b : Bool) {i : Nat} : ∀ {n : Nat}, i < n → fb_ct (fun k => if k = i then b else p k) n + (if p i then 1 else 0) = fb_ct p n + (if b then 1 else 0)
  | 0, h => absurd h (Nat.not_lt_zero i)
  | n + 1, h => by
    rw [fb_ct_succ, fb_ct_succ]
    rcases Nat.lt_or_ge i n with q | q
    · have := fb_ct_upd p b q
      have e : (if n = i then b else p n) = p n := if_neg (by omega)
      rw [e]
      omega
    · have e : i = n := by omega
      subst e
      rw [fb_ct_out p b (Nat.le_refl _)]
      simp only [if_true]
      omega
theorem fb_ct_sub {p q : Nat → Bool} : ∀ {n : Nat}, (∀ k, k < n → p k = true → q k = true) → fb_ct p n ≤ fb_ct q n
  | 0, _ => Nat.le_refl _
  | n + 1, h => by
    have h1 := fb_ct_sub (n := n) (p := p) (q := q) (fun k hk => h k (by omega))
    have h2 := h n (by omega)
    rw [fb_ct_succ, fb_ct_succ]
    cases hp : p n <;> cases hq : q n <;> simp_all <;> omega
theorem fb_ct_or {p q : Nat → Bool} : ∀ {n : Nat}, (∀ k, k < n → ¬ (p k = true ∧ q k = true)) → fb_ct (fun k => p k || q k) n = fb_ct p n + fb_ct q n
  | 0, _ => rfl
  | n + 1, h => by
    have h1 := fb_ct_or (n := n) (p := p) (q := q) (fun k hk => h k (by omega))
    have h2 := h n (by omega)
    rw [fb_ct_succ, fb_ct_succ, fb_ct_succ, h1]
    cases hp : p n <;> cases hq : q n <;> simp_all <;> omega
theorem fb_ct_not (p : Nat → Bool) : ∀ n, fb_ct p n + fb_ct (fun k => !p k) n = n
  | 0 => rfl
  | n + 1 => by
    have h := fb_ct_not p n
    rw [fb_ct_succ, fb_ct_succ]
    cases p n <;> simp <;> omega
theorem fb_ct_split (p : Nat → Bool) (m : Nat) : ∀ n, fb_ct p (m + n) = fb_ct p m + fb_ct (fun k => p (m + k)) n
  | 0 => rfl
  | n + 1 => by
    have h := fb_ct_split p m n
    show fb_ct p (m + n + 1) = _
    rw [fb_ct_succ, fb_ct_succ, h, Nat.add_assoc]
theorem fb_ct_zero {p : Nat → Bool} : ∀ {n : Nat}, fb_ct p n = 0 ↔ ∀ k, k < n → p k = false
  | 0 => ⟨fun _ k hk => absurd hk (Nat.not_lt_zero k), fun _ => rfl⟩
  | n + 1 => by
    have h := fb_ct_zero (p := p) (n := n)
    rw [fb_ct_succ]
    constructor
    · intro e k hk
      have e1 : fb_ct p n = 0 := by omega
      rcases Nat.lt_or_ge k n with q | q
      · exact h.mp e1 k q
      · have ek : k = n := by omega
        subst ek
        cases hp : p k
        · rfl
        · simp [hp] at e
    · intro a
      rw [h.mpr (fun k hk => a k (by omega)), a n (by omega)]
      rfl
theorem fb_ct_pos {p : Nat → Bool} {n : Nat} : 0 < fb_ct p n ↔ ∃ k, k < n ∧ p k = true := by
  constructor
  · intro h
    refine Classical.byContradiction fun hx => ?_
    have := fb_ct_zero.mpr (fun k hk => by
      cases hp : p k
      · rfl
      · exact absurd ⟨k, hk, hp⟩ hx : ∀ k, k < n → p k = false)
    omega
  · rintro ⟨k, hk, hp⟩
    rcases Nat.eq_zero_or_pos (fb_ct p n) with e | e
    · have := fb_ct_zero.mp e k hk
      rw [this] at hp
      cases hp
    · exact e
theorem fb_ct_all {p : Nat → Bool} {n : Nat} : fb_ct p n = n ↔ ∀ k, k < n → p k = true := by
  have h := fb_ct_not p n
  constructor
  · intro e k hk
    have z : fb_ct (fun k => !p k) n = 0 := by omega
    have := fb_ct_zero.mp z k hk
    cases hp : p k
    · simp [hp] at this
    · rfl
  · intro a
    have z : fb_ct (fun k => !p k) n = 0 := fb_ct_zero.mpr (fun k hk => by simp [a k hk])
    omega
/-- the k-th place with the property -/
theorem fb_ct_kth {p : Nat → Bool} {k : Nat} : ∀ {n : Nat}, k < fb_ct p n → ∃ i, i < n ∧ p i = true ∧ fb_ct p i = k
  | 0, h => absurd h (Nat.not_lt_zero k)
  | n + 1, h => by
    rcases Nat.lt_or_ge k (fb_ct p n) with q | q
    · obtain ⟨i, h1, h2⟩ := fb_ct_kth q
      exact ⟨i, by omega, h2⟩
    · rw [fb_ct_succ] at h
      cases hp : p n
      · simp [hp] at h; omega
      · simp [hp] at h
        exact ⟨n, by omega, hp, by omega⟩
theorem fb_ct_kth_one {p : Nat → Bool} {i j : Nat} (hi : p i = true) (hj : p j = true) (e : fb_ct p i = fb_ct p j) : i = j := by
  have key : ∀ a b : Nat, a < b → p a = true → fb_ct p a < fb_ct p b := by
    intro a b hab ha
    have h := fb_ct_mono p (show a + 1 ≤ b from hab)
    rw [fb_ct_succ, ha] at h
    simp at h
    omega
  rcases Nat.lt_trichotomy i j with q | q | q
  · have := key i j q hi; omega
  · exact q
  · have := key j i q hj; omega
/-! ===== sums over a range: one place changed, parts, bounds ===== -/
def fb_sm (f : Nat → Nat) : Nat → Nat
  | 0 => 0
  | n + 1 => fb_sm f n + f n
theorem fb_sm_succ (f : Nat → Nat) (n : Nat) : fb_sm f (n + 1) = fb_sm f n + f n := rfl
theorem fb_sm_cong {f g : Nat → Nat} : ∀ {n : Nat}, (∀ k, k < n → f k = g k) → fb_sm f n = fb_sm g n
  | 0, _ => rfl
  | n + 1, h => by rw [fb_sm_succ, fb_sm_succ, fb_sm_cong (fun k hk => h k (by omega)), h n (by omega)]
theorem fb_sm_out (f : Nat → Nat) (v : Nat) {i n : Nat} (h : n ≤ i) : fb_sm (fun k => if k = i then v else f k) n = fb_sm f n :=
  fb_sm_cong fun k hk => if_neg (by omega)
theorem fb_sm_upd (f : Nat → Nat) (v : Nat) {i : Nat} : ∀ {n : Nat}, i < n → fb_sm (fun k => if k = i then v else f k) n + f i = fb_sm f n + v
  | 0, h => absurd h (Nat.not_lt_zero i)
  | n + 1, h => by
    rw [fb_sm_succ, fb_sm_succ]
    rcases Nat.lt_or_ge i n with q | q
    · have := fb_sm_upd f v q
      have e : (if n = i then v else f n) = f n := if_neg (by omega)
      rw [e]
      omega
    · have e : i = n := by omega
      subst e
      rw [fb_sm_out f v (Nat.le_refl _)]
      simp only [if_true]
      omega
theorem fb_sm_add (f g : Nat → Nat) : ∀ n, fb_sm (fun k => f k + g k) n = fb_sm f n + fb_sm g n
  | 0 => rfl
  | n + 1 => by
    have h := fb_sm_add f g n
    rw [fb_sm_succ, fb_sm_succ, fb_sm_succ, h]
    omega
theorem fb_sm_le {f g : Nat → Nat} : ∀ {n : Nat}, (∀ k, k < n → f k ≤ g k) → fb_sm f n ≤ fb_sm g n
  | 0, _ => Nat.le_refl _
  | n + 1, h => by
    have h1 := fb_sm_le (n := n) (f := f) (g := g) (fun k hk => h k (by omega))
    have h2 := h n (by omega)
    rw [fb_sm_succ, fb_sm_succ]
    omega
theorem fb_sm_const (c : Nat) : ∀ n, fb_sm (fun _ => c) n = n * c
  | 0 => by rw [Nat.zero_mul]; rfl
  | n + 1 => by rw [fb_sm_succ, fb_sm_const c n, Nat.succ_mul]
theorem fb_sm_bound {f : Nat → Nat} {c n : Nat} (h : ∀ k, k < n → f k ≤ c) : fb_sm f n ≤ n * c := by
  rw [← fb_sm_const c n]
  exact fb_sm_le h
theorem fb_sm_mono (f : Nat → Nat) (m : Nat) : ∀ n, fb_sm f m ≤ fb_sm f (m + n)
  | 0 => Nat.le_refl _
  | n + 1 => by
    have h := fb_sm_mono f m n
    show fb_sm f m ≤ fb_sm f (m + n + 1)
    rw [fb_sm_succ]
    omega
theorem fb_sm_part (f : Nat → Nat) {i n : Nat} (h : i < n) : fb_sm f i + f i ≤ fb_sm f n := by
  have := fb_sm_mono f (i + 1) (n - (i + 1))
  rw [fb_sm_succ, show i + 1 + (n - (i + 1)) = n by omega] at this
  exact this
theorem fb_sm_split (f : Nat → Nat) (m : Nat) : ∀ n, fb_sm f (m + n) = fb_sm f m + fb_sm (fun k => f (m + k)) n
  | 0 => rfl
  | n + 1 => by
    have h := fb_sm_split f m n
    show fb_sm f (m + n + 1) = _
    rw [fb_sm_succ, fb_sm_succ, h, Nat.add_assoc]
theorem fb_sm_zero {f : Nat → Nat} {n : Nat} (h : fb_sm f n = 0) : ∀ k, k < n → f k = 0 := fun k hk => by
  have := fb_sm_part f hk
  omega
/-- the same over whole numbers -/
def fb_si (f : Nat → Int) : Nat → Int
  | 0 => 0
  | n + 1 => fb_si f n + f n
theorem fb_si_succ (f : Nat → Int) (n : Nat) : fb_si f (n + 1) = fb_si f n + f n := rfl
theorem fb_si_cong {f g : Nat → Int} : ∀ {n : Nat}, (∀ k, k < n → f k = g k) → fb_si f n = fb_si g n
  | 0, _ => rfl
  | n + 1, h => by rw [fb_si_succ, fb_si_succ, fb_si_cong (fun k hk => h k (by omega)), h n (by omega)]
theorem fb_si_out (f : Nat → Int) (v : Int) {i n : Nat} (h : n ≤ i) : fb_si (fun k => if k = i then v else f k) n = fb_si f n :=
  fb_si_cong fun k hk => if_neg (by omega)
theorem fb_si_upd (f : Nat → Int) (v : Int) {i : Nat} : ∀ {n : Nat}, i < n → fb_si (fun k => if k = i then v else f k) n = fb_si f n - f i + v
  | 0, h => absurd h (Nat.not_lt_zero i)
  | n + 1, h => by
    rw [fb_si_succ, fb_si_succ]
    rcases Nat.lt_or_ge i n with q | q
    · have := fb_si_upd f v q
      have e : (if n = i then v else f n) = f n := if_neg (by omega)
      rw [e]
      omega
    · have e : i = n := by omega
      subst e
      rw [fb_si_out f v (Nat.le_refl _)]
      simp only [if_true]
      omega
theorem fb_si_add (f g : Nat → Int) : ∀ n, fb_si (fun k => f k + g k) n = fb_si f n + fb_si g n
  | 0 => rfl
  | n + 1 => by
    have h := fb_si_add f g n
    rw [fb_si_succ, fb_si_succ, fb_si_succ, h]
    omega
theorem fb_si_sub (f g : Nat → Int) : ∀ n, fb_si (fun k => f k - g k) n = fb_si f n - fb_si g n
  | 0 => rfl
  | n + 1 => by
    have h := fb_si_sub f g n
    rw [fb_si_succ, fb_si_succ, fb_si_succ, h]
    omega
theorem fb_si_mul (c : Int) (f : Nat → Int) : ∀ n, fb_si (fun k => c * f k) n = c * fb_si f n
  | 0 => (Int.mul_zero c).symm
  | n + 1 => by
    have h := fb_si_mul c f n
    rw [fb_si_succ, fb_si_succ, h, Int.mul_add]
theorem fb_si_split (f : Nat → Int) (m : Nat) : ∀ n, fb_si f (m + n) = fb_si f m + fb_si (fun k => f (m + k)) n
  | 0 => (Int.add_zero _).symm
  | n + 1 => by
    have h := fb_si_split f m n
    show fb_si f (m + n + 1) = _
    rw [fb_si_succ, fb_si_succ, h, Int.add_assoc]
theorem fb_si_nat (f : Nat → Nat) : ∀ n, fb_si (fun k => (f k : Int)) n = (fb_sm f n : Int)
  | 0 => rfl
  | n + 1 => by
    have h := fb_si_nat f n
    rw [fb_si_succ, fb_sm_succ, h]
    omega
theorem fb_si_bound {f : Nat → Int} {c : Int} (hc : 0 ≤ c) : ∀ {n : Nat}, (∀ k, k < n → -c ≤ f k ∧ f k ≤ c) → -(n * c) ≤ fb_si f n ∧ fb_si f n ≤ n * c
  | 0, _ => by simp [fb_si]
  | n + 1, h => by
    have h1 := fb_si_bound (n := n) (f := f) hc (fun k hk => h k (by omega))
    have h2 := h n (by omega)
    have e : ((n + 1 : Nat) : Int) * c = n * c + c := by rw [Int.natCast_add, Int.add_mul]; simp
    rw [fb_si_succ, e]
    omega
/-! ===== bits of a long that isn't negative ===== -/
theorem fb_andL (a b : Nat) : lN a &&& lN b = lN (a &&& b) := by
  apply Int64.toBitVec_inj.1
  show BitVec.ofNat 64 a &&& BitVec.ofNat 64 b = BitVec.ofNat 64 (a &&& b)
  apply BitVec.eq_of_getLsbD_eq
  intro i hi
  simp [hi]
theorem fb_orL (a b : Nat) : lN a ||| lN b = lN (a ||| b) := by
  apply Int64.toBitVec_inj.1
  show BitVec.ofNat 64 a ||| BitVec.ofNat 64 b = BitVec.ofNat 64 (a ||| b)
  apply BitVec.eq_of_getLsbD_eq
  intro i hi
  simp [hi]
theorem fb_xorL (a b : Nat) : lN a ^^^ lN b = lN (a ^^^ b) := by
  apply Int64.toBitVec_inj.1
  show BitVec.ofNat 64 a ^^^ BitVec.ofNat 64 b = BitVec.ofNat 64 (a ^^^ b)
  apply BitVec.eq_of_getLsbD_eq
  intro i hi
  simp [hi]
theorem fb_xorI (a b : Nat) : nI a ^^^ nI b = nI (a ^^^ b) := by
  apply Int32.toBitVec_inj.1
  show BitVec.ofNat 32 a ^^^ BitVec.ofNat 32 b = BitVec.ofNat 32 (a ^^^ b)
  apply BitVec.eq_of_getLsbD_eq
  intro i hi
  simp [hi]
theorem fb_maskL (n k : Nat) : lN n &&& lN (2 ^ k - 1) = lN (n % 2 ^ k) := by rw [fb_andL, Nat.and_two_pow_sub_one_eq_mod]
theorem fb_or_sumL {a k : Nat} (b : Nat) (h : a < 2 ^ k) : lN (2 ^ k * b) ||| lN a = lN (2 ^ k * b + a) := by rw [fb_orL, Nat.two_pow_add_eq_or_of_lt h]
theorem fb_lN_inj {a b : Nat} (ha : a < 2 ^ 63) (hb : b < 2 ^ 63) : lN a = lN b ↔ a = b := by
  constructor
  · intro h
    have h1 : (BitVec.ofNat 64 a).toNat = (BitVec.ofNat 64 b).toNat := congrArg (fun x : Int64 => x.toBitVec.toNat) h
    rw [BitVec.toNat_ofNat, BitVec.toNat_ofNat, Nat.mod_eq_of_lt (by omega), Nat.mod_eq_of_lt (by omega)] at h1
    exact h1
  · rintro rfl; rfl
theorem fb_bit_nat (n j : Nat) : n &&& 2 ^ j = 0 ↔ n.testBit j = false := by
  constructor
  · intro h
    have h1 : (n &&& 2 ^ j).testBit j = false := by rw [h]; simp
    rw [Nat.testBit_and] at h1
    simpa using h1
  · intro h
    apply Nat.eq_of_testBit_eq
    intro i
    rw [Nat.testBit_and]
    by_cases hi : j = i
    · subst hi; simp [h]
    · first | (simp [Nat.testBit_two_pow, hi]; done) | (simp [Nat.testBit_two_pow_of_ne hi]; done)
/-- one bit of a long -/
theorem fb_bitL {n j : Nat} (hj : j < 63) : lN n &&& lN (2 ^ j) = 0 ↔ n.testBit j = false := by
  have h2 : (2 : Nat) ^ j < 2 ^ 63 := Nat.pow_lt_pow_right (by decide) hj
  have hle : n &&& 2 ^ j ≤ 2 ^ j := Nat.and_le_right
  rw [fb_andL, ← fb_bit_nat, show (0 : Int64) = lN 0 from rfl]
  exact fb_lN_inj (by omega) (by decide)
/-- a bit set, a bit taken off -/
theorem fb_bit_set (n j i : Nat) : (n ||| 2 ^ j).testBit i = (n.testBit i || decide (i = j)) := by
  rw [Nat.testBit_or]
  by_cases h : j = i
  · subst h; simp
  · have h2 : ¬ i = j := fun e => h e.symm
    first | (simp [Nat.testBit_two_pow, h, h2]; done) | (simp [Nat.testBit_two_pow_of_ne h, h2]; done)
theorem fb_bit_flip (n j i : Nat) : (n ^^^ 2 ^ j).testBit i = (n.testBit i ^^ decide (i = j)) := by
  rw [Nat.testBit_xor]
  by_cases h : j = i
  · subst h; simp
  · have h2 : ¬ i = j := fun e => h e.symm
    first | (simp [Nat.testBit_two_pow, h, h2]; done) | (simp [Nat.testBit_two_pow_of_ne h, h2]; done)
/-! ===== a stretch of an array written over by a function ===== -/
def fb_put {α : Type} (f g : Nat → α) (a n : Nat) : Nat → α := fun k => if a ≤ k ∧ k < a + n then g (k - a) else f k
theorem fb_put_0 {α : Type} (f g : Nat → α) (a : Nat) : fb_put f g a 0 = f := funext fun k => if_neg (by omega)
theorem fb_put_in {α : Type} {f g : Nat → α} {a n k : Nat} (h1 : a ≤ k) (h2 : k < a + n) : fb_put f g a n k = g (k - a) := if_pos ⟨h1, h2⟩
theorem fb_put_out {α : Type} {f g : Nat → α} {a n k : Nat} (h : k < a ∨ a + n ≤ k) : fb_put f g a n k = f k := if_neg (by omega)
theorem fb_put_succ (f g : Nat → Int32) (a n : Nat) : upd (fb_put f g a n) (a + n) (g n) = fb_put f g a (n + 1) := by
  funext k
  by_cases h : k = a + n
  · subst h
    simp [upd, fb_put]
  · by_cases h1 : a ≤ k ∧ k < a + n
    · have h2 : a ≤ k ∧ k < a + (n + 1) := by omega
      simp only [upd, fb_put, if_neg h, if_pos h1, if_pos h2]
    · have h2 : ¬ (a ≤ k ∧ k < a + (n + 1)) := by omega
      simp only [upd, fb_put, if_neg h, if_neg h1, if_neg h2]
/-- .. from the far end down -/
theorem fb_put_down (f g : Nat → Int32) {a n m : Nat} (h : m < n) : upd (fb_put f (fun k => g (k + (m + 1))) (a + (m + 1)) (n - (m + 1))) (a + m) (g m) = fb_put f (fun k => g (k + m)) (a + m) (n - m) := by
  funext k
  by_cases h0 : k = a + m
  · subst h0
    simp only [upd, if_true]
    rw [fb_put_in (by omega) (by omega)]
    exact congrArg g (by omega)
  · simp only [upd, if_neg h0]
    by_cases h1 : a + (m + 1) ≤ k ∧ k < a + (m + 1) + (n - (m + 1))
    · rw [fb_put_in h1.1 h1.2, fb_put_in (by omega) (by omega)]
      exact congrArg g (by omega)
    · rw [fb_put_out (by omega), fb_put_out (by omega)]
theorem fb_put_cong {α : Type} {f f2 g g2 : Nat → α} {a n : Nat} (hf : ∀ k, (k < a ∨ a + n ≤ k) → f k = f2 k) (hg : ∀ k, k < n → g k = g2 k) : fb_put f g a n = fb_put f2 g2 a n := by
  funext k
  by_cases h : a ≤ k ∧ k < a + n
  · rw [fb_put_in h.1 h.2, fb_put_in h.1 h.2, hg _ (by omega)]
  · rw [fb_put_out (by omega), fb_put_out (by omega), hf _ (by omega)]
/-! ===== the least, the first, the best so far; that there is one alone ===== -/
theorem fb_first {p : Nat → Prop} [DecidablePred p] : ∀ {n : Nat}, (∃ i, i < n ∧ p i) → ∃ i, i < n ∧ p i ∧ ∀ j, j < i → ¬ p j
  | 0, h => by obtain ⟨i, hi, -⟩ := h; exact absurd hi (Nat.not_lt_zero i)
  | n + 1, h => by
    by_cases q : ∃ i, i < n ∧ p i
    · obtain ⟨i, h1, h2⟩ := fb_first q
      exact ⟨i, by omega, h2⟩
    · obtain ⟨i, h1, h2⟩ := h
      have e : i = n := by
        rcases Nat.lt_or_ge i n with r | r
        · exact absurd ⟨i, r, h2⟩ q
        · omega
      subst e
      exact ⟨i, by omega, h2, fun j hj hp => q ⟨j, hj, hp⟩⟩
theorem fb_first_one {p : Nat → Prop} {i j : Nat} (hi : p i) (hi2 : ∀ k, k < i → ¬ p k) (hj : p j) (hj2 : ∀ k, k < j → ¬ p k) : i = j := by
  rcases Nat.lt_trichotomy i j with q | q | q
  · exact absurd hi (hj2 i q)
  · exact q
  · exact absurd hj (hi2 j q)
theorem fb_last {p : Nat → Prop} [DecidablePred p] : ∀ {n : Nat}, (∃ i, i < n ∧ p i) → ∃ i, i < n ∧ p i ∧ ∀ j, i < j → j < n → ¬ p j
  | 0, h => by obtain ⟨i, hi, -⟩ := h; exact absurd hi (Nat.not_lt_zero i)
  | n + 1, h => by
    by_cases q : p n
    · exact ⟨n, by omega, q, fun j h1 h2 => by omega⟩
    · obtain ⟨i, h1, h2⟩ := h
      have hi : i < n := by
        rcases Nat.lt_or_ge i n with r | r
        · exact r
        · have e : i = n := by omega
          subst e
          exact absurd h2 q
      obtain ⟨i2, a1, a2, a3⟩ := fb_last (n := n) ⟨i, hi, h2⟩
      refine ⟨i2, by omega, a2, fun j b1 b2 => ?_⟩
      rcases Nat.lt_or_ge j n with r | r
      · exact a3 j b1 r
      · have e : j = n := by omega
        subst e
        exact q
/-- the first greatest -/
theorem fb_best (f : Nat → Int) : ∀ {n : Nat}, 0 < n → ∃ i, i < n ∧ (∀ j, j < n → f j ≤ f i) ∧ ∀ j, j < i → f j < f i
  | 0, h => absurd h (Nat.lt_irrefl 0)
  | 1, _ => ⟨0, by omega, fun j hj => by have e : j = 0 := by omega
                                         subst e; exact Int.le_refl _, fun j hj => absurd hj (Nat.not_lt_zero j)⟩
  | n + 2, _ => by
    obtain ⟨i, h1, h2, h3⟩ := fb_best f (n := n + 1) (by omega)
    by_cases q : f i < f (n + 1)
    · refine ⟨n + 1, by omega, fun j hj => ?_, fun j hj => ?_⟩
      · rcases Nat.lt_or_ge j (n + 1) with r | r
        · have := h2 j r; omega
        · have e : j = n + 1 := by omega
          subst e; exact Int.le_refl _
      · have := h2 j hj; omega
    · refine ⟨i, by omega, fun j hj => ?_, h3⟩
      rcases Nat.lt_or_ge j (n + 1) with r | r
      · exact h2 j r
      · have e : j = n + 1 := by omega
        subst e; omega
theorem fb_best_one {f : Nat → Int} {n i j : Nat} (hi : i < n) (hi2 : ∀ k, k < n → f k ≤ f i) (hi3 : ∀ k, k < i → f k < f i) (hj : j < n) (hj2 : ∀ k, k < n → f k ≤ f j) (hj3 : ∀ k, k < j → f k < f j) : i = j := by
  rcases Nat.lt_trichotomy i j with q | q | q
  · have a := hj3 i q
    have b := hi2 j hj
    omega
  · exact q
  · have a := hi3 j q
    have b := hj2 i hi
    omega
/-- the first least -/
theorem fb_low (f : Nat → Int) {n : Nat} (h : 0 < n) : ∃ i, i < n ∧ (∀ j, j < n → f i ≤ f j) ∧ ∀ j, j < i → f i < f j := by
  obtain ⟨i, h1, h2, h3⟩ := fb_best (fun k => -f k) h
  exact ⟨i, h1, fun j hj => by have := h2 j hj; omega, fun j hj => by have := h3 j hj; omega⟩
/-! ===== signed ints as whole numbers, within bounds ===== -/
theorem fb_rng (x : Int32) : -2147483648 ≤ x.toInt ∧ x.toInt < 2147483648 := by
  have h1 := Int32.le_toInt x
  have h2 := Int32.toInt_lt x
  omega
theorem fb_bmod {z : Int} (h1 : -2147483648 ≤ z) (h2 : z < 2147483648) : z.bmod (2 ^ 32) = z := by
  rw [Int.bmod_eq_of_le (by omega) (by omega)]
theorem fb_addI {x y : Int32} (h1 : -2147483648 ≤ x.toInt + y.toInt) (h2 : x.toInt + y.toInt < 2147483648) : (x + y).toInt = x.toInt + y.toInt := by
  rw [Int32.toInt_add, fb_bmod h1 h2]
theorem fb_subI {x y : Int32} (h1 : -2147483648 ≤ x.toInt - y.toInt) (h2 : x.toInt - y.toInt < 2147483648) : (x - y).toInt = x.toInt - y.toInt := by
  rw [Int32.toInt_sub, fb_bmod h1 h2]
theorem fb_mulI {x y : Int32} (h1 : -2147483648 ≤ x.toInt * y.toInt) (h2 : x.toInt * y.toInt < 2147483648) : (x * y).toInt = x.toInt * y.toInt := by
  rw [Int32.toInt_mul, fb_bmod h1 h2]
theorem fb_negI {x : Int32} (h : x.toInt ≠ -2147483648) : (-x).toInt = -x.toInt := by
  have := fb_rng x
  rw [Int32.toInt_neg, fb_bmod (by omega) (by omega)]
theorem fb_ofI {z : Int} (h1 : -2147483648 ≤ z) (h2 : z < 2147483648) : (Int32.ofInt z).toInt = z := by
  rw [Int32.toInt_ofInt, fb_bmod h1 h2]
theorem fb_asI (x : Int32) : Int32.ofInt x.toInt = x := Int32.ofInt_toInt x
theorem fb_rngL (x : Int64) : -9223372036854775808 ≤ x.toInt ∧ x.toInt < 9223372036854775808 := by
  have h1 := Int64.le_toInt x
  have h2 := Int64.toInt_lt x
  omega
theorem fb_bmodL {z : Int} (h1 : -9223372036854775808 ≤ z) (h2 : z < 9223372036854775808) : z.bmod (2 ^ 64) = z := by
  rw [Int.bmod_eq_of_le (by omega) (by omega)]
theorem fb_addL {x y : Int64} (h1 : -9223372036854775808 ≤ x.toInt + y.toInt) (h2 : x.toInt + y.toInt < 9223372036854775808) : (x + y).toInt = x.toInt + y.toInt := by
  rw [Int64.toInt_add, fb_bmodL h1 h2]
theorem fb_subL {x y : Int64} (h1 : -9223372036854775808 ≤ x.toInt - y.toInt) (h2 : x.toInt - y.toInt < 9223372036854775808) : (x - y).toInt = x.toInt - y.toInt := by
  rw [Int64.toInt_sub, fb_bmodL h1 h2]
theorem fb_mulL {x y : Int64} (h1 : -9223372036854775808 ≤ x.toInt * y.toInt) (h2 : x.toInt * y.toInt < 9223372036854775808) : (x * y).toInt = x.toInt * y.toInt := by
  rw [Int64.toInt_mul, fb_bmodL h1 h2]
/-! ===== cuts of what is narrow already ===== -/
theorem fb_byte {x : Int32} (h1 : -128 ≤ x.toInt) (h2 : x.toInt < 128) : x.toInt8.toInt32 = x := by
  apply Int32.toInt_inj.1
  rw [Int8.toInt_toInt32, Int32.toInt_toInt8, Int.bmod_eq_of_le (by omega) (by omega)]
theorem fb_short {x : Int32} (h1 : -32768 ≤ x.toInt) (h2 : x.toInt < 32768) : x.toInt16.toInt32 = x := by
  apply Int32.toInt_inj.1
  rw [Int16.toInt_toInt32, Int32.toInt_toInt16, Int.bmod_eq_of_le (by omega) (by omega)]
theorem fb_byte_rng (x : Int32) : -128 ≤ x.toInt8.toInt32.toInt ∧ x.toInt8.toInt32.toInt < 128 := by
  rw [Int8.toInt_toInt32]
  have h1 := Int8.le_toInt x.toInt8
  have h2 := Int8.toInt_lt x.toInt8
  omega
theorem fb_short_rng (x : Int32) : -32768 ≤ x.toInt16.toInt32.toInt ∧ x.toInt16.toInt32.toInt < 32768 := by
  rw [Int16.toInt_toInt32]
  have h1 := Int16.le_toInt x.toInt16
  have h2 := Int16.toInt_lt x.toInt16
  omega
theorem fb_byte_twice (x : Int32) : x.toInt8.toInt32.toInt8.toInt32 = x.toInt8.toInt32 := fb_byte (fb_byte_rng x).1 (fb_byte_rng x).2
theorem fb_short_twice (x : Int32) : x.toInt16.toInt32.toInt16.toInt32 = x.toInt16.toInt32 := fb_short (fb_short_rng x).1 (fb_short_rng x).2
theorem fb_char {n : Nat} (h : n < 65536) : (nI n).toUInt32.toUInt16.toUInt32.toInt32 = nI n := by
  apply Int32.toBitVec_inj.1
  apply BitVec.eq_of_toNat_eq
  have e1 : (nI n).toBitVec.toNat = n := by
    show (BitVec.ofNat 32 n).toNat = n
    rw [BitVec.toNat_ofNat, Nat.mod_eq_of_lt (by omega)]
  have e2 : ((nI n).toUInt32.toUInt16.toUInt32).toNat = n := by
    rw [UInt16.toNat_toUInt32, UInt32.toNat_toUInt16]
    show (nI n).toBitVec.toNat % 2 ^ 16 = n
    rw [e1, Nat.mod_eq_of_lt (by omega)]
  rw [e1]
  exact e2

/-! ===== Int32 by its bits: bt x i ===== -/
def bt (x : Int32) (i : Nat) : Bool := x.toBitVec.getLsbD i
theorem b_ext {x y : Int32} (h : ∀ i, i < 32 → bt x i = bt y i) : x = y := Int32.toBitVec_inj.mp (BitVec.eq_of_getLsbD_eq (fun i hi => h i hi))
theorem b_or (x y : Int32) (i : Nat) : bt (x ||| y) i = (bt x i || bt y i) := by unfold bt; rw [Int32.toBitVec_or, BitVec.getLsbD_or]
theorem b_and (x y : Int32) (i : Nat) : bt (x &&& y) i = (bt x i && bt y i) := by unfold bt; rw [Int32.toBitVec_and, BitVec.getLsbD_and]
theorem b_xor (x y : Int32) (i : Nat) : bt (x ^^^ y) i = (bt x i ^^ bt y i) := by unfold bt; rw [Int32.toBitVec_xor, BitVec.getLsbD_xor]
theorem b_big {x : Int32} {i : Nat} (h : 32 ≤ i) : bt x i = false := BitVec.getLsbD_of_ge _ _ h
theorem b_255 (i : Nat) : bt 255 i = decide (i < 8) := by
  rcases Nat.lt_or_ge i 32 with h | h
  · exact (by decide +kernel : ∀ i, i < 32 → bt 255 i = decide (i < 8)) i h
  · rw [b_big h, decide_eq_false (by omega)]
theorem b_65535 (i : Nat) : bt 65535 i = decide (i < 16) := by
  rcases Nat.lt_or_ge i 32 with h | h
  · exact (by decide +kernel : ∀ i, i < 32 → bt 65535 i = decide (i < 16)) i h
  · rw [b_big h, decide_eq_false (by omega)]
theorem b_m1 : ∀ i, i < 32 → bt (-1) i = true := by decide +kernel
theorem b_0 (i : Nat) : bt 0 i = false := BitVec.getLsbD_zero
theorem s_l : ∀ n, n < 32 → ((nI n &&& 31).toBitVec.smod 32).toNat = n := by decide +kernel
theorem s_u : ∀ n, n < 32 → (((nI n).toUInt32 &&& Int32.toUInt32 31).toBitVec % 32).toNat = n := by decide +kernel
theorem b_shl (n : Nat) (hn : n < 32) (x : Int32) {i : Nat} (hi : i < 32) : bt (x <<< (nI n &&& 31)) i = (decide (n ≤ i) && bt x (i - n)) := by
  unfold bt
  rw [Int32.toBitVec_shiftLeft]
  show (x.toBitVec <<< ((nI n &&& 31).toBitVec.smod 32).toNat).getLsbD i = _
  rw [s_l n hn, BitVec.getLsbD_shiftLeft]
  rcases Nat.lt_or_ge i n with h | h
  · simp [h, Nat.not_le.mpr h]
  · simp [hi, h, Nat.not_lt.mpr h]
theorem b_ushr (n : Nat) (hn : n < 32) (x : Int32) (i : Nat) : bt ((x.toUInt32 >>> ((nI n).toUInt32 &&& Int32.toUInt32 31)).toInt32) i = bt x (n + i) := by
  show (x.toUInt32 >>> ((nI n).toUInt32 &&& Int32.toUInt32 31)).toBitVec.getLsbD i = x.toUInt32.toBitVec.getLsbD (n + i)
  rw [UInt32.toBitVec_shiftRight]
  show (x.toUInt32.toBitVec >>> (((nI n).toUInt32 &&& Int32.toUInt32 31).toBitVec % 32).toNat).getLsbD i = _
  rw [s_u n hn, BitVec.getLsbD_ushiftRight]
theorem b_sshr (n : Nat) (hn : n < 32) (x : Int32) {i : Nat} (hi : i < 32) : bt (x >>> (nI n &&& 31)) i = if n + i < 32 then bt x (n + i) else bt x 31 := by
  unfold bt
  rw [Int32.toBitVec_shiftRight]
  show (x.toBitVec.sshiftRight ((nI n &&& 31).toBitVec.smod 32).toNat).getLsbD i = _
  rw [s_l n hn, BitVec.getLsbD_sshiftRight, BitVec.msb_eq_getLsbD_last]
  simp [hi]
theorem b_shl8 (x : Int32) {i : Nat} (hi : i < 32) : bt (x <<< ((8 : Int32) &&& 31)) i = (decide (8 ≤ i) && bt x (i - 8)) := b_shl 8 (by omega) x hi
theorem b_shl16 (x : Int32) {i : Nat} (hi : i < 32) : bt (x <<< ((16 : Int32) &&& 31)) i = (decide (16 ≤ i) && bt x (i - 16)) := b_shl 16 (by omega) x hi
theorem b_shl24 (x : Int32) {i : Nat} (hi : i < 32) : bt (x <<< ((24 : Int32) &&& 31)) i = (decide (24 ≤ i) && bt x (i - 24)) := b_shl 24 (by omega) x hi
theorem b_sshr8 (x : Int32) {i : Nat} (hi : i < 32) : bt (x >>> ((8 : Int32) &&& 31)) i = if 8 + i < 32 then bt x (8 + i) else bt x 31 := b_sshr 8 (by omega) x hi
end
section
/-! bits -/
theorem bt_1 (i : Nat) : bt 1 i = decide (i = 0) := by
  rcases Nat.lt_or_ge i 32 with h | h
  · exact (by decide +kernel : ∀ i, i < 32 → bt 1 i = decide (i = 0)) i h
  · rw [b_big h, decide_eq_false (by omega)]
theorem and1_0 (y : Int32) : y &&& 1 = 0 ↔ bt y 0 = false := by
  constructor
  · intro h
    have h1 : bt (y &&& 1) 0 = bt 0 0 := by rw [h]
    rw [b_and, bt_1, b_0] at h1
    simpa using h1
  · intro h
    apply b_ext
    intro i hi
    rw [b_and, bt_1, b_0]
    by_cases e : i = 0
    · subst e; simp [h]
    · simp [e]
theorem and1_1 (y : Int32) : y &&& 1 = 1 ↔ bt y 0 = true := by
  constructor
  · intro h
    have h1 : bt (y &&& 1) 0 = bt 1 0 := by rw [h]
    rw [b_and, bt_1] at h1
    simpa using h1
  · intro h
    apply b_ext
    intro i hi
    rw [b_and, bt_1]
    by_cases e : i = 0
    · subst e; simp [h]
    · simp [e]
theorem bb_bt {x : Int32} {j : Nat} (hj : j < 32) : bb x j = bt x j := by
  have h0 : bt (x >>> (nI j &&& 31)) 0 = bt x j := by
    rw [b_sshr j hj x (by omega), if_pos (by omega), Nat.add_zero]
  unfold bb
  cases h : bt x j with
  | false => exact decide_eq_false (fun q => q ((and1_0 _).mpr (h0.trans h)))
  | true => exact decide_eq_true (fun q => by rw [and1_0, h0, h] at q; cases q)
theorem bb1 {x : Int32} {j : Nat} (hj : j < 32) : (x >>> (nI j &&& 31)) &&& 1 = 1 ↔ bb x j = true := by
  rw [and1_1, b_sshr j hj x (by omega), if_pos (by omega), Nat.add_zero, bb_bt hj]
theorem bb0 {x : Int32} {j : Nat} (hj : j < 32) : (x >>> (nI j &&& 31)) &&& 1 = 0 ↔ bb x j = false := by
  rw [and1_0, b_sshr j hj x (by omega), if_pos (by omega), Nat.add_zero, bb_bt hj]
theorem bbv {x : Int32} {j : Nat} (hj : j < 32) : (x >>> (nI j &&& 31)) &&& 1 = bz (bb x j) := by
  cases h : bb x j with
  | false => exact (bb0 hj).mpr h
  | true => exact (bb1 hj).mpr h
theorem bt_nI (m i : Nat) (hi : i < 32) : bt (nI m) i = m.testBit i := by
  show (BitVec.ofNat 32 m).getLsbD i = _
  rw [BitVec.getLsbD_ofNat]
  simp [hi]
theorem bb_nI {m i : Nat} (hi : i < 32) : bb (nI m) i = m.testBit i := by rw [bb_bt hi, bt_nI m i hi]
/-- the lowest bit's place -/
def lowb (m : Nat) : Nat := fa_first (fun i => m.testBit i) 32
theorem low_dec {m : Nat} (h : 0 < m) (hm : m < 2 ^ 31) : lowb m < 31 ∧ ∃ q, m = 2 ^ (lowb m) * (2 * q + 1) := by
  have hex : ∃ i, i < 31 ∧ m.testBit i = true := by
    obtain ⟨i, hi⟩ := Nat.exists_testBit_of_ne_zero (by omega : m ≠ 0)
    refine ⟨i, ?_, hi⟩
    rcases Nat.lt_or_ge i 31 with q | q
    · exact q
    · rw [Nat.testBit_lt_two_pow (Nat.lt_of_lt_of_le hm (Nat.pow_le_pow_right (by omega) q))] at hi; cases hi
  obtain ⟨i, hi, hb⟩ := hex
  have hle : lowb m ≤ i := by
    rcases Nat.lt_or_ge i (lowb m) with q | q
    · rw [fa_first_no _ 32 i q] at hb; cases hb
    · exact q
  have hlt : lowb m < 32 := by omega
  have hyes : m.testBit (lowb m) = true := fa_first_yes (fun i => m.testBit i) 32 hlt
  have hno : ∀ j, j < lowb m → m.testBit j = false := fun j hj => fa_first_no (fun i => m.testBit i) 32 j hj
  refine ⟨by omega, m / 2 ^ (lowb m + 1), ?_⟩
  generalize lowb m = k at hyes hno
  have h1 : m % 2 ^ k = 0 := by
    apply Nat.eq_of_testBit_eq
    intro j
    rw [Nat.testBit_mod_two_pow, Nat.zero_testBit]
    by_cases hj : j < k
    · rw [hno j hj]; simp
    · simp [hj]
  have h2 : m / 2 ^ k % 2 = 1 := by
    rw [Nat.testBit_eq_decide_div_mod_eq] at hyes
    exact of_decide_eq_true hyes
  have h3 : m = 2 ^ k * (m / 2 ^ k) := by
    have := Nat.div_add_mod m (2 ^ k)
    omega
  have h4 : m / 2 ^ (k + 1) = m / 2 ^ k / 2 := by rw [Nat.pow_succ, Nat.div_div_eq_div_mul]
  rw [h4]
  have h5 : m / 2 ^ k = 2 * (m / 2 ^ k / 2) + 1 := by omega
  rw [← h5]; exact h3
theorem nI_tb (m : Nat) : (nI m).toBitVec = BitVec.ofNat 32 m := rfl
theorem low_mask {m : Nat} (h : 0 < m) (hm : m < 2 ^ 31) : (nI m ^^^ (-1)) &&& (nI m - 1) = nI (2 ^ (lowb m) - 1) := by
  obtain ⟨hk, q, hq⟩ := low_dec h hm
  generalize lowb m = k at hk hq
  have e1 : nI m - 1 = nI (m - 1) := by
    rw [show m = (m - 1) + 1 by omega]; exact nI_pred _
  rw [e1]
  apply b_ext
  intro i hi
  rw [b_and, b_xor, b_m1 i hi, bt_nI _ _ hi, bt_nI _ _ hi, bt_nI _ _ hi, Nat.testBit_two_pow_sub_one]
  have hp : 0 < 2 ^ k := Nat.two_pow_pos k
  have e2 : m - 1 = 2 ^ k * (2 * q) + (2 ^ k - 1) := by
    rw [hq, Nat.mul_add]; omega
  have e3 : m = 2 ^ k * (2 * q + 1) + 0 := by omega
  rw [e2]
  conv => lhs; lhs; rw [e3]
  rw [Nat.testBit_two_pow_mul_add (2 * q) (by omega : 2 ^ k - 1 < 2 ^ k), Nat.testBit_two_pow_mul_add (2 * q + 1) hp]
  by_cases hik : i < k
  · simp [hik, Nat.testBit_two_pow_sub_one]
  · rw [if_neg hik, if_neg hik]
    by_cases e : i - k = 0
    · rw [e]; simp [hik, Nat.testBit_zero]
    · obtain ⟨j, hj⟩ : ∃ j, i - k = j + 1 := ⟨i - k - 1, by omega⟩
      rw [hj]
      simp only [Nat.testBit_succ]
      rw [show (2 * q + 1) / 2 = q by omega, show (2 * q) / 2 = q by omega]
      simp [hik]
theorem itz_mask : ∀ k, k < 31 → itz0 (nI (2 ^ k - 1)) = nI k := by decide +kernel
theorem itz_low {m : Nat} (h : 0 < m) (hm : m < 2 ^ 31) : itz (nI m) = nI (lowb m) := by
  rw [itz, low_mask h hm]
  exact itz_mask _ (low_dec h hm).1
theorem lowb_lt {m k : Nat} (h : 0 < m) (hm : m < 2 ^ k) (hk : k ≤ 31) : lowb m < k := by
  have hm31 : m < 2 ^ 31 := Nat.lt_of_lt_of_le hm (Nat.pow_le_pow_right (by omega) hk)
  obtain ⟨-, q, hq⟩ := low_dec h hm31
  rcases Nat.lt_or_ge (lowb m) k with z | z
  · exact z
  · have h1 : 2 ^ k ≤ 2 ^ lowb m := Nat.pow_le_pow_right (by omega) z
    have h2 : 2 ^ lowb m * 1 ≤ 2 ^ lowb m * (2 * q + 1) := Nat.mul_le_mul_left _ (by omega)
    omega
theorem lowb_bit {m : Nat} (h : 0 < m) (hm : m < 2 ^ 31) : m.testBit (lowb m) = true := by
  have := (low_dec h hm).1
  exact fa_first_yes (fun i => m.testBit i) 32 (show lowb m < 32 by omega)
theorem lowb_no {m j : Nat} (hj : j < lowb m) : m.testBit j = false := fa_first_no (fun i => m.testBit i) 32 j hj
theorem nI_neg {m : Nat} (h : 0 < m) (hm : m < 2 ^ 31) : -nI m = nI (2 ^ 32 - m) := by
  apply Int32.toBitVec_inj.1
  rw [Int32.toBitVec_neg]
  show -(BitVec.ofNat 32 m) = BitVec.ofNat 32 (2 ^ 32 - m)
  apply BitVec.eq_of_toNat_eq
  rw [BitVec.toNat_neg, BitVec.toNat_ofNat, BitVec.toNat_ofNat]
  omega
theorem low_bit {m : Nat} (h : 0 < m) (hm : m < 2 ^ 31) : nI m &&& (-nI m) = nI (2 ^ lowb m) := by
  obtain ⟨hk, q, hq⟩ := low_dec h hm
  generalize lowb m = k at hk hq
  rw [nI_neg h hm]
  apply b_ext
  intro i hi
  rw [b_and, bt_nI _ _ hi, bt_nI _ _ hi, bt_nI _ _ hi]
  have hp : 0 < 2 ^ k := Nat.two_pow_pos k
  have hpk : 2 ^ k * 2 ^ (31 - k) = 2 ^ 31 := by rw [← Nat.pow_add]; congr 1; omega
  have hqlt : q < 2 ^ (31 - k) := by
    rcases Nat.lt_or_ge q (2 ^ (31 - k)) with z | z
    · exact z
    · have h1 : 2 ^ k * 2 ^ (31 - k) ≤ 2 ^ k * q := Nat.mul_le_mul_left _ z
      have h2 : 2 ^ k * q ≤ 2 ^ k * (2 * q + 1) := Nat.mul_le_mul_left _ (by omega)
      omega
  have e2 : 2 ^ 32 - m = 2 ^ k * (2 * (2 ^ (31 - k) - (q + 1)) + 1) + 0 := by
    have h1 : 2 ^ k * (2 * (2 ^ (31 - k) - (q + 1)) + 1) + 2 ^ k * (2 * q + 1) = 2 ^ 32 := by
      rw [← Nat.mul_add, show 2 * (2 ^ (31 - k) - (q + 1)) + 1 + (2 * q + 1) = 2 ^ (31 - k) * 2 by omega, ← Nat.mul_assoc, hpk]
    omega
  have e3 : m = 2 ^ k * (2 * q + 1) + 0 := by omega
  rw [e2]
  conv => lhs; lhs; rw [e3]
  rw [Nat.testBit_two_pow_mul_add _ hp, Nat.testBit_two_pow_mul_add _ hp]
  by_cases hik : i < k
  · have : i ≠ k := by omega
    rw [if_pos hik, Nat.testBit_two_pow]
    simp; omega
  · rw [if_neg hik, if_neg hik]
    by_cases e : i - k = 0
    · have : i = k := by omega
      subst this
      simp [Nat.testBit_zero, Nat.testBit_two_pow_self]
    · obtain ⟨j, hj⟩ : ∃ j, i - k = j + 1 := ⟨i - k - 1, by omega⟩
      rw [hj]
      simp only [Nat.testBit_succ]
      rw [show (2 * q + 1) / 2 = q by omega, show (2 * (2 ^ (31 - k) - (q + 1)) + 1) / 2 = 2 ^ (31 - k) - (q + 1) by omega, Nat.testBit_two_pow_sub_succ hqlt, Nat.testBit_two_pow]
      have : k ≠ i := by omega
      cases q.testBit j <;> simp [this]
end
section
/-! Weights -/
theorem e_startAnew {n : Nat} {c : Int32} {tb tn : Nat → Int32} {tl : Nat} {se on : Nat → Int32} {dd : Int32} {ch ro ot ow tr tu ld : Nat → Int32} {lc : Nat} {cc br bw : Int32} (m : Nat) : Cl m_X3_startAnew [.inr 1, .inl (nI m)] (cw n c tb tn tl se on dd ch ro ot ow tr tu ld lc cc br bw) none (cw (m) (0) (fd (fun j f => upd f j 0) tb 64) tn tl se on dd ch ro ot ow tr tu ld lc cc br bw) := by
  refine Ev.to 12 (L1 := [_, _, _]) (st1 := []) (w1 := (cw (m) (0) tb tn tl se on dd ch ro ot ow tr tu ld lc cc br bw)) rfl ?_
  refine Ev.loop (fun j => [some (.inr 1), some (.inl (nI m)), some (.inl (nI j))]) (fun j => (cw (m) (0) (fd (fun j f => upd f j 0) tb j) tn tl se on dd ch ro ot ow tr tu ld lc cc br bw)) (fun _ => True) 0 64 (by omega) trivial (fun j _ hj _ kk => ?_) (fun _ => ?_)
  · have kk := kk trivial
    rw [nI_succ, fd] at kk
    refine Ev.to 999 rfl ?_
    refine Ev.ff (nI_ng (n := 64) hj (by omega)) ?_
    refine Ev.to 999 rfl ?_
    refine Ev.ast rfl rfl hj (by decide) ?_
    exact Ev.to 12 (L1 := [_, _, _]) rfl kk
  · refine Ev.to 999 (pc1 := 34) rfl ?_
    exact Ev.vret rfl rfl rfl
def g_wp (tb : Nat → Int32) (i j : Nat) (a : Int32) : Int32 := if tb (8 * i + j) = 0 then a else a + 1
def g_wpr (tb : Nat → Int32) (i : Nat) (a : Int32) : Int32 := fd (g_wp tb i) a i
theorem e_weightedPairs {n : Nat} {c : Int32} {tb tn : Nat → Int32} {tl : Nat} {se on : Nat → Int32} {dd : Int32} {ch ro ot ow tr tu ld : Nat → Int32} {lc : Nat} {cc br bw : Int32} (hn : n ≤ 8) : Cl m_X3_weightedPairs [.inr 1] (cw n c tb tn tl se on dd ch ro ot ow tr tu ld lc cc br bw) (some (.inl (fd (g_wpr tb) 0 n))) (cw n c tb tn tl se on dd ch ro ot ow tr tu ld lc cc br bw) := by
  refine Ev.to 4 (L1 := [_, _, _, _]) (st1 := []) rfl ?_
  refine Ev.loop (fun i => [some (.inr 1), some (.inl (fd (g_wpr tb) 0 i)), some (.inl (nI i)), none]) (fun _ => (cw n c tb tn tl se on dd ch ro ot ow tr tu ld lc cc br bw)) (fun _ => True) 0 n (Nat.zero_le n) trivial (fun i _ hi _ kk => ?_) (fun _ => ?_)
  · have kk := kk trivial
    rw [nI_succ, fd, g_wpr] at kk
    refine Ev.to 999 rfl ?_
    refine Ev.ff (nI_ng hi (by omega)) ?_
    generalize fd (g_wpr tb) 0 i = a0 at kk ⊢
    refine Ev.to 14 (L1 := [_, _, _, _]) (st1 := []) rfl ?_
    refine Ev.loop (fun j => [some (.inr 1), some (.inl (fd (g_wp tb i) a0 j)), some (.inl (nI i)), some (.inl (nI j))]) (fun _ => (cw n c tb tn tl se on dd ch ro ot ow tr tu ld lc cc br bw)) (fun _ => True) 0 i (Nat.zero_le i) trivial (fun j _ hj _ k2 => ?_) (fun _ => ?_)
    · have k2 := k2 trivial
      rw [nI_succ, fd] at k2
      refine Ev.to 999 rfl ?_
      refine Ev.ff (nI_ng hj (by omega)) ?_
      refine Ev.to 999 rfl ?_
      refine Ev.callV (rest := []) rfl rfl (e_between (by omega) (by omega)) ?_
      refine Ev.to 999 rfl ?_
      refine Ev.if_ (fun h => ?_) (fun h => ?_)
      · rw [g_wp, if_pos h] at k2
        exact Ev.to 14 (L1 := [_, _, _, _]) rfl k2
      · rw [g_wp, if_neg h] at k2
        exact Ev.to 14 (L1 := [_, _, _, _]) rfl k2
    · refine Ev.to 999 rfl ?_
      refine Ev.tt (nI_gg (by omega)) ?_
      exact Ev.to 4 (L1 := [_, _, _, _]) rfl (Ev.fg kk (le_cc (le_cc (le_cc (le_nc le_nil)))))
  · refine Ev.to 999 rfl ?_
    refine Ev.tt (nI_gg (by omega)) ?_
    refine Ev.to 999 rfl ?_
    exact Ev.iret rfl rfl rfl rfl
def g_es (n : Nat) (tb : Nat → Int32) (s : Int32) (i : Nat) (a : Int32) : Int32 := if bb s i = true then a + g_gain n tb i (s &&& (((1 : Int32) <<< (nI i &&& 31)) - 1)) else a
def g_en (n : Nat) (c : Int32) (tb : Nat → Int32) (s : Int32) : Int32 := fd (g_es n tb s) c n
theorem e_energyOf {n : Nat} {c : Int32} {tb tn : Nat → Int32} {tl : Nat} {se on : Nat → Int32} {dd : Int32} {ch ro ot ow tr tu ld : Nat → Int32} {lc : Nat} {cc br bw : Int32} (hn : n ≤ 8) (s : Int32) : Cl m_X3_energyOf [.inr 1, .inl s] (cw n c tb tn tl se on dd ch ro ot ow tr tu ld lc cc br bw) (some (.inl (g_en n c tb s))) (cw n c tb tn tl se on dd ch ro ot ow tr tu ld lc cc br bw) := by
  refine Ev.to 7 (L1 := [_, _, _, _]) (st1 := []) rfl ?_
  refine Ev.loop (fun i => [some (.inr 1), some (.inl s), some (.inl (fd (g_es n tb s) c i)), some (.inl (nI i))]) (fun _ => (cw n c tb tn tl se on dd ch ro ot ow tr tu ld lc cc br bw)) (fun _ => True) 0 n (Nat.zero_le n) trivial (fun i _ hi _ kk => ?_) (fun _ => ?_)
  · have kk := kk trivial
    rw [nI_succ, fd, g_es] at kk
    refine Ev.to 999 rfl ?_
    refine Ev.ff (nI_ng hi (by omega)) ?_
    refine Ev.to 999 rfl ?_
    refine Ev.callS (rest := []) rfl rfl (e_isIn _ _ _) ?_
    refine Ev.to 999 rfl ?_
    refine Ev.on (fun h => ?_) (fun h => ?_)
    · rw [if_neg (by rw [h]; decide)] at kk
      exact Ev.to 7 (L1 := [_, _, _, _]) rfl kk
    · rw [if_pos h] at kk
      refine Ev.to 999 rfl ?_
      refine Ev.callV rfl rfl (e_gainOf hn (by omega) _) ?_
      exact Ev.to 7 (L1 := [_, _, _, _]) rfl kk
  · refine Ev.to 999 rfl ?_
    refine Ev.tt (nI_gg (by omega)) ?_
    refine Ev.to 999 rfl ?_
    exact Ev.iret rfl rfl rfl rfl
def g_cb (n : Nat) (tb : Nat → Int32) (i : Nat) (s : Int32) : Int32 := if bb s i = true then -(g_gain n tb i s) else g_gain n tb i s
theorem e_changeBy {n : Nat} {c : Int32} {tb tn : Nat → Int32} {tl : Nat} {se on : Nat → Int32} {dd : Int32} {ch ro ot ow tr tu ld : Nat → Int32} {lc : Nat} {cc br bw : Int32} (hn : n ≤ 8) {i : Nat} (hi : i < 8) (s : Int32) : Cl m_X3_changeBy [.inr 1, .inl (nI i), .inl s] (cw n c tb tn tl se on dd ch ro ot ow tr tu ld lc cc br bw) (some (.inl (g_cb n tb i s))) (cw n c tb tn tl se on dd ch ro ot ow tr tu ld lc cc br bw) := by
  refine Ev.to 999 rfl ?_
  refine Ev.callV (rest := []) rfl rfl (e_gainOf hn hi _) ?_
  refine Ev.to 999 (L1 := [_, _, _, _]) rfl ?_
  refine Ev.callS (rest := []) rfl rfl (e_isIn _ _ _) ?_
  refine Ev.to 999 rfl ?_
  refine Ev.on (fun h => ?_) (fun h => ?_)
  · refine Ev.to 999 rfl ?_
    exact Ev.iret rfl rfl (by rw [g_cb, if_neg (by rw [h]; decide)]) rfl
  · refine Ev.to 999 rfl ?_
    exact Ev.iret rfl rfl (by rw [g_cb, if_pos h]) rfl
def g_lb (tb : Nat → Int32) (i j : Nat) (a : Int32) : Int32 := a + imin (tb (8 * i + j)) 0
def g_lbr (tb : Nat → Int32) (i : Nat) (a : Int32) : Int32 := fd (g_lb tb i) a (i + 1)
theorem nI_ngt {i j : Nat} (h : j ≤ i) (hn : i ≤ 1000000) : ¬ nI i < nI j := nI_nlt h (by omega)
theorem nI_gt1 {i : Nat} (hn : i ≤ 1000000) : nI i < nI (i + 1) := nI_lt (by omega) (by omega)
theorem e_lowerBound {n : Nat} {c : Int32} {tb tn : Nat → Int32} {tl : Nat} {se on : Nat → Int32} {dd : Int32} {ch ro ot ow tr tu ld : Nat → Int32} {lc : Nat} {cc br bw : Int32} (hn : n ≤ 8) : Cl m_X3_lowerBound [.inr 1] (cw n c tb tn tl se on dd ch ro ot ow tr tu ld lc cc br bw) (some (.inl (fd (g_lbr tb) c n))) (cw n c tb tn tl se on dd ch ro ot ow tr tu ld lc cc br bw) := by
  refine Ev.to 7 (L1 := [_, _, _, _]) (st1 := []) rfl ?_
  refine Ev.loop (fun i => [some (.inr 1), some (.inl (fd (g_lbr tb) c i)), some (.inl (nI i)), none]) (fun _ => (cw n c tb tn tl se on dd ch ro ot ow tr tu ld lc cc br bw)) (fun _ => True) 0 n (Nat.zero_le n) trivial (fun i _ hi _ kk => ?_) (fun _ => ?_)
  · have kk := kk trivial
    rw [nI_succ, fd, g_lbr] at kk
    refine Ev.to 999 rfl ?_
    refine Ev.ff (nI_ng hi (by omega)) ?_
    generalize fd (g_lbr tb) c i = a0 at kk ⊢
    refine Ev.to 17 (L1 := [_, _, _, _]) (st1 := []) rfl ?_
    refine Ev.loop (fun j => [some (.inr 1), some (.inl (fd (g_lb tb i) a0 j)), some (.inl (nI i)), some (.inl (nI j))]) (fun _ => (cw n c tb tn tl se on dd ch ro ot ow tr tu ld lc cc br bw)) (fun _ => True) 0 (i + 1) (Nat.zero_le _) trivial (fun j _ hj _ k2 => ?_) (fun _ => ?_)
    · have k2 := k2 trivial
      rw [nI_succ, fd] at k2
      refine Ev.to 999 rfl ?_
      refine Ev.ff (nI_ngt (by omega) (by omega)) ?_
      refine Ev.to 999 rfl ?_
      refine Ev.callV rfl rfl (e_between (by omega) (by omega)) ?_
      refine Ev.to 999 rfl ?_
      refine Ev.callS rfl rfl (j_min _ _ _) ?_
      exact Ev.to 17 (L1 := [_, _, _, _]) rfl k2
    · refine Ev.to 999 rfl ?_
      refine Ev.tt (nI_gt1 (by omega)) ?_
      exact Ev.to 7 (L1 := [_, _, _, _]) rfl (Ev.fg kk (le_cc (le_cc (le_cc (le_nc le_nil)))))
  · refine Ev.to 999 rfl ?_
    refine Ev.tt (nI_gg (by omega)) ?_
    refine Ev.to 999 rfl ?_
    exact Ev.iret rfl rfl rfl rfl
theorem nI_andp (t : Nat) : nI (t + 1) &&& (nI (t + 1) - 1) = nI ((t + 1) &&& t) := by rw [nI_pred, fa_and]
def g_fs (n : Nat) (tb : Nat → Int32) (t : Nat) (f : Nat → Int32) : Nat → Int32 := upd f (t + 1) (f ((t + 1) &&& t) + g_gain n tb (lowb (t + 1)) (nI ((t + 1) &&& t)))
def g_fill (n : Nat) (c : Int32) (tb : Nat → Int32) (f : Nat → Int32) : Nat → Int32 := fd (g_fs n tb) (upd f 0 c) (2 ^ n - 1)
theorem pw_le {n : Nat} (hn : n ≤ 8) : 2 ^ n ≤ 256 ∧ 1 ≤ 2 ^ n := ⟨Nat.le_trans (Nat.pow_le_pow_right (by omega) hn) (by decide), Nat.two_pow_pos n⟩
theorem e_fillro {n : Nat} {c : Int32} {tb tn : Nat → Int32} {tl : Nat} {se on : Nat → Int32} {dd : Int32} {ch ro ot ow tr tu ld : Nat → Int32} {lc : Nat} {cc br bw : Int32} (hn : n ≤ 8) : Cl m_X3_fillEnergies [.inr 1, .inr 5] (cw n c tb tn tl se on dd ch ro ot ow tr tu ld lc cc br bw) none (cw n c tb tn tl se on dd ch (g_fill n c tb ro) ot ow tr tu ld lc cc br bw) := by
  obtain ⟨hp1, hp2⟩ := pw_le hn
  refine Ev.to 999 rfl ?_
  refine Ev.ast (a := 0) rfl rfl (by decide) (by decide) ?_
  refine Ev.to 9 (L1 := [_, _, _, _]) (st1 := []) (w1 := (cw n c tb tn tl se on dd ch (upd ro 0 c) ot ow tr tu ld lc cc br bw)) rfl ?_
  refine Ev.loop (fun t => [some (.inr 1), some (.inr 5), some (.inl (nI (t + 1))), none]) (fun t => (cw n c tb tn tl se on dd ch (fd (g_fs n tb) (upd ro 0 c) t) ot ow tr tu ld lc cc br bw)) (fun _ => True) 0 (2 ^ n - 1) (Nat.zero_le _) trivial (fun t _ ht _ kk => ?_) (fun _ => ?_)
  · have kk := kk trivial
    rw [nI_succ (t + 1), fd, g_fs] at kk
    generalize fd (g_fs n tb) (upd ro 0 c) t = F at kk ⊢
    refine Ev.to 999 rfl ?_
    refine Ev.callV rfl rfl (e_states hn) ?_
    refine Ev.to 999 rfl ?_
    refine Ev.ff (nI_ng (by omega) (by omega)) ?_
    refine Ev.to 999 (L1 := [_, _, _, _]) rfl ?_
    refine Ev.aldE ((t + 1) &&& t) (nI_andp t) rfl rfl (Nat.lt_of_le_of_lt Nat.and_le_right (by omega)) (by decide) ?_
    refine Ev.to 999 rfl ?_
    refine Ev.callS rfl rfl (j_tz _ _) ?_
    refine Ev.to 999 rfl ?_
    have e1 : itz (nI (t + 1)) = nI (lowb (t + 1)) := itz_low (by omega) (by omega)
    have e2 : lowb (t + 1) < 8 := lowb_lt (by omega) (by omega : t + 1 < 2 ^ 8) (by omega)
    refine Ev.callV rfl rfl (Cl.eq (e_gainOf hn e2 (nI ((t + 1) &&& t))) (by rw [← e1, ← nI_andp]) rfl) ?_
    refine Ev.to 999 rfl ?_
    refine Ev.ast rfl rfl (by omega) (by decide) ?_
    exact Ev.to 9 (L1 := [_, _, _, _]) rfl (Ev.fg kk (le_cc (le_cc (le_cc (le_nc le_nil)))))
  · refine Ev.to 999 rfl ?_
    refine Ev.callV rfl rfl (e_states hn) ?_
    refine Ev.to 999 rfl ?_
    rw [show 2 ^ n - 1 + 1 = 2 ^ n by omega]
    refine Ev.tt (nI_gg (by omega)) ?_
    exact Ev.vret rfl rfl rfl
theorem e_fillot {n : Nat} {c : Int32} {tb tn : Nat → Int32} {tl : Nat} {se on : Nat → Int32} {dd : Int32} {ch ro ot ow tr tu ld : Nat → Int32} {lc : Nat} {cc br bw : Int32} (hn : n ≤ 8) : Cl m_X3_fillEnergies [.inr 1, .inr 6] (cw n c tb tn tl se on dd ch ro ot ow tr tu ld lc cc br bw) none (cw n c tb tn tl se on dd ch ro (g_fill n c tb ot) ow tr tu ld lc cc br bw) := by
  obtain ⟨hp1, hp2⟩ := pw_le hn
  refine Ev.to 999 rfl ?_
  refine Ev.ast (a := 0) rfl rfl (by decide) (by decide) ?_
  refine Ev.to 9 (L1 := [_, _, _, _]) (st1 := []) (w1 := (cw n c tb tn tl se on dd ch ro (upd ot 0 c) ow tr tu ld lc cc br bw)) rfl ?_
  refine Ev.loop (fun t => [some (.inr 1), some (.inr 6), some (.inl (nI (t + 1))), none]) (fun t => (cw n c tb tn tl se on dd ch ro (fd (g_fs n tb) (upd ot 0 c) t) ow tr tu ld lc cc br bw)) (fun _ => True) 0 (2 ^ n - 1) (Nat.zero_le _) trivial (fun t _ ht _ kk => ?_) (fun _ => ?_)
  · have kk := kk trivial
    rw [nI_succ (t + 1), fd, g_fs] at kk
    generalize fd (g_fs n tb) (upd ot 0 c) t = F at kk ⊢
    refine Ev.to 999 rfl ?_
    refine Ev.callV rfl rfl (e_states hn) ?_
    refine Ev.to 999 rfl ?_
    refine Ev.ff (nI_ng (by omega) (by omega)) ?_
    refine Ev.to 999 (L1 := [_, _, _, _]) rfl ?_
    refine Ev.aldE ((t + 1) &&& t) (nI_andp t) rfl rfl (Nat.lt_of_le_of_lt Nat.and_le_right (by omega)) (by decide) ?_
    refine Ev.to 999 rfl ?_
    refine Ev.callS rfl rfl (j_tz _ _) ?_
    refine Ev.to 999 rfl ?_
    have e1 : itz (nI (t + 1)) = nI (lowb (t + 1)) := itz_low (by omega) (by omega)
    have e2 : lowb (t + 1) < 8 := lowb_lt (by omega) (by omega : t + 1 < 2 ^ 8) (by omega)
    refine Ev.callV rfl rfl (Cl.eq (e_gainOf hn e2 (nI ((t + 1) &&& t))) (by rw [← e1, ← nI_andp]) rfl) ?_
    refine Ev.to 999 rfl ?_
    refine Ev.ast rfl rfl (by omega) (by decide) ?_
    exact Ev.to 9 (L1 := [_, _, _, _]) rfl (Ev.fg kk (le_cc (le_cc (le_cc (le_nc le_nil)))))
  · refine Ev.to 999 rfl ?_
    refine Ev.callV rfl rfl (e_states hn) ?_
    refine Ev.to 999 rfl ?_
    rw [show 2 ^ n - 1 + 1 = 2 ^ n by omega]
    refine Ev.tt (nI_gg (by omega)) ?_
    exact Ev.vret rfl rfl rfl
def g_vb (tb : Nat → Int32) (i : Nat) (s : Int32) (j : Nat) (a : Int32) : Int32 := if j = i ∨ bb s j = true then a else a + imin (tb (8 * i + j)) 0
def g_va (tb : Nat → Int32) (i : Nat) (s : Int32) (j : Nat) (a : Int32) : Int32 := if j = i ∨ bb s j = true then a else a + imax (tb (8 * i + j)) 0
def g_vf (n : Nat) (tb : Nat → Int32) (i : Nat) (s o : Int32) : Int32 := if g_gain n tb i o + fd (g_vb tb i s) 0 n < 0 then (if 0 < g_gain n tb i o + fd (g_va tb i s) 0 n then -1 else 1) else 0
theorem e_valueToFix {n : Nat} {c : Int32} {tb tn : Nat → Int32} {tl : Nat} {se on : Nat → Int32} {dd : Int32} {ch ro ot ow tr tu ld : Nat → Int32} {lc : Nat} {cc br bw : Int32} (hn : n ≤ 8) {i : Nat} (hi : i < 8) (s o : Int32) : Cl m_X3_valueToFix [.inr 1, .inl (nI i), .inl s, .inl o] (cw n c tb tn tl se on dd ch ro ot ow tr tu ld lc cc br bw) (some (.inl (g_vf n tb i s o))) (cw n c tb tn tl se on dd ch ro ot ow tr tu ld lc cc br bw) := by
  refine Ev.to 999 rfl ?_
  refine Ev.callV (rest := []) rfl rfl (e_gainOf hn hi _) ?_
  rw [g_vf]
  generalize g_gain n tb i o = g
  refine Ev.to 17 (L1 := [_, _, _, _, _, _, _, _]) (st1 := []) rfl ?_
  refine Ev.loop (fun j => [some (.inr 1), some (.inl (nI i)), some (.inl s), some (.inl o), some (.inl g), some (.inl (fd (g_vb tb i s) 0 j)), some (.inl (fd (g_va tb i s) 0 j)), some (.inl (nI j))]) (fun _ => (cw n c tb tn tl se on dd ch ro ot ow tr tu ld lc cc br bw)) (fun _ => True) 0 n (Nat.zero_le n) trivial (fun j _ hj _ kk => ?_) (fun _ => ?_)
  · have kk := kk trivial
    rw [nI_succ, fd, fd] at kk
    generalize fd (g_vb tb i s) 0 j = a1 at kk ⊢
    generalize fd (g_va tb i s) 0 j = a2 at kk ⊢
    refine Ev.to 999 rfl ?_
    refine Ev.ff (nI_ng hj (by omega)) ?_
    refine Ev.to 999 rfl ?_
    refine Ev.if_ (fun h => ?_) (fun h => ?_)
    · rw [nI_eq (by omega) (by omega)] at h
      rw [g_vb, if_pos (Or.inl h), g_va, if_pos (Or.inl h)] at kk
      exact Ev.to 17 (L1 := [_, _, _, _, _, _, _, _]) rfl kk
    · rw [nI_eq (by omega) (by omega)] at h
      refine Ev.to 999 rfl ?_
      refine Ev.callS (rest := []) rfl rfl (e_isIn _ _ _) ?_
      refine Ev.to 999 rfl ?_
      refine Ev.on (fun hb => ?_) (fun hb => ?_)
      · have hno : ¬ (j = i ∨ bb s j = true) := fun q => q.elim h (fun z => by rw [hb] at z; cases z)
        rw [g_vb, if_neg hno, g_va, if_neg hno] at kk
        refine Ev.to 999 rfl ?_
        refine Ev.callV rfl rfl (e_between hi (by omega)) ?_
        refine Ev.to 999 rfl ?_
        refine Ev.callS rfl rfl (j_min _ _ _) ?_
        refine Ev.to 999 (L1 := [_, _, _, _, _, _, _, _]) rfl ?_
        refine Ev.callV rfl rfl (e_between hi (by omega)) ?_
        refine Ev.to 999 rfl ?_
        refine Ev.callS rfl rfl (j_max _ _ _) ?_
        exact Ev.to 17 (L1 := [_, _, _, _, _, _, _, _]) rfl kk
      · rw [g_vb, if_pos (Or.inr hb), g_va, if_pos (Or.inr hb)] at kk
        exact Ev.to 17 (L1 := [_, _, _, _, _, _, _, _]) rfl kk
  · generalize fd (g_vb tb i s) 0 n = a1
    generalize fd (g_va tb i s) 0 n = a2
    refine Ev.to 999 rfl ?_
    refine Ev.tt (nI_gg (by omega)) ?_
    refine Ev.to 999 rfl ?_
    refine Ev.if_ (fun h => ?_) (fun h => ?_)
    · refine Ev.to 999 rfl ?_
      refine Ev.if_ (fun h2 => ?_) (fun h2 => ?_)
      · refine Ev.to 999 rfl ?_
        exact Ev.iret rfl rfl (by rw [if_pos h, if_pos h2]) rfl
      · refine Ev.to 999 rfl ?_
        exact Ev.iret rfl rfl (by rw [if_pos h, if_neg h2]) rfl
    · refine Ev.to 999 rfl ?_
      exact Ev.iret rfl rfl (by rw [if_neg h]) rfl
def g_tv (n : Nat) (tb : Nat → Int32) (s : Int32) (i j : Nat) : Int32 := if i = j then g_cb n tb i s else if bb s i = bb s j then tb (8 * i + j) else -(tb (8 * i + j))
theorem bz_inj {a b : Bool} : bz a = bz b ↔ a = b := by cases a <;> cases b <;> simp [bz]
theorem e_turnedBetween {n : Nat} {c : Int32} {tb tn : Nat → Int32} {tl : Nat} {se on : Nat → Int32} {dd : Int32} {ch ro ot ow tr tu ld : Nat → Int32} {lc : Nat} {cc br bw : Int32} (hn : n ≤ 8) {i j : Nat} (hi : i < 8) (hj : j < 8) (s : Int32) : Cl m_X3_turnedBetween [.inr 1, .inl (nI i), .inl (nI j), .inl s] (cw n c tb tn tl se on dd ch ro ot ow tr tu ld lc cc br bw) (some (.inl (g_tv n tb s i j))) (cw n c tb tn tl se on dd ch ro ot ow tr tu ld lc cc br bw) := by
  refine Ev.to 999 rfl ?_
  refine Ev.if_ (fun h => ?_) (fun h => ?_)
  · rw [nI_eq (by omega) (by omega)] at h
    refine Ev.to 999 rfl ?_
    refine Ev.callV (rest := []) rfl rfl (e_gainOf hn hi _) ?_
    refine Ev.to 999 (L1 := [_, _, _, _, _]) rfl ?_
    refine Ev.callS (rest := []) rfl rfl (e_isIn _ _ _) ?_
    refine Ev.to 999 rfl ?_
    refine Ev.on (fun hb => ?_) (fun hb => ?_)
    · refine Ev.to 999 rfl ?_
      exact Ev.iret rfl rfl (by rw [g_tv, if_pos h, g_cb, if_neg (by rw [hb]; decide)]) rfl
    · refine Ev.to 999 rfl ?_
      exact Ev.iret rfl rfl (by rw [g_tv, if_pos h, g_cb, if_pos hb]) rfl
  · rw [nI_eq (by omega) (by omega)] at h
    refine Ev.to 999 rfl ?_
    refine Ev.callS (rest := []) rfl rfl (e_isIn _ _ _) ?_
    refine Ev.to 999 rfl ?_
    refine Ev.callS (rest := [_]) rfl rfl (e_isIn _ _ _) ?_
    refine Ev.to 999 rfl ?_
    refine Ev.if_ (fun hb => ?_) (fun hb => ?_)
    · rw [bz_inj] at hb
      refine Ev.to 999 rfl ?_
      refine Ev.callV rfl rfl (e_between hi hj) ?_
      refine Ev.to 999 rfl ?_
      exact Ev.iret rfl rfl (by rw [g_tv, if_neg h, if_pos hb]) rfl
    · rw [bz_inj] at hb
      refine Ev.to 999 rfl ?_
      refine Ev.callV rfl rfl (e_between hi hj) ?_
      refine Ev.to 999 rfl ?_
      exact Ev.iret rfl rfl (by rw [g_tv, if_neg h, if_neg hb]) rfl
def g_nm1 (f s : Int32) : Int32 := f - f / s * s
def g_nm2 (f s : Int32) : Int32 := if g_nm1 f s * 2 ≤ s then f - g_nm1 f s else f - g_nm1 f s + s
def g_nm (x s : Int32) : Int32 := if 0 ≤ x then g_nm2 (iabs x) s else -(g_nm2 (iabs x) s)
theorem e_nm2 (x s f r g : Int32) (w : ix_W) : Ev m_X3_nearestMultiple 29 [some (.inl x), some (.inl s), some (.inl f), some (.inl r), some (.inl g)] [] w (some (.inl (if 0 ≤ x then g else -g)), w) := by
  refine Ev.to 999 rfl ?_
  refine Ev.if_ (fun h => ?_) (fun h => ?_)
  · refine Ev.to 999 rfl ?_
    exact Ev.iret rfl rfl (by rw [if_pos h]) rfl
  · refine Ev.to 999 rfl ?_
    exact Ev.iret rfl rfl (by rw [if_neg h]) rfl
theorem e_nearestMultiple (x : Int32) {s : Int32} (hs : s ≠ 0) (w : ix_W) : Cl m_X3_nearestMultiple [.inl x, .inl s] w (some (.inl (g_nm x s))) w := by
  refine Ev.to 999 rfl ?_
  refine Ev.callS rfl rfl (j_abs _ _) ?_
  rw [g_nm]
  generalize iabs x = f
  refine Ev.to 999 (L1 := [_, _, _, _, _]) rfl ?_
  refine Ev.rm rfl hs ?_
  refine Ev.to 999 (L1 := [_, _, _, _, _]) rfl ?_
  refine Ev.if_ (fun h => ?_) (fun h => ?_)
  · rw [show g_nm2 f s = f - (f - f / s * s) from by rw [g_nm2, if_pos (show g_nm1 f s * 2 ≤ s from h)]; rfl]
    exact Ev.to 29 (L1 := [_, _, _, _, _]) rfl (e_nm2 _ _ _ _ _ _)
  · rw [show g_nm2 f s = f - (f - f / s * s) + s from by rw [g_nm2, if_neg (show ¬ g_nm1 f s * 2 ≤ s from h)]; rfl]
    exact Ev.to 29 (L1 := [_, _, _, _, _]) rfl (e_nm2 _ _ _ _ _ _)
def g_ct (s : Int32) (j : Nat) (f : Nat → Int32) : Nat → Int32 := upd f j (g_nm (f j) s)
theorem e_cutTo {n : Nat} {c : Int32} {tb tn : Nat → Int32} {tl : Nat} {se on : Nat → Int32} {dd : Int32} {ch ro ot ow tr tu ld : Nat → Int32} {lc : Nat} {cc br bw : Int32} {s : Int32} (hs : s ≠ 0) : Cl m_X3_cutTo [.inr 1, .inl s] (cw n c tb tn tl se on dd ch ro ot ow tr tu ld lc cc br bw) none (cw n c (fd (g_ct s) tb 64) tn tl se on dd ch ro ot ow tr tu ld lc cc br bw) := by
  refine Ev.to 2 (L1 := [_, _, _]) (st1 := []) rfl ?_
  refine Ev.loop (fun j => [some (.inr 1), some (.inl s), some (.inl (nI j))]) (fun j => (cw n c (fd (g_ct s) tb j) tn tl se on dd ch ro ot ow tr tu ld lc cc br bw)) (fun _ => True) 0 64 (by omega) trivial (fun j _ hj _ kk => ?_) (fun _ => ?_)
  · have kk := kk trivial
    rw [nI_succ, fd, g_ct] at kk
    generalize fd (g_ct s) tb j = F at kk ⊢
    refine Ev.to 999 rfl ?_
    refine Ev.ff (nI_ng (n := 64) hj (by omega)) ?_
    refine Ev.to 999 rfl ?_
    refine Ev.ald rfl rfl hj (by decide) ?_
    refine Ev.to 999 rfl ?_
    refine Ev.callS rfl rfl (e_nearestMultiple _ hs _) ?_
    refine Ev.ast rfl rfl hj (by decide) ?_
    exact Ev.to 2 (L1 := [_, _, _]) rfl kk
  · refine Ev.to 999 (pc1 := 33) rfl ?_
    exact Ev.vret rfl rfl rfl
/-! turnBy -/
def g_ti (n : Nat) (tb : Nat → Int32) (s : Int32) (i j : Nat) (f : Nat → Int32) : Nat → Int32 := upd f (8 * i + j) (g_tv n tb s i j)
def g_tr (n : Nat) (tb : Nat → Int32) (s : Int32) (i : Nat) (f : Nat → Int32) : Nat → Int32 := fd (g_ti n tb s i) f n
def g_tk (n : Nat) (tb : Nat → Int32) (s : Int32) (i j : Nat) : Bool := inw (g_tv n tb s i j) (-60) 60
def g_ci (g : Nat → Int32) (i j : Nat) (f : Nat → Int32) : Nat → Int32 := upd f (8 * i + j) (g (8 * i + j))
def g_cr (n : Nat) (g : Nat → Int32) (i : Nat) (f : Nat → Int32) : Nat → Int32 := fd (g_ci g i) f n
/-- one row of the first going through, to place N -/
theorem e_turnRow {n : Nat} {c : Int32} {tb tn : Nat → Int32} {tl : Nat} {se on : Nat → Int32} {dd : Int32} {ch ro ot ow tr tu ld : Nat → Int32} {lc : Nat} {cc br bw : Int32} (hn : n ≤ 8) (s : Int32) {i N : Nat} (hi : i < n) (hN : N ≤ n) (f : Nat → Int32) (hk : ∀ j, j < N → g_tk n tb s i j = true) {x : Option ix_V × ix_W} (z : Option ix_V) (kk : ∀ z, Ev m_X3_turnBy 12 [some (.inr 1), some (.inl s), some (.inl (nI i)), some (.inl (nI N)), z] [] (cw n c tb (fd (g_ti n tb s i) f N) tl se on dd ch ro ot ow tr tu ld lc cc br bw) x) : Ev m_X3_turnBy 12 [some (.inr 1), some (.inl s), some (.inl (nI i)), some (.inl 0), z] [] (cw n c tb (f) tl se on dd ch ro ot ow tr tu ld lc cc br bw) x := by
  refine Ev.fg (L := [some (.inr 1), some (.inl s), some (.inl (nI i)), some (.inl 0), none]) ?_ (le_cc (le_cc (le_cc (le_cc (le_nc le_nil)))))
  refine Ev.loop (fun j => [some (.inr 1), some (.inl s), some (.inl (nI i)), some (.inl (nI j)), none]) (fun j => (cw n c tb (fd (g_ti n tb s i) f j) tl se on dd ch ro ot ow tr tu ld lc cc br bw)) (fun _ => True) 0 N (Nat.zero_le N) trivial (fun j _ hj _ k2 => ?_) (fun _ => ?_)
  · have k2 := k2 trivial
    rw [nI_succ, fd, g_ti] at k2
    generalize fd (g_ti n tb s i) f j = F at k2 ⊢
    refine Ev.to 999 rfl ?_
    refine Ev.ff (nI_ng (by omega) (by omega)) ?_
    refine Ev.to 999 rfl ?_
    refine Ev.callV (rest := []) rfl rfl (e_turnedBetween hn (by omega) (by omega) _) ?_
    have hok := hk j hj
    rw [g_tk] at hok
    generalize g_tv n tb s i j = v at k2 hok ⊢
    refine Ev.to 999 (L1 := [_, _, _, _, _]) rfl ?_
    refine Ev.callS (rest := []) rfl rfl (e_isWithin _ _ _ _) ?_
    refine Ev.to 999 rfl ?_
    refine Ev.ff (by rw [bz_t hok]; decide) ?_
    refine Ev.to 999 rfl ?_
    refine Ev.callS rfl rfl (e_place _ _ _) ?_
    refine Ev.to 999 rfl ?_
    refine Ev.astE (8 * i + j) (ni8 i j) rfl rfl (by omega) (by decide) ?_
    exact Ev.to 12 (L1 := [_, _, _, _, _]) rfl (Ev.fg k2 (le_cc (le_cc (le_cc (le_cc (le_nc le_nil))))))
  · exact kk none
theorem e_turnRows {n : Nat} {c : Int32} {tb tn : Nat → Int32} {tl : Nat} {se on : Nat → Int32} {dd : Int32} {ch ro ot ow tr tu ld : Nat → Int32} {lc : Nat} {cc br bw : Int32} (hn : n ≤ 8) (s : Int32) {N : Nat} (hN : N ≤ n) (hk : ∀ i, i < N → ∀ j, j < n → g_tk n tb s i j = true) {x : Option ix_V × ix_W} (kk : Ev m_X3_turnBy 2 [some (.inr 1), some (.inl s), some (.inl (nI N)), none, none] [] (cw n c tb (fd (g_tr n tb s) tn N) tl se on dd ch ro ot ow tr tu ld lc cc br bw) x) : Ev m_X3_turnBy 2 [some (.inr 1), some (.inl s), some (.inl 0), none, none] [] (cw n c tb tn tl se on dd ch ro ot ow tr tu ld lc cc br bw) x := by
  refine Ev.loop (fun i => [some (.inr 1), some (.inl s), some (.inl (nI i)), none, none]) (fun i => (cw n c tb (fd (g_tr n tb s) tn i) tl se on dd ch ro ot ow tr tu ld lc cc br bw)) (fun _ => True) 0 N (Nat.zero_le N) trivial (fun i _ hi _ k2 => ?_) (fun _ => kk)
  have k2 := k2 trivial
  rw [nI_succ, fd, g_tr] at k2
  refine Ev.to 999 rfl ?_
  refine Ev.ff (nI_ng (by omega) (by omega)) ?_
  refine Ev.to 12 (L1 := [_, _, _, _, _]) (st1 := []) rfl ?_
  refine e_turnRow (tn := tn) hn s (by omega) (Nat.le_refl n) _ (hk i hi) none (fun z => ?_)
  refine Ev.to 999 rfl ?_
  refine Ev.tt (nI_gg (by omega)) ?_
  exact Ev.to 2 (L1 := [_, _, _, _, _]) rfl (Ev.fg k2 (le_cc (le_cc (le_cc (le_nc (le_nc le_nil))))))
theorem e_turnNo {n : Nat} {c : Int32} {tb tn : Nat → Int32} {tl : Nat} {se on : Nat → Int32} {dd : Int32} {ch ro ot ow tr tu ld : Nat → Int32} {lc : Nat} {cc br bw : Int32} (hn : n ≤ 8) (s : Int32) {i j : Nat} (hi : i < n) (hj : j < n) (h1 : ∀ i2, i2 < i → ∀ j, j < n → g_tk n tb s i2 j = true) (h2 : ∀ j2, j2 < j → g_tk n tb s i j2 = true) (h3 : g_tk n tb s i j = false) : ∃ tn2, Cl m_X3_turnBy [.inr 1, .inl s] (cw n c tb tn tl se on dd ch ro ot ow tr tu ld lc cc br bw) (some (.inl (bz false))) (cw n c tb (tn2) tl se on dd ch ro ot ow tr tu ld lc cc br bw) := by
  refine ⟨fd (g_ti n tb s i) (fd (g_tr n tb s) tn i) j, ?_⟩
  refine Ev.to 2 (L1 := [_, _, _, _, _]) (st1 := []) rfl ?_
  refine e_turnRows hn s (N := i) (by omega) h1 ?_
  refine Ev.to 999 rfl ?_
  refine Ev.ff (nI_ng hi (by omega)) ?_
  refine Ev.to 12 (L1 := [_, _, _, _, _]) (st1 := []) rfl ?_
  refine e_turnRow (tn := tn) hn s hi (N := j) (by omega) _ h2 none (fun z => ?_)
  refine Ev.to 999 rfl ?_
  refine Ev.ff (nI_ng hj (by omega)) ?_
  refine Ev.to 999 rfl ?_
  refine Ev.callV (rest := []) rfl rfl (e_turnedBetween hn (by omega) (by omega) _) ?_
  rw [g_tk] at h3
  generalize g_tv n tb s i j = v at h3 ⊢
  refine Ev.to 999 (L1 := [_, _, _, _, _]) rfl ?_
  refine Ev.callS (rest := []) rfl rfl (e_isWithin _ _ _ _) ?_
  refine Ev.to 999 rfl ?_
  refine Ev.tt (bz_f h3) ?_
  refine Ev.to 999 rfl ?_
  exact Ev.zret rfl rfl rfl rfl (Or.inl rfl)
theorem e_turnYes {n : Nat} {c : Int32} {tb tn : Nat → Int32} {tl : Nat} {se on : Nat → Int32} {dd : Int32} {ch ro ot ow tr tu ld : Nat → Int32} {lc : Nat} {cc br bw : Int32} (hn : n ≤ 8) (s : Int32) (hk : ∀ i, i < n → ∀ j, j < n → g_tk n tb s i j = true) : Cl m_X3_turnBy [.inr 1, .inl s] (cw n c tb tn tl se on dd ch ro ot ow tr tu ld lc cc br bw) (some (.inl (bz true))) (cw n (g_en n c tb s) (fd (g_cr n (fd (g_tr n tb s) tn n)) tb n) (fd (g_tr n tb s) tn n) tl se on dd ch ro ot ow tr tu ld lc cc br bw) := by
  refine Ev.to 2 (L1 := [_, _, _, _, _]) (st1 := []) rfl ?_
  refine e_turnRows hn s (N := n) (Nat.le_refl n) hk ?_
  generalize fd (g_tr n tb s) tn n = T
  refine Ev.to 999 rfl ?_
  refine Ev.tt (nI_gg (by omega)) ?_
  refine Ev.to 999 rfl ?_
  refine Ev.callV rfl rfl (e_energyOf hn _) ?_
  generalize g_en n c tb s = C
  refine Ev.to 78 (L1 := [_, _, _, _, _]) (st1 := []) (w1 := (cw n (C) tb (T) tl se on dd ch ro ot ow tr tu ld lc cc br bw)) rfl ?_
  refine Ev.loop (fun i => [some (.inr 1), some (.inl s), some (.inl (nI i)), none, none]) (fun i => (cw n (C) (fd (g_cr n T) tb i) (T) tl se on dd ch ro ot ow tr tu ld lc cc br bw)) (fun _ => True) 0 n (Nat.zero_le n) trivial (fun i _ hi _ kk => ?_) (fun _ => ?_)
  · have kk := kk trivial
    rw [nI_succ, fd, g_cr] at kk
    generalize fd (g_cr n T) tb i = F at kk ⊢
    refine Ev.to 999 rfl ?_
    refine Ev.ff (nI_ng hi (by omega)) ?_
    refine Ev.to 88 (L1 := [_, _, _, _, _]) (st1 := []) rfl ?_
    refine Ev.loop (fun j => [some (.inr 1), some (.inl s), some (.inl (nI i)), some (.inl (nI j)), none]) (fun j => (cw n (C) (fd (g_ci T i) F j) (T) tl se on dd ch ro ot ow tr tu ld lc cc br bw)) (fun _ => True) 0 n (Nat.zero_le n) trivial (fun j _ hj _ k2 => ?_) (fun _ => ?_)
    · have k2 := k2 trivial
      rw [nI_succ, fd, g_ci] at k2
      generalize fd (g_ci T i) F j = F2 at k2 ⊢
      refine Ev.to 999 rfl ?_
      refine Ev.ff (nI_ng hj (by omega)) ?_
      refine Ev.to 999 rfl ?_
      refine Ev.callS rfl rfl (e_place _ _ _) ?_
      refine Ev.to 999 rfl ?_
      refine Ev.callS rfl rfl (e_place _ _ _) ?_
      refine Ev.aldE (8 * i + j) (ni8 i j) rfl rfl (by omega) (by decide) ?_
      refine Ev.astE (8 * i + j) (ni8 i j) rfl rfl (by omega) (by decide) ?_
      exact Ev.to 88 (L1 := [_, _, _, _, _]) rfl k2
    · refine Ev.to 999 rfl ?_
      refine Ev.tt (nI_gg (by omega)) ?_
      exact Ev.to 78 (L1 := [_, _, _, _, _]) rfl (Ev.fg kk (le_cc (le_cc (le_cc (le_nc (le_cc le_nil))))))
  · refine Ev.to 999 rfl ?_
    refine Ev.tt (nI_gg (by omega)) ?_
    refine Ev.to 999 rfl ?_
    exact Ev.zret rfl rfl rfl rfl (Or.inr rfl)
end
section
/-! Laws -/
theorem e_lsize {n : Nat} {c : Int32} {tb tn : Nat → Int32} {tl : Nat} {se on : Nat → Int32} {dd : Int32} {ch ro ot ow tr tu ld : Nat → Int32} {lc : Nat} {cc br bw : Int32} : Cl m_X2_size [.inr 2] (cw n c tb tn tl se on dd ch ro ot ow tr tu ld lc cc br bw) (some (.inl (nI tl))) (cw n c tb tn tl se on dd ch ro ot ow tr tu ld lc cc br bw) := by
  refine Ev.to 999 rfl ?_
  exact Ev.iret rfl rfl rfl rfl
theorem e_forgetAll {n : Nat} {c : Int32} {tb tn : Nat → Int32} {tl : Nat} {se on : Nat → Int32} {dd : Int32} {ch ro ot ow tr tu ld : Nat → Int32} {lc : Nat} {cc br bw : Int32} : Cl m_X2_forgetAll [.inr 2] (cw n c tb tn tl se on dd ch ro ot ow tr tu ld lc cc br bw) none (cw n c tb tn (0) se on dd ch ro ot ow tr tu ld lc cc br bw) := by
  refine Ev.to 999 (w1 := (cw n c tb tn (0) se on dd ch ro ot ow tr tu ld lc cc br bw)) rfl ?_
  exact Ev.vret rfl rfl rfl
theorem e_addFull {n : Nat} {c : Int32} {tb tn : Nat → Int32} {tl : Nat} {se on : Nat → Int32} {dd : Int32} {ch ro ot ow tr tu ld : Nat → Int32} {lc : Nat} {cc br bw : Int32} (h : tl = 6) (s k : Int32) : Cl m_X2_add [.inr 2, .inl s, .inl k] (cw n c tb tn tl se on dd ch ro ot ow tr tu ld lc cc br bw) (some (.inl (-4))) (cw n c tb tn tl se on dd ch ro ot ow tr tu ld lc cc br bw) := by
  subst h
  refine Ev.to 999 (pc1 := 9) rfl ?_
  refine Ev.to 999 rfl ?_
  exact Ev.iret rfl rfl rfl rfl
theorem e_add {n : Nat} {c : Int32} {tb tn : Nat → Int32} {tl : Nat} {se on : Nat → Int32} {dd : Int32} {ch ro ot ow tr tu ld : Nat → Int32} {lc : Nat} {cc br bw : Int32} (h : tl < 6) (s k : Int32) : Cl m_X2_add [.inr 2, .inl s, .inl k] (cw n c tb tn tl se on dd ch ro ot ow tr tu ld lc cc br bw) (some (.inl (nI tl))) (cw n c tb tn (tl + 1) (upd se tl s) (upd on tl k) dd ch ro ot ow tr tu ld lc cc br bw) := by
  refine Ev.to 999 rfl ?_
  refine Ev.tt (nI_lt (b := 6) h (by omega)) ?_
  refine Ev.to 999 rfl ?_
  refine Ev.ast rfl rfl h (by decide) ?_
  refine Ev.to 999 rfl ?_
  refine Ev.ast rfl rfl h (by decide) ?_
  have e : (cw n c tb tn (tl + 1) (upd se tl s) (upd on tl k) dd ch ro ot ow tr tu ld lc cc br bw) = List.set (cw n c tb tn tl (upd se tl s) (upd on tl k) dd ch ro ot ow tr tu ld lc cc br bw) 2 (.inr (2, [.inr 9, .inr 10, .inl (nI tl + 1)])) := by rw [← nI_succ]; rfl
  rw [e]
  refine Ev.to 999 rfl ?_
  refine Ev.iret rfl rfl ?_ rfl
  show Sum.inl (nI tl + 1 - 1) = _
  rw [← nI_succ, nI_pred]
theorem e_dropNo {n : Nat} {c : Int32} {tb tn : Nat → Int32} {tl : Nat} {se on : Nat → Int32} {dd : Int32} {ch ro ot ow tr tu ld : Nat → Int32} {lc : Nat} {cc br bw : Int32} (h : tl = 0) : Cl m_X2_dropLast [.inr 2] (cw n c tb tn tl se on dd ch ro ot ow tr tu ld lc cc br bw) (some (.inl (-3))) (cw n c tb tn tl se on dd ch ro ot ow tr tu ld lc cc br bw) := by
  subst h
  refine Ev.to 999 (pc1 := 7) rfl ?_
  refine Ev.to 999 rfl ?_
  exact Ev.iret rfl rfl rfl rfl
theorem e_drop {n : Nat} {c : Int32} {tb tn : Nat → Int32} {tl : Nat} {se on : Nat → Int32} {dd : Int32} {ch ro ot ow tr tu ld : Nat → Int32} {lc : Nat} {cc br bw : Int32} (h : tl < 6) : Cl m_X2_dropLast [.inr 2] (cw n c tb tn (tl + 1) se on dd ch ro ot ow tr tu ld lc cc br bw) (some (.inl (nI tl))) (cw n c tb tn tl se on dd ch ro ot ow tr tu ld lc cc br bw) := by
  refine Ev.to 999 rfl ?_
  refine Ev.ff (nI_ne0 (by omega) (by omega)) ?_
  have e : (cw n c tb tn tl se on dd ch ro ot ow tr tu ld lc cc br bw) = List.set (cw n c tb tn (tl + 1) se on dd ch ro ot ow tr tu ld lc cc br bw) 2 (.inr (2, [.inr 9, .inr 10, .inl (nI (tl + 1) - 1)])) := by rw [nI_pred]; rfl
  rw [e]
  refine Ev.to 999 rfl ?_
  exact Ev.iret rfl rfl (congrArg Sum.inl (nI_pred tl)) rfl
def g_ms (se on : Nat → Int32) (s : Int32) (l : Nat) (a : Int32) : Int32 := a + (ibc (s &&& se l) - on l) * (ibc (s &&& se l) - on l)
def g_mis (tl : Nat) (se on : Nat → Int32) (s : Int32) : Int32 := fd (g_ms se on s) 0 tl
theorem e_missedBy {n : Nat} {c : Int32} {tb tn : Nat → Int32} {tl : Nat} {se on : Nat → Int32} {dd : Int32} {ch ro ot ow tr tu ld : Nat → Int32} {lc : Nat} {cc br bw : Int32} (ht : tl ≤ 6) (s : Int32) : Cl m_X2_missedBy [.inr 2, .inl s] (cw n c tb tn tl se on dd ch ro ot ow tr tu ld lc cc br bw) (some (.inl (g_mis tl se on s))) (cw n c tb tn tl se on dd ch ro ot ow tr tu ld lc cc br bw) := by
  refine Ev.to 4 (L1 := [_, _, _, _, _]) (st1 := []) rfl ?_
  refine Ev.loop (fun l => [some (.inr 2), some (.inl s), some (.inl (fd (g_ms se on s) 0 l)), some (.inl (nI l)), none]) (fun _ => (cw n c tb tn tl se on dd ch ro ot ow tr tu ld lc cc br bw)) (fun _ => True) 0 tl (Nat.zero_le tl) trivial (fun l _ hl _ kk => ?_) (fun _ => ?_)
  · have kk := kk trivial
    rw [nI_succ, fd, g_ms] at kk
    refine Ev.to 999 rfl ?_
    refine Ev.ff (nI_ng hl (by omega)) ?_
    refine Ev.to 999 rfl ?_
    refine Ev.ald rfl rfl (by omega) (by decide) ?_
    refine Ev.to 999 rfl ?_
    refine Ev.callS rfl rfl (j_bc _ _) ?_
    refine Ev.to 999 rfl ?_
    refine Ev.ald rfl rfl (by omega) (by decide) ?_
    exact Ev.to 4 (L1 := [_, _, _, _, _]) rfl (Ev.fg kk (le_cc (le_cc (le_cc (le_cc (le_nc le_nil))))))
  · refine Ev.to 999 rfl ?_
    refine Ev.tt (nI_gg (by omega)) ?_
    refine Ev.to 999 rfl ?_
    exact Ev.iret rfl rfl rfl rfl
end
section
/-! Grid -/
def anyB (p : Nat → Bool) (n : Nat) : Bool := (List.range n).any p
theorem anyB_t {p : Nat → Bool} {n i : Nat} (hi : i < n) (h : p i = true) : anyB p n = true := List.any_eq_true.mpr ⟨i, List.mem_range.mpr hi, h⟩
theorem anyB_f {p : Nat → Bool} {n : Nat} (h : ∀ i, i < n → p i = false) : anyB p n = false := by
  cases e : anyB p n with
  | false => rfl
  | true =>
    obtain ⟨i, h1, h2⟩ := List.any_eq_true.mp e
    rw [h i (List.mem_range.mp h1)] at h2; cases h2
theorem lt_s' {i : Nat} {p : Nat → Prop} (h : ∀ a, a < i → p a) (hi : p i) : ∀ a, a < i + 1 → p a := lt_s h hi
def g_nb (x : Int32) : Int32 := ((((x &&& (-33826)) >>> ((1 : Int32) &&& 31)) ||| ((x &&& (-541201)) <<< ((1 : Int32) &&& 31))) ||| (x >>> ((5 : Int32) &&& 31))) ||| ((x <<< ((5 : Int32) &&& 31)) &&& 1048575)
theorem e_nb (x : Int32) (w : ix_W) : Cl m_X1_neighboursOf [.inl x] w (some (.inl (g_nb x))) w := by
  refine Ev.to 999 rfl ?_
  exact Ev.iret rfl rfl rfl rfl
def g_hs (x : Int32) (_ : Nat) (r : Int32) : Int32 := r ||| (x &&& g_nb r)
def g_ht (x : Int32) : Bool := decide (fd (g_hs x) (x &&& (-x)) 20 = x)
theorem e_hangs (x : Int32) (w : ix_W) : Cl m_X1_hangsTogether [.inl x] w (some (.inl (bz (g_ht x)))) w := by
  refine Ev.to 999 rfl ?_
  refine Ev.callS (rest := []) rfl rfl (j_low _ _) ?_
  rw [g_ht]
  generalize x &&& (-x) = r0
  refine Ev.to 7 (L1 := [_, _, _]) (st1 := []) rfl ?_
  refine Ev.loop (fun i => [some (.inl x), some (.inl (fd (g_hs x) r0 i)), some (.inl (nI i))]) (fun _ => w) (fun _ => True) 0 20 (by omega) trivial (fun i _ hi _ kk => ?_) (fun _ => ?_)
  · have kk := kk trivial
    rw [nI_succ, fd, g_hs] at kk
    generalize fd (g_hs x) r0 i = r at kk ⊢
    refine Ev.to 999 rfl ?_
    refine Ev.ff (nI_ng (n := 20) hi (by omega)) ?_
    refine Ev.to 999 rfl ?_
    refine Ev.callS rfl rfl (e_nb _ _) ?_
    exact Ev.to 7 (L1 := [_, _, _]) rfl kk
  · generalize fd (g_hs x) r0 20 = r
    refine Ev.to 999 (pc1 := 28) rfl ?_
    refine Ev.to 999 rfl ?_
    refine Ev.if_ (fun h => ?_) (fun h => ?_)
    · refine Ev.to 999 rfl ?_
      exact Ev.zret rfl rfl (by rw [bz_t (decide_eq_true h)]) rfl (Or.inr rfl)
    · refine Ev.to 999 rfl ?_
      exact Ev.zret rfl rfl (by rw [bz_f (decide_eq_false h)]) rfl (Or.inl rfl)
theorem e_isDead {n : Nat} {c : Int32} {tb tn : Nat → Int32} {tl : Nat} {se on : Nat → Int32} {dd : Int32} {ch ro ot ow tr tu ld : Nat → Int32} {lc : Nat} {cc br bw : Int32} (q : Nat) : Cl m_X1_isDead [.inr 3, .inl (nI q)] (cw n c tb tn tl se on dd ch ro ot ow tr tu ld lc cc br bw) (some (.inl (bz (bb dd q)))) (cw n c tb tn tl se on dd ch ro ot ow tr tu ld lc cc br bw) := by
  refine Ev.to 999 rfl ?_
  refine Ev.callS rfl rfl (e_isIn _ _ _) ?_
  exact Ev.zret rfl rfl rfl rfl (bz_01 _)
def g_sd (dd : Int32) (q : Int32) (b : Int32) : Int32 := if b = 0 then dd &&& (((1 : Int32) <<< (q &&& 31)) ^^^ (-1)) else dd ||| ((1 : Int32) <<< (q &&& 31))
theorem e_setDead {n : Nat} {c : Int32} {tb tn : Nat → Int32} {tl : Nat} {se on : Nat → Int32} {dd : Int32} {ch ro ot ow tr tu ld : Nat → Int32} {lc : Nat} {cc br bw : Int32} (q b : Int32) : Cl m_X1_setDead [.inr 3, .inl q, .inl b] (cw n c tb tn tl se on dd ch ro ot ow tr tu ld lc cc br bw) none (cw n c tb tn tl se on (g_sd dd q b) ch ro ot ow tr tu ld lc cc br bw) := by
  refine Ev.to 999 rfl ?_
  refine Ev.if_ (fun h => ?_) (fun h => ?_)
  · rw [g_sd, if_pos h]
    refine Ev.to 999 (w1 := (cw n c tb tn tl se on (dd &&& (((1 : Int32) <<< (q &&& 31)) ^^^ (-1))) ch ro ot ow tr tu ld lc cc br bw)) rfl ?_
    exact Ev.vret rfl rfl rfl
  · rw [g_sd, if_neg h]
    refine Ev.to 999 (w1 := (cw n c tb tn tl se on (dd ||| ((1 : Int32) <<< (q &&& 31))) ch ro ot ow tr tu ld lc cc br bw)) rfl ?_
    exact Ev.vret rfl rfl rfl
theorem e_deadCells {n : Nat} {c : Int32} {tb tn : Nat → Int32} {tl : Nat} {se on : Nat → Int32} {dd : Int32} {ch ro ot ow tr tu ld : Nat → Int32} {lc : Nat} {cc br bw : Int32} : Cl m_X1_deadCells [.inr 3] (cw n c tb tn tl se on dd ch ro ot ow tr tu ld lc cc br bw) (some (.inl (ibc dd))) (cw n c tb tn tl se on dd ch ro ot ow tr tu ld lc cc br bw) := by
  refine Ev.to 999 rfl ?_
  refine Ev.callS rfl rfl (j_bc _ _) ?_
  exact Ev.iret rfl rfl rfl rfl
theorem e_setChain {n : Nat} {c : Int32} {tb tn : Nat → Int32} {tl : Nat} {se on : Nat → Int32} {dd : Int32} {ch ro ot ow tr tu ld : Nat → Int32} {lc : Nat} {cc br bw : Int32} {i : Nat} (hi : i < 8) (x : Int32) : Cl m_X1_setChain [.inr 3, .inl (nI i), .inl x] (cw n c tb tn tl se on dd ch ro ot ow tr tu ld lc cc br bw) none (cw n c tb tn tl se on dd (upd ch i x) ro ot ow tr tu ld lc cc br bw) := by
  refine Ev.to 999 rfl ?_
  refine Ev.ast rfl rfl hi (by decide) ?_
  exact Ev.vret rfl rfl rfl
theorem e_forgetChains {n : Nat} {c : Int32} {tb tn : Nat → Int32} {tl : Nat} {se on : Nat → Int32} {dd : Int32} {ch ro ot ow tr tu ld : Nat → Int32} {lc : Nat} {cc br bw : Int32} : Cl m_X1_forgetChains [.inr 3] (cw n c tb tn tl se on dd ch ro ot ow tr tu ld lc cc br bw) none (cw n c tb tn tl se on dd (fd (fun j f => upd f j 0) ch 8) ro ot ow tr tu ld lc cc br bw) := by
  refine Ev.to 2 (L1 := [_, _]) (st1 := []) rfl ?_
  refine Ev.loop (fun j => [some (.inr 3), some (.inl (nI j))]) (fun j => (cw n c tb tn tl se on dd (fd (fun j f => upd f j 0) ch j) ro ot ow tr tu ld lc cc br bw)) (fun _ => True) 0 8 (by omega) trivial (fun j _ hj _ kk => ?_) (fun _ => ?_)
  · have kk := kk trivial
    rw [nI_succ, fd] at kk
    refine Ev.to 999 rfl ?_
    refine Ev.ff (nI_ng (n := 8) hj (by omega)) ?_
    refine Ev.to 999 rfl ?_
    refine Ev.ast rfl rfl hj (by decide) ?_
    exact Ev.to 2 (L1 := [_, _]) rfl kk
  · refine Ev.to 999 (pc1 := 24) rfl ?_
    exact Ev.vret rfl rfl rfl
theorem e_leastCellOf {n : Nat} {c : Int32} {tb tn : Nat → Int32} {tl : Nat} {se on : Nat → Int32} {dd : Int32} {ch ro ot ow tr tu ld : Nat → Int32} {lc : Nat} {cc br bw : Int32} {i : Nat} (hi : i < 8) : Cl m_X1_leastCellOf [.inr 3, .inl (nI i)] (cw n c tb tn tl se on dd ch ro ot ow tr tu ld lc cc br bw) (some (.inl (itz (ch i)))) (cw n c tb tn tl se on dd ch ro ot ow tr tu ld lc cc br bw) := by
  refine Ev.to 999 rfl ?_
  refine Ev.ald rfl rfl hi (by decide) ?_
  refine Ev.callS rfl rfl (j_tz _ _) ?_
  exact Ev.iret rfl rfl rfl rfl
def g_all (ch : Nat → Int32) (i : Nat) (a : Int32) : Int32 := a ||| ch i
def g_tog (ch : Nat → Int32) (i : Nat) (a : Int32) : Int32 := a + ibc (ch i)
def g_bri (ch : Nat → Int32) (i : Nat) (a : Int32) : Int32 := a ||| ((ch i &&& (ch i >>> ((1 : Int32) &&& 31))) &&& (-541201))
def g_bbe (ch : Nat → Int32) (i : Nat) (a : Int32) : Int32 := a ||| (ch i &&& (ch i >>> ((5 : Int32) &&& 31)))
theorem e_cells {n : Nat} {c : Int32} {tb tn : Nat → Int32} {tl : Nat} {se on : Nat → Int32} {dd : Int32} {ch ro ot ow tr tu ld : Nat → Int32} {lc : Nat} {cc br bw : Int32} : Cl m_X1_cellsOfChains [.inr 3] (cw n c tb tn tl se on dd ch ro ot ow tr tu ld lc cc br bw) (some (.inl (fd (g_all ch) 0 8))) (cw n c tb tn tl se on dd ch ro ot ow tr tu ld lc cc br bw) := by
  refine Ev.to 4 (L1 := [_, _, _]) (st1 := []) rfl ?_
  refine Ev.loop (fun j => [some (.inr 3), some (.inl (fd (g_all ch) 0 j)), some (.inl (nI j))]) (fun _ => (cw n c tb tn tl se on dd ch ro ot ow tr tu ld lc cc br bw)) (fun _ => True) 0 8 (by omega) trivial (fun j _ hj _ kk => ?_) (fun _ => ?_)
  · have kk := kk trivial
    rw [nI_succ, fd, g_all] at kk
    generalize fd (g_all ch) 0 j = a at kk ⊢
    refine Ev.to 999 rfl ?_
    refine Ev.ff (nI_ng (n := 8) hj (by omega)) ?_
    refine Ev.to 999 rfl ?_
    refine Ev.ald rfl rfl hj (by decide) ?_
    exact Ev.to 4 (L1 := [_, _, _]) rfl kk
  · refine Ev.to 999 (pc1 := 28) rfl ?_
    refine Ev.to 999 rfl ?_
    exact Ev.iret rfl rfl rfl rfl
theorem e_lengths {n : Nat} {c : Int32} {tb tn : Nat → Int32} {tl : Nat} {se on : Nat → Int32} {dd : Int32} {ch ro ot ow tr tu ld : Nat → Int32} {lc : Nat} {cc br bw : Int32} : Cl m_X1_chainLengths [.inr 3] (cw n c tb tn tl se on dd ch ro ot ow tr tu ld lc cc br bw) (some (.inl (fd (g_tog ch) 0 8))) (cw n c tb tn tl se on dd ch ro ot ow tr tu ld lc cc br bw) := by
  refine Ev.to 4 (L1 := [_, _, _]) (st1 := []) rfl ?_
  refine Ev.loop (fun j => [some (.inr 3), some (.inl (fd (g_tog ch) 0 j)), some (.inl (nI j))]) (fun _ => (cw n c tb tn tl se on dd ch ro ot ow tr tu ld lc cc br bw)) (fun _ => True) 0 8 (by omega) trivial (fun j _ hj _ kk => ?_) (fun _ => ?_)
  · have kk := kk trivial
    rw [nI_succ, fd, g_tog] at kk
    generalize fd (g_tog ch) 0 j = a at kk ⊢
    refine Ev.to 999 rfl ?_
    refine Ev.ff (nI_ng (n := 8) hj (by omega)) ?_
    refine Ev.to 999 rfl ?_
    refine Ev.ald rfl rfl hj (by decide) ?_
    refine Ev.callS rfl rfl (j_bc _ _) ?_
    exact Ev.to 4 (L1 := [_, _, _]) rfl kk
  · refine Ev.to 999 (pc1 := 31) rfl ?_
    refine Ev.to 999 rfl ?_
    exact Ev.iret rfl rfl rfl rfl
theorem e_right {n : Nat} {c : Int32} {tb tn : Nat → Int32} {tl : Nat} {se on : Nat → Int32} {dd : Int32} {ch ro ot ow tr tu ld : Nat → Int32} {lc : Nat} {cc br bw : Int32} : Cl m_X1_boundToRight [.inr 3] (cw n c tb tn tl se on dd ch ro ot ow tr tu ld lc cc br bw) (some (.inl (fd (g_bri ch) 0 8))) (cw n c tb tn tl se on dd ch ro ot ow tr tu ld lc cc br bw) := by
  refine Ev.to 4 (L1 := [_, _, _]) (st1 := []) rfl ?_
  refine Ev.loop (fun j => [some (.inr 3), some (.inl (fd (g_bri ch) 0 j)), some (.inl (nI j))]) (fun _ => (cw n c tb tn tl se on dd ch ro ot ow tr tu ld lc cc br bw)) (fun _ => True) 0 8 (by omega) trivial (fun j _ hj _ kk => ?_) (fun _ => ?_)
  · have kk := kk trivial
    rw [nI_succ, fd, g_bri] at kk
    generalize fd (g_bri ch) 0 j = a at kk ⊢
    refine Ev.to 999 rfl ?_
    refine Ev.ff (nI_ng (n := 8) hj (by omega)) ?_
    refine Ev.to 999 rfl ?_
    refine Ev.ald rfl rfl hj (by decide) ?_
    refine Ev.to 999 rfl ?_
    refine Ev.ald rfl rfl hj (by decide) ?_
    exact Ev.to 4 (L1 := [_, _, _]) rfl kk
  · refine Ev.to 999 (pc1 := 40) rfl ?_
    refine Ev.to 999 rfl ?_
    exact Ev.iret rfl rfl rfl rfl
theorem e_below {n : Nat} {c : Int32} {tb tn : Nat → Int32} {tl : Nat} {se on : Nat → Int32} {dd : Int32} {ch ro ot ow tr tu ld : Nat → Int32} {lc : Nat} {cc br bw : Int32} : Cl m_X1_boundToBelow [.inr 3] (cw n c tb tn tl se on dd ch ro ot ow tr tu ld lc cc br bw) (some (.inl (fd (g_bbe ch) 0 8))) (cw n c tb tn tl se on dd ch ro ot ow tr tu ld lc cc br bw) := by
  refine Ev.to 4 (L1 := [_, _, _]) (st1 := []) rfl ?_
  refine Ev.loop (fun j => [some (.inr 3), some (.inl (fd (g_bbe ch) 0 j)), some (.inl (nI j))]) (fun _ => (cw n c tb tn tl se on dd ch ro ot ow tr tu ld lc cc br bw)) (fun _ => True) 0 8 (by omega) trivial (fun j _ hj _ kk => ?_) (fun _ => ?_)
  · have kk := kk trivial
    rw [nI_succ, fd, g_bbe] at kk
    generalize fd (g_bbe ch) 0 j = a at kk ⊢
    refine Ev.to 999 rfl ?_
    refine Ev.ff (nI_ng (n := 8) hj (by omega)) ?_
    refine Ev.to 999 rfl ?_
    refine Ev.ald rfl rfl hj (by decide) ?_
    refine Ev.to 999 rfl ?_
    refine Ev.ald rfl rfl hj (by decide) ?_
    exact Ev.to 4 (L1 := [_, _, _]) rfl kk
  · refine Ev.to 999 (pc1 := 37) rfl ?_
    refine Ev.to 999 rfl ?_
    exact Ev.iret rfl rfl rfl rfl
theorem e_linkFrom {n : Nat} {c : Int32} {tb tn : Nat → Int32} {tl : Nat} {se on : Nat → Int32} {dd : Int32} {ch ro ot ow tr tu ld : Nat → Int32} {lc : Nat} {cc br bw : Int32} {i j : Nat} (hi : i < 8) (hj : j < 8) : Cl m_X1_linkFrom [.inr 3, .inl (nI i), .inl (nI j)] (cw n c tb tn tl se on dd ch ro ot ow tr tu ld lc cc br bw) (some (.inl (itz (ch i &&& g_nb (ch j))))) (cw n c tb tn tl se on dd ch ro ot ow tr tu ld lc cc br bw) := by
  refine Ev.to 999 rfl ?_
  refine Ev.ald rfl rfl hi (by decide) ?_
  refine Ev.to 999 rfl ?_
  refine Ev.ald rfl rfl hj (by decide) ?_
  refine Ev.callS rfl rfl (e_nb _ _) ?_
  refine Ev.to 999 rfl ?_
  refine Ev.callS rfl rfl (j_tz _ _) ?_
  exact Ev.iret rfl rfl rfl rfl
theorem e_linkTo {n : Nat} {c : Int32} {tb tn : Nat → Int32} {tl : Nat} {se on : Nat → Int32} {dd : Int32} {ch ro ot ow tr tu ld : Nat → Int32} {lc : Nat} {cc br bw : Int32} (x : Int32) {j : Nat} (hj : j < 8) : Cl m_X1_linkTo [.inr 3, .inl x, .inl (nI j)] (cw n c tb tn tl se on dd ch ro ot ow tr tu ld lc cc br bw) (some (.inl (itz (ch j &&& g_nb ((1 : Int32) <<< (x &&& 31)))))) (cw n c tb tn tl se on dd ch ro ot ow tr tu ld lc cc br bw) := by
  refine Ev.to 999 rfl ?_
  refine Ev.ald rfl rfl hj (by decide) ?_
  refine Ev.to 999 rfl ?_
  refine Ev.callS rfl rfl (e_nb _ _) ?_
  refine Ev.to 999 rfl ?_
  refine Ev.callS rfl rfl (j_tz _ _) ?_
  exact Ev.iret rfl rfl rfl rfl
def g_mo (x y : Int32) (m : Nat) : Int32 := if ibc (x &&& y) = ibc x - ibc (x &&& y) then bz (bb y m) else if ibc (x &&& y) ≤ ibc x - ibc (x &&& y) then 0 else 1
theorem e_mostOf {n : Nat} {c : Int32} {tb tn : Nat → Int32} {tl : Nat} {se on : Nat → Int32} {dd : Int32} {ch ro ot ow tr tu ld : Nat → Int32} {lc : Nat} {cc br bw : Int32} {i m : Nat} (hi : i < 8) (hm : itz (ch i) = nI m) (y : Int32) : Cl m_X1_mostOf [.inr 3, .inl (nI i), .inl y] (cw n c tb tn tl se on dd ch ro ot ow tr tu ld lc cc br bw) (some (.inl (g_mo (ch i) y m))) (cw n c tb tn tl se on dd ch ro ot ow tr tu ld lc cc br bw) := by
  rw [g_mo]
  refine Ev.to 999 rfl ?_
  refine Ev.ald rfl rfl hi (by decide) ?_
  refine Ev.to 999 rfl ?_
  refine Ev.callS rfl rfl (j_bc _ _) ?_
  refine Ev.to 999 (L1 := [_, _, _, _, _]) rfl ?_
  refine Ev.ald rfl rfl hi (by decide) ?_
  refine Ev.callS rfl rfl (j_bc _ _) ?_
  refine Ev.to 25 (L1 := [_, _, _, _, _]) (st1 := []) rfl ?_
  show Ev _ 25 [_, _, _, some (.inl (ibc (ch i &&& y))), some (.inl (ibc (ch i) - ibc (ch i &&& y)))] _ _ _
  generalize ibc (ch i) - ibc (ch i &&& y) = z
  generalize ibc (ch i &&& y) = o
  refine Ev.to 999 rfl ?_
  refine Ev.if_ (fun h => ?_) (fun h => ?_)
  · refine Ev.to 999 rfl ?_
    refine Ev.callV rfl rfl (Cl.eq (e_leastCellOf hi) rfl (by rw [hm])) ?_
    refine Ev.callS (rest := []) rfl rfl (e_isIn _ m _) ?_
    refine Ev.to 999 rfl ?_
    refine Ev.on (fun hb => ?_) (fun hb => ?_)
    · refine Ev.to 999 rfl ?_
      exact Ev.iret rfl rfl (by rw [if_pos h, bz_f hb]) rfl
    · refine Ev.to 999 rfl ?_
      exact Ev.iret rfl rfl (by rw [if_pos h, bz_t hb]) rfl
  · refine Ev.to 999 rfl ?_
    refine Ev.if_ (fun h2 => ?_) (fun h2 => ?_)
    · refine Ev.to 999 rfl ?_
      exact Ev.iret rfl rfl (by rw [if_neg h, if_pos h2]) rfl
    · refine Ev.to 999 rfl ?_
      exact Ev.iret rfl rfl (by rw [if_neg h, if_neg h2]) rfl
def g_p1 (ch : Nat → Int32) (i : Nat) : Bool := decide (ch i = 0)
theorem e_isAnyEmpty {n : Nat} {c : Int32} {tb tn : Nat → Int32} {tl : Nat} {se on : Nat → Int32} {dd : Int32} {ch ro ot ow tr tu ld : Nat → Int32} {lc : Nat} {cc br bw : Int32} (hn : n ≤ 8) : Cl m_X1_isAnyEmpty [.inr 3, .inl (nI n)] (cw n c tb tn tl se on dd ch ro ot ow tr tu ld lc cc br bw) (some (.inl (bz (anyB (g_p1 ch) n)))) (cw n c tb tn tl se on dd ch ro ot ow tr tu ld lc cc br bw) := by
  refine Ev.to 2 (L1 := [_, _, _]) (st1 := []) rfl ?_
  refine Ev.loop (fun i => [some (.inr 3), some (.inl (nI n)), some (.inl (nI i))]) (fun _ => (cw n c tb tn tl se on dd ch ro ot ow tr tu ld lc cc br bw)) (fun i => ∀ j, j < i → g_p1 ch j = false) 0 n (Nat.zero_le n) (fun j hj => absurd hj (by omega)) (fun i _ hi hp kk => ?_) (fun hp => ?_)
  · rw [nI_succ] at kk
    refine Ev.to 999 rfl ?_
    refine Ev.ff (nI_ng hi (by omega)) ?_
    refine Ev.to 999 rfl ?_
    refine Ev.ald rfl rfl (by omega) (by decide) ?_
    refine Ev.to 999 rfl ?_
    refine Ev.if_ (fun h => ?_) (fun h => ?_)
    · refine Ev.to 999 rfl ?_
      exact Ev.zret rfl rfl (by rw [bz_t (anyB_t hi (decide_eq_true h))]) rfl (Or.inr rfl)
    · exact Ev.to 2 (L1 := [_, _, _]) rfl (kk (lt_s' hp (decide_eq_false h)))
  · refine Ev.to 999 rfl ?_
    refine Ev.tt (nI_gg (by omega)) ?_
    refine Ev.to 999 rfl ?_
    exact Ev.zret rfl rfl (by rw [bz_f (anyB_f hp)]) rfl (Or.inl rfl)
def g_p4 (ch : Nat → Int32) (i : Nat) : Bool := !g_ht (ch i)
theorem e_isAnyTorn {n : Nat} {c : Int32} {tb tn : Nat → Int32} {tl : Nat} {se on : Nat → Int32} {dd : Int32} {ch ro ot ow tr tu ld : Nat → Int32} {lc : Nat} {cc br bw : Int32} (hn : n ≤ 8) : Cl m_X1_isAnyTorn [.inr 3, .inl (nI n)] (cw n c tb tn tl se on dd ch ro ot ow tr tu ld lc cc br bw) (some (.inl (bz (anyB (g_p4 ch) n)))) (cw n c tb tn tl se on dd ch ro ot ow tr tu ld lc cc br bw) := by
  refine Ev.to 2 (L1 := [_, _, _]) (st1 := []) rfl ?_
  refine Ev.loop (fun i => [some (.inr 3), some (.inl (nI n)), some (.inl (nI i))]) (fun _ => (cw n c tb tn tl se on dd ch ro ot ow tr tu ld lc cc br bw)) (fun i => ∀ j, j < i → g_p4 ch j = false) 0 n (Nat.zero_le n) (fun j hj => absurd hj (by omega)) (fun i _ hi hp kk => ?_) (fun hp => ?_)
  · rw [nI_succ] at kk
    refine Ev.to 999 rfl ?_
    refine Ev.ff (nI_ng hi (by omega)) ?_
    refine Ev.to 999 rfl ?_
    refine Ev.ald rfl rfl (by omega) (by decide) ?_
    refine Ev.callS (rest := []) rfl rfl (e_hangs _ _) ?_
    refine Ev.to 999 rfl ?_
    refine Ev.on (fun h => ?_) (fun h => ?_)
    · refine Ev.to 999 rfl ?_
      exact Ev.zret rfl rfl (by rw [bz_t (anyB_t hi (by rw [g_p4, h]; rfl))]) rfl (Or.inr rfl)
    · exact Ev.to 2 (L1 := [_, _, _]) rfl (kk (lt_s' hp (by rw [g_p4, h]; rfl)))
  · refine Ev.to 999 rfl ?_
    refine Ev.tt (nI_gg (by omega)) ?_
    refine Ev.to 999 rfl ?_
    exact Ev.zret rfl rfl (by rw [bz_f (anyB_f hp)]) rfl (Or.inl rfl)
def g_p5i (tb ch : Nat → Int32) (i j : Nat) : Bool := decide (¬ tb (8 * i + j) = 0 ∧ ch i &&& g_nb (ch j) = 0)
def g_p5 (tb ch : Nat → Int32) (i : Nat) : Bool := anyB (g_p5i tb ch i) i
theorem e_isAnyPairApart {n : Nat} {c : Int32} {tb tn : Nat → Int32} {tl : Nat} {se on : Nat → Int32} {dd : Int32} {ch ro ot ow tr tu ld : Nat → Int32} {lc : Nat} {cc br bw : Int32} (hn : n ≤ 8) : Cl m_X1_isAnyPairApart [.inr 3, .inr 1] (cw n c tb tn tl se on dd ch ro ot ow tr tu ld lc cc br bw) (some (.inl (bz (anyB (g_p5 tb ch) n)))) (cw n c tb tn tl se on dd ch ro ot ow tr tu ld lc cc br bw) := by
  refine Ev.to 2 (L1 := [_, _, _, _]) (st1 := []) rfl ?_
  refine Ev.loop (fun i => [some (.inr 3), some (.inr 1), some (.inl (nI i)), none]) (fun _ => (cw n c tb tn tl se on dd ch ro ot ow tr tu ld lc cc br bw)) (fun i => ∀ j, j < i → g_p5 tb ch j = false) 0 n (Nat.zero_le n) (fun j hj => absurd hj (by omega)) (fun i _ hi hp kk => ?_) (fun hp => ?_)
  · rw [nI_succ] at kk
    refine Ev.to 999 rfl ?_
    refine Ev.callV rfl rfl e_size ?_
    refine Ev.to 999 rfl ?_
    refine Ev.ff (nI_ng hi (by omega)) ?_
    refine Ev.to 12 (L1 := [_, _, _, _]) (st1 := []) rfl ?_
    refine Ev.loop (fun j => [some (.inr 3), some (.inr 1), some (.inl (nI i)), some (.inl (nI j))]) (fun _ => (cw n c tb tn tl se on dd ch ro ot ow tr tu ld lc cc br bw)) (fun j => ∀ q, q < j → g_p5i tb ch i q = false) 0 i (Nat.zero_le i) (fun j hj => absurd hj (by omega)) (fun j _ hj hp2 k2 => ?_) (fun hp2 => ?_)
    · rw [nI_succ] at k2
      refine Ev.to 999 rfl ?_
      refine Ev.ff (nI_ng hj (by omega)) ?_
      refine Ev.to 999 rfl ?_
      refine Ev.callV (rest := []) rfl rfl (e_between (by omega) (by omega)) ?_
      refine Ev.to 999 rfl ?_
      refine Ev.if_ (fun h => ?_) (fun h => ?_)
      · exact Ev.to 12 (L1 := [_, _, _, _]) rfl (k2 (lt_s' hp2 (decide_eq_false (fun q => q.1 h))))
      · refine Ev.to 999 rfl ?_
        refine Ev.ald rfl rfl (by omega) (by decide) ?_
        refine Ev.to 999 rfl ?_
        refine Ev.ald rfl rfl (by omega) (by decide) ?_
        refine Ev.callS rfl rfl (e_nb _ _) ?_
        refine Ev.to 999 rfl ?_
        refine Ev.if_ (fun h2 => ?_) (fun h2 => ?_)
        · refine Ev.to 999 rfl ?_
          exact Ev.zret rfl rfl (by rw [bz_t (show anyB (g_p5 tb ch) n = true from anyB_t hi (show g_p5 tb ch i = true from anyB_t hj (decide_eq_true ⟨h, h2⟩)))]) rfl (Or.inr rfl)
        · exact Ev.to 12 (L1 := [_, _, _, _]) rfl (k2 (lt_s' hp2 (decide_eq_false (fun q => h2 q.2))))
    · refine Ev.to 999 rfl ?_
      refine Ev.tt (nI_gg (by omega)) ?_
      exact Ev.to 2 (L1 := [_, _, _, _]) rfl (Ev.fg (kk (lt_s' hp (anyB_f hp2))) (le_cc (le_cc (le_cc (le_nc le_nil)))))
  · refine Ev.to 999 rfl ?_
    refine Ev.callV rfl rfl e_size ?_
    refine Ev.to 999 rfl ?_
    refine Ev.tt (nI_gg (by omega)) ?_
    refine Ev.to 999 rfl ?_
    exact Ev.zret rfl rfl (by rw [bz_f (anyB_f hp)]) rfl (Or.inl rfl)
def g_ff (n : Nat) (tb ch : Nat → Int32) (dd : Int32) : Int32 := if anyB (g_p1 ch) n = true then 1 else if ¬ fd (g_all ch) 0 8 &&& dd = 0 then 2 else if ¬ fd (g_tog ch) 0 8 = ibc (fd (g_all ch) 0 8) then 3 else if anyB (g_p4 ch) n = true then 4 else if anyB (g_p5 tb ch) n = true then 5 else if fd (g_tog ch) 0 8 ≤ 14 then 0 else 6
theorem e_firstFailing {n : Nat} {c : Int32} {tb tn : Nat → Int32} {tl : Nat} {se on : Nat → Int32} {dd : Int32} {ch ro ot ow tr tu ld : Nat → Int32} {lc : Nat} {cc br bw : Int32} (hn : n ≤ 8) : Cl m_X1_firstFailing [.inr 3, .inr 1] (cw n c tb tn tl se on dd ch ro ot ow tr tu ld lc cc br bw) (some (.inl (g_ff n tb ch dd))) (cw n c tb tn tl se on dd ch ro ot ow tr tu ld lc cc br bw) := by
  rw [g_ff]
  refine Ev.to 999 rfl ?_
  refine Ev.callV rfl rfl e_size ?_
  refine Ev.to 999 rfl ?_
  refine Ev.callV (rest := []) rfl rfl (e_isAnyEmpty hn) ?_
  refine Ev.to 999 rfl ?_
  refine Ev.on (fun h1 => ?_) (fun h1 => ?_)
  · rw [if_neg (by rw [h1]; decide)]
    refine Ev.to 999 rfl ?_
    refine Ev.callV rfl rfl e_cells ?_
    refine Ev.to 999 rfl ?_
    refine Ev.if_ (fun h2 => ?_) (fun h2 => ?_)
    · rw [if_neg (fun q => q h2)]
      refine Ev.to 999 rfl ?_
      refine Ev.callV rfl rfl e_lengths ?_
      refine Ev.to 999 rfl ?_
      refine Ev.callV rfl rfl e_cells ?_
      refine Ev.to 999 rfl ?_
      refine Ev.callS rfl rfl (j_bc _ _) ?_
      refine Ev.to 999 rfl ?_
      refine Ev.if_ (fun h3 => ?_) (fun h3 => ?_)
      · rw [if_neg (fun q => q h3)]
        refine Ev.to 999 rfl ?_
        refine Ev.callV rfl rfl e_size ?_
        refine Ev.to 999 rfl ?_
        refine Ev.callV (rest := []) rfl rfl (e_isAnyTorn hn) ?_
        refine Ev.to 999 rfl ?_
        refine Ev.on (fun h4 => ?_) (fun h4 => ?_)
        · rw [if_neg (by rw [h4]; decide)]
          refine Ev.to 999 rfl ?_
          refine Ev.callV (rest := []) rfl rfl (e_isAnyPairApart hn) ?_
          refine Ev.to 999 rfl ?_
          refine Ev.on (fun h5 => ?_) (fun h5 => ?_)
          · rw [if_neg (by rw [h5]; decide)]
            refine Ev.to 999 rfl ?_
            refine Ev.callV rfl rfl e_lengths ?_
            refine Ev.to 999 rfl ?_
            refine Ev.if_ (fun h6 => ?_) (fun h6 => ?_)
            · refine Ev.to 999 rfl ?_
              exact Ev.iret rfl rfl (by rw [if_pos h6]) rfl
            · refine Ev.to 999 rfl ?_
              exact Ev.iret rfl rfl (by rw [if_neg h6]) rfl
          · rw [if_pos h5]
            refine Ev.to 999 rfl ?_
            exact Ev.iret rfl rfl rfl rfl
        · rw [if_pos h4]
          refine Ev.to 999 rfl ?_
          exact Ev.iret rfl rfl rfl rfl
      · rw [if_pos h3]
        refine Ev.to 999 rfl ?_
        exact Ev.iret rfl rfl rfl rfl
    · rw [if_pos h2]
      refine Ev.to 999 rfl ?_
      exact Ev.iret rfl rfl rfl rfl
  · rw [if_pos h1]
    refine Ev.to 999 rfl ?_
    exact Ev.iret rfl rfl rfl rfl
end
section
/-! CellEnergy -/
def zf (j : Nat) (f : Nat → Int32) : Nat → Int32 := upd f j 0
theorem e_clear {n : Nat} {c : Int32} {tb tn : Nat → Int32} {tl : Nat} {se on : Nat → Int32} {dd : Int32} {ch ro ot ow tr tu ld : Nat → Int32} {lc : Nat} {cc br bw : Int32} : Cl m_X0_clear [.inr 4] (cw n c tb tn tl se on dd ch ro ot ow tr tu ld lc cc br bw) none (cw n c tb tn tl se on dd ch ro ot (fd zf ow 20) (fd zf tr 20) (fd zf tu 20) ld lc cc br bw) := by
  refine Ev.to 2 (L1 := [_, _]) (st1 := []) rfl ?_
  refine Ev.loop (fun j => [some (.inr 4), some (.inl (nI j))]) (fun j => (cw n c tb tn tl se on dd ch ro ot (fd zf ow j) (fd zf tr j) (fd zf tu j) ld lc cc br bw)) (fun _ => True) 0 20 (by omega) trivial (fun j _ hj _ kk => ?_) (fun _ => ?_)
  · have kk := kk trivial
    rw [nI_succ, fd, fd, fd, zf, zf, zf] at kk
    refine Ev.to 999 rfl ?_
    refine Ev.ff (nI_ng (n := 20) hj (by omega)) ?_
    refine Ev.to 999 rfl ?_
    refine Ev.ast rfl rfl hj (by decide) ?_
    refine Ev.to 999 rfl ?_
    refine Ev.ast rfl rfl hj (by decide) ?_
    refine Ev.to 999 rfl ?_
    refine Ev.ast rfl rfl hj (by decide) ?_
    exact Ev.to 2 (L1 := [_, _]) rfl kk
  · refine Ev.to 999 (pc1 := 35) rfl ?_
    exact Ev.vret rfl rfl rfl
def g_lc (x : Int32) (j : Nat) (p : (Nat → Int32) × Nat) : (Nat → Int32) × Nat := if bb x j = true ∧ p.2 < 14 then (upd p.1 p.2 (nI j), p.2 + 1) else p
theorem g_lc_le (x : Int32) (f : Nat → Int32) (j : Nat) : (fd (g_lc x) (f, 0) j).2 ≤ 14 := by
  induction j with
  | zero => exact Nat.zero_le _
  | succ j ih =>
    rw [fd, g_lc]
    split
    · rename_i h; exact h.2
    · exact ih
theorem e_listCells {n : Nat} {c : Int32} {tb tn : Nat → Int32} {tl : Nat} {se on : Nat → Int32} {dd : Int32} {ch ro ot ow tr tu ld : Nat → Int32} {lc : Nat} {cc br bw : Int32} (x : Int32) : Cl m_X0_listCells [.inr 4, .inl x] (cw n c tb tn tl se on dd ch ro ot ow tr tu ld lc cc br bw) none (cw n c tb tn tl se on dd ch ro ot ow tr tu ((fd (g_lc x) (ld, 0) 20).1) ((fd (g_lc x) (ld, 0) 20).2) cc br bw) := by
  refine Ev.to 7 (L1 := [_, _, _]) (st1 := []) (w1 := (cw n c tb tn tl se on dd ch ro ot ow tr tu ld (0) cc br bw)) rfl ?_
  refine Ev.loop (fun j => [some (.inr 4), some (.inl x), some (.inl (nI j))]) (fun j => (cw n c tb tn tl se on dd ch ro ot ow tr tu ((fd (g_lc x) (ld, 0) j).1) ((fd (g_lc x) (ld, 0) j).2) cc br bw)) (fun _ => True) 0 20 (by omega) trivial (fun j _ hj _ kk => ?_) (fun _ => ?_)
  · have kk := kk trivial
    have hle := g_lc_le x ld j
    rw [nI_succ, fd, g_lc] at kk
    generalize fd (g_lc x) (ld, 0) j = p at kk hle ⊢
    obtain ⟨F, m⟩ := p
    dsimp only at kk hle ⊢
    refine Ev.to 999 rfl ?_
    refine Ev.ff (nI_ng (n := 20) hj (by omega)) ?_
    refine Ev.to 999 rfl ?_
    refine Ev.callS (rest := []) rfl rfl (e_isIn _ _ _) ?_
    refine Ev.to 999 rfl ?_
    refine Ev.on (fun h => ?_) (fun h => ?_)
    · rw [if_neg (fun q => by rw [h] at q; cases q.1)] at kk
      exact Ev.to 7 (L1 := [_, _, _]) rfl kk
    · refine Ev.to 999 rfl ?_
      refine Ev.if_ (fun h2 => ?_) (fun h2 => ?_)
      · have h3 : 14 ≤ m := (nI_leI (by omega) (by omega)).mp h2
        rw [if_neg (fun q => absurd q.2 (by omega))] at kk
        exact Ev.to 7 (L1 := [_, _, _]) rfl kk
      · have h3 : m < 14 := by
          rcases Nat.lt_or_ge m 14 with q | q
          · exact q
          · exact absurd ((nI_leI (by omega) (by omega)).mpr q) h2
        rw [if_pos ⟨h, h3⟩] at kk
        dsimp only at kk
        have e : (cw n c tb tn tl se on dd ch ro ot ow tr tu (upd F m (nI j)) (m + 1) cc br bw) = List.set (cw n c tb tn tl se on dd ch ro ot ow tr tu (upd F m (nI j)) (m) cc br bw) 4 (.inr (0, [.inr 12, .inr 13, .inr 14, .inr 15, .inl (nI m + 1), .inl cc, .inl br, .inl bw])) := by rw [← nI_succ]; rfl
        rw [e] at kk
        refine Ev.to 999 rfl ?_
        refine Ev.ast rfl rfl h3 (by decide) ?_
        exact Ev.to 7 (L1 := [_, _, _]) rfl kk
  · refine Ev.to 999 (pc1 := 59) rfl ?_
    exact Ev.vret rfl rfl rfl
theorem inw_nat {q m : Nat} (h : q ≤ m) (hm : m < 2 ^ 31) : inw (nI q) 0 (nI m) = true := decide_eq_true ⟨nI_pos' (by omega), nI_le h hm⟩
theorem e_addOwn {n : Nat} {c : Int32} {tb tn : Nat → Int32} {tl : Nat} {se on : Nat → Int32} {dd : Int32} {ch ro ot ow tr tu ld : Nat → Int32} {lc : Nat} {cc br bw : Int32} {q : Nat} (hq : q < 20) (x : Int32) : Cl m_X0_addOwn [.inr 4, .inl (nI q), .inl x] (cw n c tb tn tl se on dd ch ro ot ow tr tu ld lc cc br bw) none (cw n c tb tn tl se on dd ch ro ot (upd ow q x) tr tu ld lc cc br bw) := by
  refine Ev.to 999 rfl ?_
  refine Ev.callS (rest := []) rfl rfl (e_isWithin _ _ _ _) ?_
  refine Ev.to 999 rfl ?_
  refine Ev.ff (by rw [bz_t (show inw (nI q) 0 19 = true from inw_nat (m := 19) (by omega) (by omega))]; decide) ?_
  refine Ev.to 999 rfl ?_
  refine Ev.ast rfl rfl hq (by decide) ?_
  exact Ev.vret rfl rfl rfl
theorem imin_nat {a b : Nat} (ha : a < 2 ^ 31) (hb : b < 2 ^ 31) : imin (nI a) (nI b) = nI (min a b) := by
  unfold imin
  by_cases h : nI b < nI a
  · rw [if_pos h]; rw [nI_ltI hb ha] at h; rw [Nat.min_eq_right (by omega)]
  · rw [if_neg h]; rw [nI_ltI hb ha] at h; rw [Nat.min_eq_left (by omega)]
theorem imax_nat {a b : Nat} (ha : a < 2 ^ 31) (hb : b < 2 ^ 31) : imax (nI a) (nI b) = nI (max a b) := by
  unfold imax
  by_cases h : nI a < nI b
  · rw [if_pos h]; rw [nI_ltI ha hb] at h; rw [Nat.max_eq_right (by omega)]
  · rw [if_neg h]; rw [nI_ltI ha hb] at h; rw [Nat.max_eq_left (by omega)]
def g_l1 (tr : Nat → Int32) (a b : Nat) (x : Int32) : Nat → Int32 := if max a b = min a b + 1 then upd tr (min a b) x else tr
def g_l2 (tu : Nat → Int32) (a b : Nat) (x : Int32) : Nat → Int32 := if max a b = min a b + 1 then tu else upd tu (min a b) x
theorem e_addLink {n : Nat} {c : Int32} {tb tn : Nat → Int32} {tl : Nat} {se on : Nat → Int32} {dd : Int32} {ch ro ot ow tr tu ld : Nat → Int32} {lc : Nat} {cc br bw : Int32} {a b : Nat} (ha : a < 20) (hb : b < 20) (x : Int32) : Cl m_X0_addLink [.inr 4, .inl (nI a), .inl (nI b), .inl x] (cw n c tb tn tl se on dd ch ro ot ow tr tu ld lc cc br bw) none (cw n c tb tn tl se on dd ch ro ot ow (g_l1 tr a b x) (g_l2 tu a b x) ld lc cc br bw) := by
  have h20 : min a b < 20 := by omega
  refine Ev.to 999 rfl ?_
  refine Ev.callS (rest := []) rfl rfl (j_min _ _ _) ?_
  rw [imin_nat (by omega) (by omega)]
  rw [g_l1, g_l2]
  generalize min a b = q at h20 ⊢
  refine Ev.to 999 (L1 := [_, _, _, _, _]) rfl ?_
  refine Ev.callS (rest := []) rfl rfl (e_isWithin _ _ _ _) ?_
  refine Ev.to 999 rfl ?_
  refine Ev.ff (by rw [bz_t (show inw (nI q) 0 19 = true from inw_nat (m := 19) (by omega) (by omega))]; decide) ?_
  refine Ev.to 999 rfl ?_
  refine Ev.callS (rest := []) rfl rfl (j_max _ _ _) ?_
  rw [imax_nat (by omega) (by omega)]
  have hm : max a b < 20 := by omega
  generalize max a b = m at hm ⊢
  refine Ev.to 999 rfl ?_
  refine Ev.if_ (fun h => ?_) (fun h => ?_)
  · have h2 : m = q + 1 := by
      have h3 : nI m = nI q + 1 := h
      rw [nI_1, nI_eq (by omega) (by omega)] at h3; exact h3
    rw [if_pos h2, if_pos h2]
    refine Ev.to 999 rfl ?_
    refine Ev.ast rfl rfl h20 (by decide) ?_
    refine Ev.to 999 rfl ?_
    exact Ev.vret rfl rfl rfl
  · have h2 : ¬ m = q + 1 := fun e => h (by rw [e]; exact nI_succ q)
    rw [if_neg h2, if_neg h2]
    refine Ev.to 999 rfl ?_
    refine Ev.ast rfl rfl h20 (by decide) ?_
    exact Ev.vret rfl rfl rfl
/-! what a cell gains -/
def g_k4 (tu : Nat → Int32) (q : Nat) (s a : Int32) : Int32 := if 5 ≤ q ∧ bb s (q - 5) = true then a + tu (q - 5) else a
def g_k3 (tr : Nat → Int32) (q : Nat) (s a : Int32) : Int32 := if 1 ≤ q ∧ bb s (q - 1) = true then a + tr (q - 1) else a
def g_k2 (tu : Nat → Int32) (q : Nat) (s a : Int32) : Int32 := if bb s (q + 5) = true then a + tu q else a
def g_k1 (tr : Nat → Int32) (q : Nat) (s a : Int32) : Int32 := if bb s (q + 1) = true then a + tr q else a
def g_kg (ow tr tu : Nat → Int32) (q : Nat) (s : Int32) : Int32 := g_k4 tu q s (g_k3 tr q s (g_k2 tu q s (g_k1 tr q s (ow q))))
theorem e_k4 {n : Nat} {c : Int32} {tb tn : Nat → Int32} {tl : Nat} {se on : Nat → Int32} {dd : Int32} {ch ro ot ow tr tu ld : Nat → Int32} {lc : Nat} {cc br bw : Int32} {q : Nat} (hq : q < 20) (s a : Int32) : Ev m_X0_gainOf 71 [some (.inr 4), some (.inl (nI q)), some (.inl s), some (.inl a)] [] (cw n c tb tn tl se on dd ch ro ot ow tr tu ld lc cc br bw) (some (.inl (g_k4 tu q s a)), (cw n c tb tn tl se on dd ch ro ot ow tr tu ld lc cc br bw)) := by
  rw [g_k4]
  refine Ev.to 999 rfl ?_
  refine Ev.if_ (fun h => ?_) (fun h => ?_)
  · have h2 : q < 5 := (nI_ltI (b := 5) (by omega) (by omega)).mp h
    rw [if_neg (fun z => absurd z.1 (by omega))]
    refine Ev.to 999 rfl ?_
    exact Ev.iret rfl rfl rfl rfl
  · have h2 : ¬ q < 5 := fun z => h ((nI_ltI (b := 5) (by omega) (by omega)).mpr z)
    obtain ⟨r, rfl⟩ : ∃ r, q = r + 5 := ⟨q - 5, by omega⟩
    have e5 : nI (r + 5) - 5 = nI r := by rw [show (5 : Int32) = nI 5 from rfl, pk_sub (by omega)]; rfl
    rw [show r + 5 - 5 = r by omega]
    refine Ev.to 999 rfl ?_
    refine Ev.callS (rest := []) rfl rfl (Cl.eq (e_isIn s r _) (by rw [← e5]; rfl) rfl) ?_
    refine Ev.to 999 rfl ?_
    refine Ev.on (fun hb => ?_) (fun hb => ?_)
    · rw [if_neg (fun z => by rw [hb] at z; cases z.2)]
      refine Ev.to 999 rfl ?_
      exact Ev.iret rfl rfl rfl rfl
    · rw [if_pos ⟨by omega, hb⟩]
      refine Ev.to 999 rfl ?_
      refine Ev.aldE r e5 rfl rfl (by omega) (by decide) ?_
      refine Ev.to 999 (L1 := [_, _, _, _]) rfl ?_
      exact Ev.iret rfl rfl rfl rfl
theorem e_k3 {n : Nat} {c : Int32} {tb tn : Nat → Int32} {tl : Nat} {se on : Nat → Int32} {dd : Int32} {ch ro ot ow tr tu ld : Nat → Int32} {lc : Nat} {cc br bw : Int32} {q : Nat} (hq : q < 20) (s a : Int32) : Ev m_X0_gainOf 45 [some (.inr 4), some (.inl (nI q)), some (.inl s), some (.inl a)] [] (cw n c tb tn tl se on dd ch ro ot ow tr tu ld lc cc br bw) (some (.inl (g_k4 tu q s (g_k3 tr q s a))), (cw n c tb tn tl se on dd ch ro ot ow tr tu ld lc cc br bw)) := by
  refine Ev.to 999 rfl ?_
  refine Ev.if_ (fun h => ?_) (fun h => ?_)
  · have h2 : q < 1 := (nI_ltI (b := 1) (by omega) (by omega)).mp h
    rw [g_k3, if_neg (fun z => absurd z.1 (by omega))]
    exact e_k4 hq s a
  · have h2 : ¬ q < 1 := fun z => h ((nI_ltI (b := 1) (by omega) (by omega)).mpr z)
    obtain ⟨r, rfl⟩ : ∃ r, q = r + 1 := ⟨q - 1, by omega⟩
    have e5 : nI (r + 1) - 1 = nI r := nI_pred r
    rw [g_k3, show r + 1 - 1 = r by omega]
    refine Ev.to 999 rfl ?_
    refine Ev.callS (rest := []) rfl rfl (Cl.eq (e_isIn s r _) (by rw [← e5]; rfl) rfl) ?_
    refine Ev.to 999 rfl ?_
    refine Ev.on (fun hb => ?_) (fun hb => ?_)
    · rw [if_neg (fun z => by rw [hb] at z; cases z.2)]
      exact e_k4 hq s a
    · rw [if_pos ⟨by omega, hb⟩]
      refine Ev.to 999 rfl ?_
      refine Ev.aldE r e5 rfl rfl (by omega) (by decide) ?_
      refine Ev.to 71 (L1 := [_, _, _, _]) (st1 := []) rfl ?_
      exact e_k4 hq s _
theorem e_k2 {n : Nat} {c : Int32} {tb tn : Nat → Int32} {tl : Nat} {se on : Nat → Int32} {dd : Int32} {ch ro ot ow tr tu ld : Nat → Int32} {lc : Nat} {cc br bw : Int32} {q : Nat} (hq : q < 20) (s a : Int32) : Ev m_X0_gainOf 26 [some (.inr 4), some (.inl (nI q)), some (.inl s), some (.inl a)] [] (cw n c tb tn tl se on dd ch ro ot ow tr tu ld lc cc br bw) (some (.inl (g_k4 tu q s (g_k3 tr q s (g_k2 tu q s a)))), (cw n c tb tn tl se on dd ch ro ot ow tr tu ld lc cc br bw)) := by
  have e5 : nI q + 5 = nI (q + 5) := by rw [show (5 : Int32) = nI 5 from rfl, nI_add]
  refine Ev.to 999 rfl ?_
  refine Ev.callS (rest := []) rfl rfl (Cl.eq (e_isIn s (q + 5) _) (by rw [← e5]; rfl) rfl) ?_
  refine Ev.to 999 rfl ?_
  refine Ev.on (fun hb => ?_) (fun hb => ?_)
  · rw [g_k2, if_neg (by rw [hb]; decide)]
    exact e_k3 hq s a
  · rw [g_k2, if_pos hb]
    refine Ev.to 999 rfl ?_
    refine Ev.ald rfl rfl hq (by decide) ?_
    refine Ev.to 45 (L1 := [_, _, _, _]) (st1 := []) rfl ?_
    exact e_k3 hq s _
theorem e_kgain {n : Nat} {c : Int32} {tb tn : Nat → Int32} {tl : Nat} {se on : Nat → Int32} {dd : Int32} {ch ro ot ow tr tu ld : Nat → Int32} {lc : Nat} {cc br bw : Int32} {q : Nat} (hq : q < 20) (s : Int32) : Cl m_X0_gainOf [.inr 4, .inl (nI q), .inl s] (cw n c tb tn tl se on dd ch ro ot ow tr tu ld lc cc br bw) (some (.inl (g_kg ow tr tu q s))) (cw n c tb tn tl se on dd ch ro ot ow tr tu ld lc cc br bw) := by
  have e5 : nI q + 1 = nI (q + 1) := nI_1 q
  rw [g_kg]
  refine Ev.to 999 rfl ?_
  refine Ev.ald rfl rfl hq (by decide) ?_
  refine Ev.to 999 (L1 := [_, _, _, _]) rfl ?_
  refine Ev.callS (rest := []) rfl rfl (Cl.eq (e_isIn s (q + 1) _) (by rw [← e5]; rfl) rfl) ?_
  refine Ev.to 999 rfl ?_
  refine Ev.on (fun hb => ?_) (fun hb => ?_)
  · rw [g_k1, if_neg (by rw [hb]; decide)]
    exact e_k2 hq s _
  · rw [g_k1, if_pos hb]
    refine Ev.to 999 rfl ?_
    refine Ev.ald rfl rfl hq (by decide) ?_
    refine Ev.to 26 (L1 := [_, _, _, _]) (st1 := []) rfl ?_
    exact e_k2 hq s _
def g_un (br bw s : Int32) : Int32 := ibc ((s ^^^ (s >>> ((1 : Int32) &&& 31))) &&& br) + ibc ((s ^^^ (s >>> ((5 : Int32) &&& 31))) &&& bw)
theorem e_unlike {n : Nat} {c : Int32} {tb tn : Nat → Int32} {tl : Nat} {se on : Nat → Int32} {dd : Int32} {ch ro ot ow tr tu ld : Nat → Int32} {lc : Nat} {cc br bw : Int32} (s : Int32) : Cl m_X0_unlikeNeighbours [.inr 4, .inl s] (cw n c tb tn tl se on dd ch ro ot ow tr tu ld lc cc br bw) (some (.inl (g_un br bw s))) (cw n c tb tn tl se on dd ch ro ot ow tr tu ld lc cc br bw) := by
  refine Ev.to 999 (L1 := [_, _, _, _]) rfl ?_
  refine Ev.callS rfl rfl (j_bc _ _) ?_
  refine Ev.to 999 rfl ?_
  refine Ev.callS rfl rfl (j_bc _ _) ?_
  refine Ev.to 999 rfl ?_
  exact Ev.iret rfl rfl rfl rfl
/-! leastHold -/
theorem pw_n14 {n : Nat} (h : n ≤ 14) : (1 : Int32) <<< (nI n &&& 31) = nI (2 ^ n) := by
  have : ∀ n, n < 15 → (1 : Int32) <<< (nI n &&& 31) = nI (2 ^ n) := by decide +kernel
  exact this n (by omega)
def g_hg (ow tr tu : Nat → Int32) (q : Nat) (s e : Int32) : Int32 := e + (if bb s q = true then -(g_kg ow tr tu q s) else g_kg ow tr tu q s)
def g_hh (best : Int32) (u e h : Int32) : Int32 := if 0 < u ∧ e + h * u ≤ best then (best - e) / u + 1 else h
def g_h (ow tr tu : Nat → Int32) (cl : Nat → Nat) (br bw best : Int32) (t : Nat) (p : Int32 × Int32 × Int32) : Int32 × Int32 × Int32 := (g_hh best (g_un br bw (p.2.1 ^^^ ((1 : Int32) <<< (nI (cl (lowb (t + 1))) &&& 31)))) (g_hg ow tr tu (cl (lowb (t + 1))) p.2.1 p.2.2) p.1, p.2.1 ^^^ ((1 : Int32) <<< (nI (cl (lowb (t + 1))) &&& 31)), g_hg ow tr tu (cl (lowb (t + 1))) p.2.1 p.2.2)
theorem e_leastHold {n : Nat} {c : Int32} {tb tn : Nat → Int32} {tl : Nat} {se on : Nat → Int32} {dd : Int32} {ch ro ot ow tr tu ld : Nat → Int32} {lc : Nat} {cc br bw : Int32} (hlc : lc ≤ 14) {cl : Nat → Nat} (hcl : ∀ j, j < lc → ld j = nI (cl j) ∧ cl j < 20) (best : Int32) : Cl m_X0_leastHold [.inr 4, .inl best] (cw n c tb tn tl se on dd ch ro ot ow tr tu ld lc cc br bw) (some (.inl (fd (g_h ow tr tu cl br bw best) (0, 0, cc) (2 ^ lc - 1)).1)) (cw n c tb tn tl se on dd ch ro ot ow tr tu ld lc cc br bw) := by
  have hp2 : 1 ≤ 2 ^ lc := Nat.two_pow_pos lc
  have hp1 : 2 ^ lc ≤ 16384 := Nat.le_trans (Nat.pow_le_pow_right (by omega) hlc) (by decide)
  refine Ev.to 13 (L1 := [_, _, _, _, _, _, _, _, _]) (st1 := []) rfl ?_
  refine Ev.loop (fun t => [some (.inr 4), some (.inl best), some (.inl (fd (g_h ow tr tu cl br bw best) (0, 0, cc) t).1), some (.inl (fd (g_h ow tr tu cl br bw best) (0, 0, cc) t).2.1), some (.inl (fd (g_h ow tr tu cl br bw best) (0, 0, cc) t).2.2), some (.inl (nI (t + 1))), none, none, none]) (fun _ => (cw n c tb tn tl se on dd ch ro ot ow tr tu ld lc cc br bw)) (fun _ => True) 0 (2 ^ lc - 1) (Nat.zero_le _) trivial (fun t _ ht _ kk => ?_) (fun _ => ?_)
  · have kk := kk trivial
    rw [nI_succ (t + 1), fd, g_h] at kk
    generalize fd (g_h ow tr tu cl br bw best) (0, 0, cc) t = p at kk ⊢
    obtain ⟨h, s, e⟩ := p
    dsimp only at kk ⊢
    refine Ev.to 999 rfl ?_
    refine Ev.ff (by show ¬ (1 : Int32) <<< (nI lc &&& 31) ≤ nI (t + 1); rw [pw_n14 hlc]; exact nI_ng (by omega) (by omega)) ?_
    refine Ev.to 999 rfl ?_
    refine Ev.callS rfl rfl (j_tz _ _) ?_
    have e1 : itz (nI (t + 1)) = nI (lowb (t + 1)) := itz_low (by omega) (by omega)
    have e2 : lowb (t + 1) < lc := lowb_lt (by omega) (by omega) (by omega)
    obtain ⟨c1, c2⟩ := hcl _ e2
    refine Ev.aldE (lowb (t + 1)) e1 rfl rfl (by omega) (by decide) ?_
    rw [c1]
    generalize cl (lowb (t + 1)) = q at c2 kk ⊢
    refine Ev.to 999 (L1 := [_, _, _, _, _, _, _, _, _]) rfl ?_
    refine Ev.callV (rest := []) rfl rfl (e_kgain c2 _) ?_
    refine Ev.to 999 (L1 := [_, _, _, _, _, _, _, _, _]) rfl ?_
    refine Ev.callS (rest := [_]) rfl rfl (e_isIn _ _ _) ?_
    refine Ev.to 999 rfl ?_
    have J : ∀ g, g_hg ow tr tu q s e = e + g → Ev m_X0_leastHold 64 [some (.inr 4), some (.inl best), some (.inl h), some (.inl s), some (.inl e), some (.inl (nI (t + 1))), some (.inl (nI q)), some (.inl (g_kg ow tr tu q s)), none] [.inl g, .inl e] (cw n c tb tn tl se on dd ch ro ot ow tr tu ld lc cc br bw) (some (.inl (fd (g_h ow tr tu cl br bw best) (0, 0, cc) (2 ^ lc - 1)).1), (cw n c tb tn tl se on dd ch ro ot ow tr tu ld lc cc br bw)) := by
      intro g hg
      rw [hg] at kk
      refine Ev.to 999 (L1 := [_, _, _, _, _, _, _, _, _]) rfl ?_
      refine Ev.callV (rest := []) rfl rfl (e_unlike _) ?_
      refine Ev.to 81 (L1 := [_, _, _, _, _, _, _, _, _]) (st1 := []) rfl ?_
      show Ev _ _ [_, _, _, some (.inl (s ^^^ ((1 : Int32) <<< (nI q &&& 31)))), some (.inl (e + g)), _, _, _, some (.inl (g_un br bw (s ^^^ ((1 : Int32) <<< (nI q &&& 31)))))] _ _ _
      generalize g_un br bw (s ^^^ ((1 : Int32) <<< (nI q &&& 31))) = u at kk ⊢
      generalize s ^^^ ((1 : Int32) <<< (nI q &&& 31)) = s2 at kk ⊢
      generalize e + g = e2 at kk ⊢
      refine Ev.to 999 rfl ?_
      refine Ev.if_ (fun h1 => ?_) (fun h1 => ?_)
      · rw [g_hh, if_neg (fun z => i32_nlt.mpr h1 z.1)] at kk
        exact Ev.to 13 (L1 := [_, _, _, _, _, _, _, _, _]) rfl (Ev.fg kk (le_cc (le_cc (le_cc (le_cc (le_cc (le_cc (le_nc (le_nc (le_nc le_nil))))))))))
      · have h1 : 0 < u := i32_nle.mp h1
        refine Ev.to 999 rfl ?_
        refine Ev.if_ (fun h2 => ?_) (fun h2 => ?_)
        · rw [g_hh, if_neg (fun z => i32_nlt.mpr z.2 h2)] at kk
          exact Ev.to 13 (L1 := [_, _, _, _, _, _, _, _, _]) rfl (Ev.fg kk (le_cc (le_cc (le_cc (le_cc (le_cc (le_cc (le_nc (le_nc (le_nc le_nil))))))))))
        · rw [g_hh, if_pos ⟨h1, i32_nlt.mp h2⟩] at kk
          refine Ev.to 999 rfl ?_
          refine Ev.dv rfl (fun z => by rw [z] at h1; exact absurd h1 (by decide)) ?_
          exact Ev.to 13 (L1 := [_, _, _, _, _, _, _, _, _]) rfl (Ev.fg kk (le_cc (le_cc (le_cc (le_cc (le_cc (le_cc (le_nc (le_nc (le_nc le_nil))))))))))
    refine Ev.on (fun hb => ?_) (fun hb => ?_)
    · exact Ev.to 64 (L1 := [_, _, _, _, _, _, _, _, _]) rfl (J _ (by rw [g_hg, if_neg (by rw [hb]; decide)]))
    · exact Ev.to 64 (L1 := [_, _, _, _, _, _, _, _, _]) rfl (J _ (by rw [g_hg, if_pos hb]))
  · refine Ev.to 999 rfl ?_
    refine Ev.tt (by show (1 : Int32) <<< (nI lc &&& 31) ≤ nI (2 ^ lc - 1 + 1); rw [pw_n14 hlc, show 2 ^ lc - 1 + 1 = 2 ^ lc by omega]; exact nI_gg (by omega)) ?_
    refine Ev.to 999 rfl ?_
    exact Ev.iret rfl rfl rfl rfl
/-! layOut -/
def g_oi (tb : Nat → Int32) (lf lt : Nat → Nat → Nat) (i d : Nat) (p : (Nat → Int32) × (Nat → Int32)) : (Nat → Int32) × (Nat → Int32) := if tb (8 * i + (i + 1 + d)) = 0 then p else (g_l1 p.1 (lf i (i + 1 + d)) (lt i (i + 1 + d)) (tb (8 * i + (i + 1 + d))), g_l2 p.2 (lf i (i + 1 + d)) (lt i (i + 1 + d)) (tb (8 * i + (i + 1 + d))))
def g_oo (n : Nat) (tb : Nat → Int32) (l0 : Nat → Nat) (lf lt : Nat → Nat → Nat) (i : Nat) (p : (Nat → Int32) × (Nat → Int32) × (Nat → Int32)) : (Nat → Int32) × (Nat → Int32) × (Nat → Int32) := (upd p.1 (l0 i) (tb (8 * i + i)), fd (g_oi tb lf lt i) p.2 (n - (i + 1)))
theorem e_layOut {n : Nat} {c : Int32} {tb tn : Nat → Int32} {tl : Nat} {se on : Nat → Int32} {dd : Int32} {ch ro ot ow tr tu ld : Nat → Int32} {lc : Nat} {cc br bw : Int32} (hn : n ≤ 8) {l0 : Nat → Nat} {lf lt : Nat → Nat → Nat} (h0 : ∀ i, i < n → itz (ch i) = nI (l0 i) ∧ l0 i < 20) (h1 : ∀ i j, i < j → j < n → ¬ tb (8 * i + j) = 0 → itz (ch i &&& g_nb (ch j)) = nI (lf i j) ∧ lf i j < 20 ∧ itz (ch j &&& g_nb ((1 : Int32) <<< (nI (lf i j) &&& 31))) = nI (lt i j) ∧ lt i j < 20) : Cl m_X0_layOut [.inr 4, .inr 1, .inr 3] (cw n c tb tn tl se on dd ch ro ot ow tr tu ld lc cc br bw) none (cw n c tb tn tl se on dd ch ro ot ((fd (g_oo n tb l0 lf lt) (fd zf ow 20, fd zf tr 20, fd zf tu 20) n).1) ((fd (g_oo n tb l0 lf lt) (fd zf ow 20, fd zf tr 20, fd zf tu 20) n).2.1) ((fd (g_oo n tb l0 lf lt) (fd zf ow 20, fd zf tr 20, fd zf tu 20) n).2.2) ((fd (g_lc (fd (g_all ch) 0 8)) (ld, 0) 20).1) ((fd (g_lc (fd (g_all ch) 0 8)) (ld, 0) 20).2) (c) (fd (g_bri ch) 0 8) (fd (g_bbe ch) 0 8)) := by
  refine Ev.to 999 rfl ?_
  refine Ev.callV (rest := []) rfl rfl e_clear ?_
  generalize fd zf ow 20 = ow1
  generalize fd zf tr 20 = tr1
  generalize fd zf tu 20 = tu1
  refine Ev.to 999 rfl ?_
  refine Ev.callV rfl rfl e_constant ?_
  refine Ev.to 999 (w1 := (cw n c tb tn tl se on dd ch ro ot (ow1) (tr1) (tu1) ld lc (c) br bw)) rfl ?_
  refine Ev.callV rfl rfl e_right ?_
  refine Ev.to 999 (w1 := (cw n c tb tn tl se on dd ch ro ot (ow1) (tr1) (tu1) ld lc (c) (fd (g_bri ch) 0 8) bw)) rfl ?_
  refine Ev.callV rfl rfl e_below ?_
  refine Ev.to 999 (w1 := (cw n c tb tn tl se on dd ch ro ot (ow1) (tr1) (tu1) ld lc (c) (fd (g_bri ch) 0 8) (fd (g_bbe ch) 0 8))) rfl ?_
  refine Ev.callV rfl rfl e_cells ?_
  refine Ev.callV (rest := []) rfl rfl (e_listCells _) ?_
  generalize fd (g_lc (fd (g_all ch) 0 8)) (ld, 0) 20 = pl
  generalize fd (g_bri ch) 0 8 = br1
  generalize fd (g_bbe ch) 0 8 = bw1
  obtain ⟨ld1, lc1⟩ := pl
  dsimp only
  refine Ev.to 38 (L1 := [_, _, _, _, _, _]) (st1 := []) rfl ?_
  refine Ev.loop (fun i => [some (.inr 4), some (.inr 1), some (.inr 3), some (.inl (nI i)), none, none]) (fun i => (cw n c tb tn tl se on dd ch ro ot ((fd (g_oo n tb l0 lf lt) (ow1, tr1, tu1) i).1) ((fd (g_oo n tb l0 lf lt) (ow1, tr1, tu1) i).2.1) ((fd (g_oo n tb l0 lf lt) (ow1, tr1, tu1) i).2.2) (ld1) (lc1) (c) (br1) (bw1))) (fun _ => True) 0 n (Nat.zero_le n) trivial (fun i _ hi _ kk => ?_) (fun _ => ?_)
  · have kk := kk trivial
    rw [nI_succ, fd, g_oo] at kk
    generalize fd (g_oo n tb l0 lf lt) (ow1, tr1, tu1) i = p at kk ⊢
    obtain ⟨o, r, u⟩ := p
    dsimp only at kk ⊢
    obtain ⟨c1, c2⟩ := h0 i hi
    refine Ev.to 999 rfl ?_
    refine Ev.callV rfl rfl e_size ?_
    refine Ev.to 999 rfl ?_
    refine Ev.ff (nI_ng hi (by omega)) ?_
    refine Ev.to 999 rfl ?_
    refine Ev.callV rfl rfl (Cl.eq (e_leastCellOf (by omega)) rfl (by rw [c1])) ?_
    refine Ev.to 999 rfl ?_
    refine Ev.callV rfl rfl (e_between (by omega) (by omega)) ?_
    refine Ev.callV (rest := []) rfl rfl (e_addOwn c2 _) ?_
    generalize upd o (l0 i) (tb (8 * i + i)) = o1 at kk ⊢
    refine Ev.to 66 (L1 := [_, _, _, _, some (.inl (nI i + 1)), _]) (st1 := []) rfl ?_
    rw [show nI i + 1 = nI (i + 1 + 0) from nI_1 i]
    refine Ev.loop (fun d => [some (.inr 4), some (.inr 1), some (.inr 3), some (.inl (nI i)), some (.inl (nI (i + 1 + d))), none]) (fun d => (cw n c tb tn tl se on dd ch ro ot (o1) ((fd (g_oi tb lf lt i) (r, u) d).1) ((fd (g_oi tb lf lt i) (r, u) d).2) (ld1) (lc1) (c) (br1) (bw1))) (fun _ => True) 0 (n - (i + 1)) (Nat.zero_le _) trivial (fun d _ hd _ k2 => ?_) (fun _ => ?_)
    · have k2 := k2 trivial
      rw [show i + 1 + (d + 1) = (i + 1 + d) + 1 by omega, nI_succ (i + 1 + d), fd, g_oi] at k2
      generalize fd (g_oi tb lf lt i) (r, u) d = p2 at k2 ⊢
      obtain ⟨r2, u2⟩ := p2
      dsimp only at k2 ⊢
      have hj : i + 1 + d < n := by omega
      have hij : i < i + 1 + d := by omega
      generalize i + 1 + d = j at hj hij k2 ⊢
      refine Ev.to 999 rfl ?_
      refine Ev.callV rfl rfl e_size ?_
      refine Ev.to 999 rfl ?_
      refine Ev.ff (nI_ng hj (by omega)) ?_
      refine Ev.to 999 rfl ?_
      refine Ev.callV (rest := []) rfl rfl (e_between (by omega) (by omega)) ?_
      refine Ev.to 999 rfl ?_
      refine Ev.if_ (fun h => ?_) (fun h => ?_)
      · rw [if_pos h] at k2
        exact Ev.to 66 (L1 := [_, _, _, _, _, _]) rfl k2
      · rw [if_neg h] at k2
        dsimp only at k2
        obtain ⟨d1, d2, d3, d4⟩ := h1 i j hij hj h
        refine Ev.to 999 rfl ?_
        refine Ev.callV rfl rfl (Cl.eq (e_linkFrom (by omega) (by omega)) rfl (by rw [d1])) ?_
        refine Ev.to 999 (L1 := [_, _, _, _, _, _]) rfl ?_
        refine Ev.callV rfl rfl (Cl.eq (e_linkTo _ (by omega)) rfl (by rw [d3])) ?_
        refine Ev.to 999 rfl ?_
        refine Ev.callV rfl rfl (e_between (by omega) (by omega)) ?_
        refine Ev.callV (rest := []) rfl rfl (e_addLink d2 d4 _) ?_
        exact Ev.to 66 (L1 := [_, _, _, _, _, _]) rfl (Ev.fg k2 (le_cc (le_cc (le_cc (le_cc (le_cc (le_nc le_nil)))))))
    · refine Ev.to 999 rfl ?_
      refine Ev.callV rfl rfl e_size ?_
      refine Ev.to 999 rfl ?_
      rw [show i + 1 + (n - (i + 1)) = n by omega]
      refine Ev.tt (nI_gg (by omega)) ?_
      exact Ev.to 38 (L1 := [_, _, _, _, _, _]) rfl (Ev.fg kk (le_cc (le_cc (le_cc (le_cc (le_nc (le_nc le_nil)))))))
  · refine Ev.to 999 rfl ?_
    refine Ev.callV rfl rfl e_size ?_
    refine Ev.to 999 rfl ?_
    refine Ev.tt (nI_gg (by omega)) ?_
    exact Ev.vret rfl rfl rfl
end
section
/-! ColdGrid, the first half -/
theorem c_isLetter {n : Nat} {c : Int32} {tb tn : Nat → Int32} {tl : Nat} {se on : Nat → Int32} {dd : Int32} {ch ro ot ow tr tu ld : Nat → Int32} {lc : Nat} {cc br bw : Int32} (x : Int32) : Cl m_X4_isLetter [.inr 0, .inl x] (cw n c tb tn tl se on dd ch ro ot ow tr tu ld lc cc br bw) (some (.inl (bz (inw x 0 (nI n - 1))))) (cw n c tb tn tl se on dd ch ro ot ow tr tu ld lc cc br bw) := by
  refine Ev.to 999 rfl ?_
  refine Ev.callV rfl rfl e_size ?_
  refine Ev.to 999 rfl ?_
  refine Ev.callS rfl rfl (e_isWithin _ _ _ _) ?_
  exact Ev.zret rfl rfl rfl rfl (bz_01 _)
theorem c_isSet {n : Nat} {c : Int32} {tb tn : Nat → Int32} {tl : Nat} {se on : Nat → Int32} {dd : Int32} {ch ro ot ow tr tu ld : Nat → Int32} {lc : Nat} {cc br bw : Int32} (hn : n ≤ 8) (x : Int32) : Cl m_X4_isSetOfLetters [.inr 0, .inl x] (cw n c tb tn tl se on dd ch ro ot ow tr tu ld lc cc br bw) (some (.inl (bz (inw x 0 (nI (2 ^ n) - 1))))) (cw n c tb tn tl se on dd ch ro ot ow tr tu ld lc cc br bw) := by
  refine Ev.to 999 rfl ?_
  refine Ev.callV rfl rfl (e_states hn) ?_
  refine Ev.to 999 rfl ?_
  refine Ev.callS rfl rfl (e_isWithin _ _ _ _) ?_
  exact Ev.zret rfl rfl rfl rfl (bz_01 _)
theorem c_letters_no {n : Nat} {c : Int32} {tb tn : Nat → Int32} {tl : Nat} {se on : Nat → Int32} {dd : Int32} {ch ro ot ow tr tu ld : Nat → Int32} {lc : Nat} {cc br bw : Int32} {x : Int32} (h : inw x 1 8 = false) : Cl m_X4_letters [.inr 0, .inl x] (cw n c tb tn tl se on dd ch ro ot ow tr tu ld lc cc br bw) (some (.inl (-2))) (cw n c tb tn tl se on dd ch ro ot ow tr tu ld lc cc br bw) := by
  refine Ev.to 999 rfl ?_
  refine Ev.callS (rest := []) rfl rfl (e_isWithin _ _ _ _) ?_
  refine Ev.to 999 rfl ?_
  refine Ev.tt (bz_f h) ?_
  refine Ev.to 999 rfl ?_
  exact Ev.iret rfl rfl rfl rfl
theorem c_letters {n : Nat} {c : Int32} {tb tn : Nat → Int32} {tl : Nat} {se on : Nat → Int32} {dd : Int32} {ch ro ot ow tr tu ld : Nat → Int32} {lc : Nat} {cc br bw : Int32} (m : Nat) (h : inw (nI m) 1 8 = true) : Cl m_X4_letters [.inr 0, .inl (nI m)] (cw n c tb tn tl se on dd ch ro ot ow tr tu ld lc cc br bw) (some (.inl 1)) (cw (m) (0) (fd (fun j f => upd f j 0) tb 64) tn (0) se on dd (fd (fun j f => upd f j 0) ch 8) ro ot ow tr tu ld lc cc br bw) := by
  refine Ev.to 999 rfl ?_
  refine Ev.callS (rest := []) rfl rfl (e_isWithin _ _ _ _) ?_
  refine Ev.to 999 rfl ?_
  refine Ev.ff (by rw [bz_t h]; decide) ?_
  refine Ev.to 999 rfl ?_
  refine Ev.callV (rest := []) rfl rfl (e_startAnew m) ?_
  refine Ev.to 999 rfl ?_
  refine Ev.callV (rest := []) rfl rfl e_forgetAll ?_
  refine Ev.to 999 rfl ?_
  refine Ev.callV (rest := []) rfl rfl e_forgetChains ?_
  refine Ev.to 999 rfl ?_
  exact Ev.iret rfl rfl rfl rfl
theorem c_weigh_no {n : Nat} {c : Int32} {tb tn : Nat → Int32} {tl : Nat} {se on : Nat → Int32} {dd : Int32} {ch ro ot ow tr tu ld : Nat → Int32} {lc : Nat} {cc br bw : Int32} {i j x : Int32} (h : inw i 0 (nI n - 1) = false ∨ inw j 0 (nI n - 1) = false ∨ inw x (-60) 60 = false) : Cl m_X4_weigh [.inr 0, .inl i, .inl j, .inl x] (cw n c tb tn tl se on dd ch ro ot ow tr tu ld lc cc br bw) (some (.inl (-2147483648))) (cw n c tb tn tl se on dd ch ro ot ow tr tu ld lc cc br bw) := by
  have no : Ev m_X4_weigh 27 [some (.inr 0), some (.inl i), some (.inl j), some (.inl x), none] [] (cw n c tb tn tl se on dd ch ro ot ow tr tu ld lc cc br bw) (some (.inl (-2147483648)), (cw n c tb tn tl se on dd ch ro ot ow tr tu ld lc cc br bw)) := by
    refine Ev.to 999 rfl ?_
    exact Ev.iret rfl rfl rfl rfl
  refine Ev.to 999 rfl ?_
  refine Ev.callV (rest := []) rfl rfl (c_isLetter _) ?_
  refine Ev.to 999 rfl ?_
  refine Ev.on (fun _ => no) (fun h1 => ?_)
  refine Ev.to 999 rfl ?_
  refine Ev.callV (rest := []) rfl rfl (c_isLetter _) ?_
  refine Ev.to 999 rfl ?_
  refine Ev.on (fun _ => no) (fun h2 => ?_)
  refine Ev.to 999 rfl ?_
  refine Ev.callS (rest := []) rfl rfl (e_isWithin _ _ _ _) ?_
  refine Ev.to 999 rfl ?_
  refine Ev.on (fun _ => no) (fun h3 => ?_)
  rw [h1, h2, h3] at h
  exact absurd h (by decide)
theorem c_weigh {n : Nat} {c : Int32} {tb tn : Nat → Int32} {tl : Nat} {se on : Nat → Int32} {dd : Int32} {ch ro ot ow tr tu ld : Nat → Int32} {lc : Nat} {cc br bw : Int32} {a b : Nat} {x : Int32} (ha : a < 8) (hb : b < 8) (h1 : inw (nI a) 0 (nI n - 1) = true) (h2 : inw (nI b) 0 (nI n - 1) = true) (h3 : inw x (-60) 60 = true) : Cl m_X4_weigh [.inr 0, .inl (nI a), .inl (nI b), .inl x] (cw n c tb tn tl se on dd ch ro ot ow tr tu ld lc cc br bw) (some (.inl (tb (8 * a + b)))) (cw n c (upd (upd tb (8 * a + b) x) (8 * b + a) x) tn tl se on dd ch ro ot ow tr tu ld lc cc br bw) := by
  refine Ev.to 999 rfl ?_
  refine Ev.callV (rest := []) rfl rfl (c_isLetter _) ?_
  refine Ev.to 999 rfl ?_
  refine Ev.ff (by rw [bz_t h1]; decide) ?_
  refine Ev.to 999 rfl ?_
  refine Ev.callV (rest := []) rfl rfl (c_isLetter _) ?_
  refine Ev.to 999 rfl ?_
  refine Ev.ff (by rw [bz_t h2]; decide) ?_
  refine Ev.to 999 rfl ?_
  refine Ev.callS (rest := []) rfl rfl (e_isWithin _ _ _ _) ?_
  refine Ev.to 999 rfl ?_
  refine Ev.ff (by rw [bz_t h3]; decide) ?_
  refine Ev.to 999 rfl ?_
  refine Ev.callV (rest := []) rfl rfl (e_between ha hb) ?_
  refine Ev.to 999 (L1 := [_, _, _, _, _]) rfl ?_
  refine Ev.callV (rest := []) rfl rfl (e_setBetween ha hb _) ?_
  refine Ev.to 999 rfl ?_
  exact Ev.iret rfl rfl rfl rfl
theorem c_weight_no {n : Nat} {c : Int32} {tb tn : Nat → Int32} {tl : Nat} {se on : Nat → Int32} {dd : Int32} {ch ro ot ow tr tu ld : Nat → Int32} {lc : Nat} {cc br bw : Int32} {i j : Int32} (h : inw i 0 (nI n - 1) = false ∨ inw j 0 (nI n - 1) = false) : Cl m_X4_weight [.inr 0, .inl i, .inl j] (cw n c tb tn tl se on dd ch ro ot ow tr tu ld lc cc br bw) (some (.inl (-2147483648))) (cw n c tb tn tl se on dd ch ro ot ow tr tu ld lc cc br bw) := by
  have no : Ev m_X4_weight 16 [some (.inr 0), some (.inl i), some (.inl j)] [] (cw n c tb tn tl se on dd ch ro ot ow tr tu ld lc cc br bw) (some (.inl (-2147483648)), (cw n c tb tn tl se on dd ch ro ot ow tr tu ld lc cc br bw)) := by
    refine Ev.to 999 rfl ?_
    exact Ev.iret rfl rfl rfl rfl
  refine Ev.to 999 rfl ?_
  refine Ev.callV (rest := []) rfl rfl (c_isLetter _) ?_
  refine Ev.to 999 rfl ?_
  refine Ev.on (fun _ => no) (fun h1 => ?_)
  refine Ev.to 999 rfl ?_
  refine Ev.callV (rest := []) rfl rfl (c_isLetter _) ?_
  refine Ev.to 999 rfl ?_
  refine Ev.on (fun _ => no) (fun h2 => ?_)
  rw [h1, h2] at h
  exact absurd h (by decide)
theorem c_weight {n : Nat} {c : Int32} {tb tn : Nat → Int32} {tl : Nat} {se on : Nat → Int32} {dd : Int32} {ch ro ot ow tr tu ld : Nat → Int32} {lc : Nat} {cc br bw : Int32} {a b : Nat} (ha : a < 8) (hb : b < 8) (h1 : inw (nI a) 0 (nI n - 1) = true) (h2 : inw (nI b) 0 (nI n - 1) = true) : Cl m_X4_weight [.inr 0, .inl (nI a), .inl (nI b)] (cw n c tb tn tl se on dd ch ro ot ow tr tu ld lc cc br bw) (some (.inl (tb (8 * a + b)))) (cw n c tb tn tl se on dd ch ro ot ow tr tu ld lc cc br bw) := by
  refine Ev.to 999 rfl ?_
  refine Ev.callV (rest := []) rfl rfl (c_isLetter _) ?_
  refine Ev.to 999 rfl ?_
  refine Ev.ff (by rw [bz_t h1]; decide) ?_
  refine Ev.to 999 rfl ?_
  refine Ev.callV (rest := []) rfl rfl (c_isLetter _) ?_
  refine Ev.to 999 rfl ?_
  refine Ev.ff (by rw [bz_t h2]; decide) ?_
  refine Ev.to 999 rfl ?_
  refine Ev.callV (rest := []) rfl rfl (e_between ha hb) ?_
  exact Ev.iret rfl rfl rfl rfl
theorem c_energy {n : Nat} {c : Int32} {tb tn : Nat → Int32} {tl : Nat} {se on : Nat → Int32} {dd : Int32} {ch ro ot ow tr tu ld : Nat → Int32} {lc : Nat} {cc br bw : Int32} (hn : n ≤ 8) (s : Int32) : Cl m_X4_energy [.inr 0, .inl s] (cw n c tb tn tl se on dd ch ro ot ow tr tu ld lc cc br bw) (some (.inl (if inw s 0 (nI (2 ^ n) - 1) = true then g_en n c tb s else -2147483648))) (cw n c tb tn tl se on dd ch ro ot ow tr tu ld lc cc br bw) := by
  refine Ev.to 999 rfl ?_
  refine Ev.callV (rest := []) rfl rfl (c_isSet hn _) ?_
  refine Ev.to 999 rfl ?_
  refine Ev.on (fun h => ?_) (fun h => ?_)
  · rw [if_neg (by rw [h]; decide)]
    refine Ev.to 999 rfl ?_
    exact Ev.iret rfl rfl rfl rfl
  · rw [if_pos h]
    refine Ev.to 999 rfl ?_
    refine Ev.callV (rest := []) rfl rfl (e_energyOf hn _) ?_
    exact Ev.iret rfl rfl rfl rfl
def g_lok (n : Nat) (s k : Int32) : Bool := inw s 0 (nI (2 ^ n) - 1) && (decide (¬ s = 0) && inw k 0 (ibc s))
theorem c_law_no {n : Nat} {c : Int32} {tb tn : Nat → Int32} {tl : Nat} {se on : Nat → Int32} {dd : Int32} {ch ro ot ow tr tu ld : Nat → Int32} {lc : Nat} {cc br bw : Int32} (hn : n ≤ 8) {s k : Int32} (h : g_lok n s k = false) : Cl m_X4_law [.inr 0, .inl s, .inl k] (cw n c tb tn tl se on dd ch ro ot ow tr tu ld lc cc br bw) (some (.inl (-2))) (cw n c tb tn tl se on dd ch ro ot ow tr tu ld lc cc br bw) := by
  have no : Ev m_X4_law 24 [some (.inr 0), some (.inl s), some (.inl k)] [] (cw n c tb tn tl se on dd ch ro ot ow tr tu ld lc cc br bw) (some (.inl (-2)), (cw n c tb tn tl se on dd ch ro ot ow tr tu ld lc cc br bw)) := by
    refine Ev.to 999 rfl ?_
    exact Ev.iret rfl rfl rfl rfl
  refine Ev.to 999 rfl ?_
  refine Ev.callV (rest := []) rfl rfl (c_isSet hn _) ?_
  refine Ev.to 999 rfl ?_
  refine Ev.on (fun _ => no) (fun h1 => ?_)
  refine Ev.to 999 rfl ?_
  refine Ev.if_ (fun _ => no) (fun h2 => ?_)
  refine Ev.to 999 rfl ?_
  refine Ev.callS rfl rfl (j_bc _ _) ?_
  refine Ev.callS (rest := []) rfl rfl (e_isWithin _ _ _ _) ?_
  refine Ev.to 999 rfl ?_
  refine Ev.on (fun _ => no) (fun h3 => ?_)
  rw [g_lok, h1, h3, decide_eq_true h2] at h
  exact absurd h (by decide)
theorem c_law_go {n : Nat} {c : Int32} {tb tn : Nat → Int32} {tl : Nat} {se on : Nat → Int32} {dd : Int32} {ch ro ot ow tr tu ld : Nat → Int32} {lc : Nat} {cc br bw : Int32} (hn : n ≤ 8) {s k : Int32} (h : g_lok n s k = true) {x : Option ix_V × ix_W} (kk : Ev m_X4_law 27 [some (.inr 0), some (.inl s), some (.inl k)] [] (cw n c tb tn tl se on dd ch ro ot ow tr tu ld lc cc br bw) x) : Ev m_X4_law 0 (ix_en m_X4_law [.inr 0, .inl s, .inl k]) [] (cw n c tb tn tl se on dd ch ro ot ow tr tu ld lc cc br bw) x := by
  rw [g_lok, Bool.and_eq_true, Bool.and_eq_true, decide_eq_true_eq] at h
  refine Ev.to 999 rfl ?_
  refine Ev.callV (rest := []) rfl rfl (c_isSet hn _) ?_
  refine Ev.to 999 rfl ?_
  refine Ev.ff (by rw [bz_t h.1]; decide) ?_
  refine Ev.to 999 rfl ?_
  refine Ev.ff h.2.1 ?_
  refine Ev.to 999 rfl ?_
  refine Ev.callS rfl rfl (j_bc _ _) ?_
  refine Ev.callS (rest := []) rfl rfl (e_isWithin _ _ _ _) ?_
  refine Ev.to 999 rfl ?_
  refine Ev.ff (by rw [bz_t h.2.2]; decide) ?_
  exact kk
theorem c_law_full {n : Nat} {c : Int32} {tb tn : Nat → Int32} {tl : Nat} {se on : Nat → Int32} {dd : Int32} {ch ro ot ow tr tu ld : Nat → Int32} {lc : Nat} {cc br bw : Int32} (hn : n ≤ 8) {s k : Int32} (h : g_lok n s k = true) (ht : tl = 6) : Cl m_X4_law [.inr 0, .inl s, .inl k] (cw n c tb tn tl se on dd ch ro ot ow tr tu ld lc cc br bw) (some (.inl (-4))) (cw n c tb tn tl se on dd ch ro ot ow tr tu ld lc cc br bw) := by
  refine c_law_go hn h ?_
  refine Ev.to 999 rfl ?_
  refine Ev.callV (rest := []) rfl rfl (e_addFull ht _ _) ?_
  exact Ev.iret rfl rfl rfl rfl
theorem c_law {n : Nat} {c : Int32} {tb tn : Nat → Int32} {tl : Nat} {se on : Nat → Int32} {dd : Int32} {ch ro ot ow tr tu ld : Nat → Int32} {lc : Nat} {cc br bw : Int32} (hn : n ≤ 8) {s k : Int32} (h : g_lok n s k = true) (ht : tl < 6) : Cl m_X4_law [.inr 0, .inl s, .inl k] (cw n c tb tn tl se on dd ch ro ot ow tr tu ld lc cc br bw) (some (.inl (nI tl))) (cw n c tb tn (tl + 1) (upd se tl s) (upd on tl k) dd ch ro ot ow tr tu ld lc cc br bw) := by
  refine c_law_go hn h ?_
  refine Ev.to 999 rfl ?_
  refine Ev.callV (rest := []) rfl rfl (e_add ht _ _) ?_
  exact Ev.iret rfl rfl rfl rfl
theorem c_unlaw_no {n : Nat} {c : Int32} {tb tn : Nat → Int32} {tl : Nat} {se on : Nat → Int32} {dd : Int32} {ch ro ot ow tr tu ld : Nat → Int32} {lc : Nat} {cc br bw : Int32} (h : tl = 0) : Cl m_X4_unlaw [.inr 0] (cw n c tb tn tl se on dd ch ro ot ow tr tu ld lc cc br bw) (some (.inl (-3))) (cw n c tb tn tl se on dd ch ro ot ow tr tu ld lc cc br bw) := by
  refine Ev.to 999 rfl ?_
  refine Ev.callV (rest := []) rfl rfl (e_dropNo h) ?_
  exact Ev.iret rfl rfl rfl rfl
theorem c_unlaw {n : Nat} {c : Int32} {tb tn : Nat → Int32} {tl : Nat} {se on : Nat → Int32} {dd : Int32} {ch ro ot ow tr tu ld : Nat → Int32} {lc : Nat} {cc br bw : Int32} (h : tl < 6) : Cl m_X4_unlaw [.inr 0] (cw n c tb tn (tl + 1) se on dd ch ro ot ow tr tu ld lc cc br bw) (some (.inl (nI tl))) (cw n c tb tn tl se on dd ch ro ot ow tr tu ld lc cc br bw) := by
  refine Ev.to 999 rfl ?_
  refine Ev.callV (rest := []) rfl rfl (e_drop h) ?_
  exact Ev.iret rfl rfl rfl rfl
/-! best states -/
def g_fw (tl : Nat) (se on : Nat → Int32) (p : Int32) (s : Nat) (f : Nat → Int32) : Nat → Int32 := upd f s (f s + p * g_mis tl se on (nI s))
def g_row (n : Nat) (c : Int32) (tb : Nat → Int32) (tl : Nat) (se on : Nat → Int32) (ro : Nat → Int32) (p : Int32) : Nat → Int32 := fd (g_fw tl se on p) (g_fill n c tb ro) (2 ^ n)
theorem c_fillWeighed {n : Nat} {c : Int32} {tb tn : Nat → Int32} {tl : Nat} {se on : Nat → Int32} {dd : Int32} {ch ro ot ow tr tu ld : Nat → Int32} {lc : Nat} {cc br bw : Int32} (hn : n ≤ 8) (ht : tl ≤ 6) (p : Int32) : Cl m_X4_fillWeighed [.inr 0, .inl p] (cw n c tb tn tl se on dd ch ro ot ow tr tu ld lc cc br bw) none (cw n c tb tn tl se on dd ch (g_row n c tb tl se on ro p) ot ow tr tu ld lc cc br bw) := by
  obtain ⟨hp1, hp2⟩ := pw_le hn
  rw [g_row]
  refine Ev.to 999 rfl ?_
  refine Ev.callV (rest := []) rfl rfl (e_fillro hn) ?_
  generalize g_fill n c tb ro = F0
  refine Ev.to 13 (L1 := [_, _, _]) (st1 := []) rfl ?_
  refine Ev.loop (fun s => [some (.inr 0), some (.inl p), some (.inl (nI s))]) (fun s => (cw n c tb tn tl se on dd ch (fd (g_fw tl se on p) F0 s) ot ow tr tu ld lc cc br bw)) (fun _ => True) 0 (2 ^ n) (Nat.zero_le _) trivial (fun s _ hs _ kk => ?_) (fun _ => ?_)
  · have kk := kk trivial
    rw [nI_succ, fd, g_fw] at kk
    generalize fd (g_fw tl se on p) F0 s = F at kk ⊢
    refine Ev.to 999 rfl ?_
    refine Ev.callV rfl rfl (e_states hn) ?_
    refine Ev.to 999 rfl ?_
    refine Ev.ff (nI_ng hs (by omega)) ?_
    refine Ev.to 999 rfl ?_
    refine Ev.ald rfl rfl (by omega) (by decide) ?_
    refine Ev.to 999 rfl ?_
    refine Ev.callV rfl rfl (e_missedBy ht _) ?_
    refine Ev.to 999 rfl ?_
    refine Ev.ast rfl rfl (by omega) (by decide) ?_
    exact Ev.to 13 (L1 := [_, _, _]) rfl kk
  · refine Ev.to 999 rfl ?_
    refine Ev.callV rfl rfl (e_states hn) ?_
    refine Ev.to 999 rfl ?_
    refine Ev.tt (nI_gg (by omega)) ?_
    exact Ev.vret rfl rfl rfl
def g_mn (R : Nat → Int32) (t : Nat) (a : Int32) : Int32 := imin a (R (t + 1))
def g_low (n : Nat) (R : Nat → Int32) : Int32 := fd (g_mn R) (R 0) (2 ^ n - 1)
theorem c_leastOfRow {n : Nat} {c : Int32} {tb tn : Nat → Int32} {tl : Nat} {se on : Nat → Int32} {dd : Int32} {ch ro ot ow tr tu ld : Nat → Int32} {lc : Nat} {cc br bw : Int32} (hn : n ≤ 8) : Cl m_X4_leastOfRow [.inr 0] (cw n c tb tn tl se on dd ch ro ot ow tr tu ld lc cc br bw) (some (.inl (g_low n ro))) (cw n c tb tn tl se on dd ch ro ot ow tr tu ld lc cc br bw) := by
  obtain ⟨hp1, hp2⟩ := pw_le hn
  rw [g_low]
  refine Ev.to 999 rfl ?_
  refine Ev.ald (a := 0) rfl rfl (by decide) (by decide) ?_
  refine Ev.to 9 (L1 := [_, _, _]) (st1 := []) rfl ?_
  refine Ev.loop (fun t => [some (.inr 0), some (.inl (fd (g_mn ro) (ro 0) t)), some (.inl (nI (t + 1)))]) (fun _ => (cw n c tb tn tl se on dd ch ro ot ow tr tu ld lc cc br bw)) (fun _ => True) 0 (2 ^ n - 1) (Nat.zero_le _) trivial (fun t _ ht _ kk => ?_) (fun _ => ?_)
  · have kk := kk trivial
    rw [nI_succ (t + 1), fd, g_mn] at kk
    refine Ev.to 999 rfl ?_
    refine Ev.callV rfl rfl (e_states hn) ?_
    refine Ev.to 999 rfl ?_
    refine Ev.ff (nI_ng (by omega) (by omega)) ?_
    refine Ev.to 999 rfl ?_
    refine Ev.ald rfl rfl (by omega) (by decide) ?_
    refine Ev.callS rfl rfl (j_min _ _ _) ?_
    exact Ev.to 9 (L1 := [_, _, _]) rfl kk
  · refine Ev.to 999 rfl ?_
    refine Ev.callV rfl rfl (e_states hn) ?_
    refine Ev.to 999 rfl ?_
    rw [show 2 ^ n - 1 + 1 = 2 ^ n by omega]
    refine Ev.tt (nI_gg (by omega)) ?_
    refine Ev.to 999 rfl ?_
    exact Ev.iret rfl rfl rfl rfl
theorem c_best_no {n : Nat} {c : Int32} {tb tn : Nat → Int32} {tl : Nat} {se on : Nat → Int32} {dd : Int32} {ch ro ot ow tr tu ld : Nat → Int32} {lc : Nat} {cc br bw : Int32} {p : Int32} (h : inw p 0 1000 = false) : Cl m_X4_best [.inr 0, .inl p] (cw n c tb tn tl se on dd ch ro ot ow tr tu ld lc cc br bw) (some (.inl (-2147483648))) (cw n c tb tn tl se on dd ch ro ot ow tr tu ld lc cc br bw) := by
  refine Ev.to 999 rfl ?_
  refine Ev.callS (rest := []) rfl rfl (e_isPull _ _) ?_
  refine Ev.to 999 rfl ?_
  refine Ev.tt (bz_f h) ?_
  refine Ev.to 999 rfl ?_
  exact Ev.iret rfl rfl rfl rfl
theorem c_best {n : Nat} {c : Int32} {tb tn : Nat → Int32} {tl : Nat} {se on : Nat → Int32} {dd : Int32} {ch ro ot ow tr tu ld : Nat → Int32} {lc : Nat} {cc br bw : Int32} (hn : n ≤ 8) (ht : tl ≤ 6) {p : Int32} (h : inw p 0 1000 = true) : Cl m_X4_best [.inr 0, .inl p] (cw n c tb tn tl se on dd ch ro ot ow tr tu ld lc cc br bw) (some (.inl (g_low n (g_row n c tb tl se on ro p)))) (cw n c tb tn tl se on dd ch (g_row n c tb tl se on ro p) ot ow tr tu ld lc cc br bw) := by
  refine Ev.to 999 rfl ?_
  refine Ev.callS (rest := []) rfl rfl (e_isPull _ _) ?_
  refine Ev.to 999 rfl ?_
  refine Ev.ff (by rw [bz_t h]; decide) ?_
  refine Ev.to 999 rfl ?_
  refine Ev.callV (rest := []) rfl rfl (c_fillWeighed hn ht _) ?_
  refine Ev.to 999 rfl ?_
  refine Ev.callV (rest := []) rfl rfl (c_leastOfRow hn) ?_
  exact Ev.iret rfl rfl rfl rfl
def g_li (R : Nat → Int32) (m : Int32) (s : Nat) (p : (Nat → Int32) × Nat) : (Nat → Int32) × Nat := if R s = m then (upd p.1 p.2 (nI s), p.2 + 1) else p
theorem g_li_le (R : Nat → Int32) (m : Int32) (f : Nat → Int32) (s : Nat) : (fd (g_li R m) (f, 0) s).2 ≤ s := by
  induction s with
  | zero => exact Nat.le_refl _
  | succ s ih =>
    rw [fd, g_li]
    split
    · exact Nat.succ_le_succ ih
    · omega
def g_lst (n : Nat) (R : Nat → Int32) (f : Nat → Int32) : (Nat → Int32) × Nat := fd (g_li R (g_low n R)) (f, 0) (2 ^ n)
theorem c_listBest {n : Nat} {c : Int32} {tb tn : Nat → Int32} {tl : Nat} {se on : Nat → Int32} {dd : Int32} {ch ro ot ow tr tu ld : Nat → Int32} {lc : Nat} {cc br bw : Int32} (hn : n ≤ 8) (ht : tl ≤ 6) (p : Int32) : Cl m_X4_listBest [.inr 0, .inl p] (cw n c tb tn tl se on dd ch ro ot ow tr tu ld lc cc br bw) (some (.inl (nI (g_lst n (g_row n c tb tl se on ro p) ot).2))) (cw n c tb tn tl se on dd ch (g_row n c tb tl se on ro p) ((g_lst n (g_row n c tb tl se on ro p) ot).1) ow tr tu ld lc cc br bw) := by
  obtain ⟨hp1, hp2⟩ := pw_le hn
  refine Ev.to 999 rfl ?_
  refine Ev.callV (rest := []) rfl rfl (c_fillWeighed hn ht _) ?_
  refine Ev.to 999 rfl ?_
  refine Ev.callV (rest := []) rfl rfl (c_leastOfRow hn) ?_
  rw [g_lst]
  generalize g_row n c tb tl se on ro p = R
  generalize g_low n R = m
  refine Ev.to 15 (L1 := [_, _, _, _, _]) (st1 := []) rfl ?_
  refine Ev.loop (fun s => [some (.inr 0), some (.inl p), some (.inl m), some (.inl (nI (fd (g_li R m) (ot, 0) s).2)), some (.inl (nI s))]) (fun s => (cw n c tb tn tl se on dd ch (R) ((fd (g_li R m) (ot, 0) s).1) ow tr tu ld lc cc br bw)) (fun _ => True) 0 (2 ^ n) (Nat.zero_le _) trivial (fun s _ hs _ kk => ?_) (fun _ => ?_)
  · have kk := kk trivial
    have hle := g_li_le R m ot s
    rw [nI_succ s, fd, g_li] at kk
    generalize fd (g_li R m) (ot, 0) s = q at kk hle ⊢
    obtain ⟨F, k⟩ := q
    dsimp only at kk hle ⊢
    refine Ev.to 999 rfl ?_
    refine Ev.callV rfl rfl (e_states hn) ?_
    refine Ev.to 999 rfl ?_
    refine Ev.ff (nI_ng hs (by omega)) ?_
    refine Ev.to 999 rfl ?_
    refine Ev.ald rfl rfl (by omega) (by decide) ?_
    refine Ev.to 999 rfl ?_
    refine Ev.if_ (fun h => ?_) (fun h => ?_)
    · rw [if_pos h] at kk
      dsimp only at kk
      rw [nI_succ k] at kk
      refine Ev.to 999 rfl ?_
      refine Ev.ast rfl rfl (by omega) (by decide) ?_
      exact Ev.to 15 (L1 := [_, _, _, _, _]) rfl kk
    · rw [if_neg h] at kk
      exact Ev.to 15 (L1 := [_, _, _, _, _]) rfl kk
  · refine Ev.to 999 rfl ?_
    refine Ev.callV rfl rfl (e_states hn) ?_
    refine Ev.to 999 rfl ?_
    refine Ev.tt (nI_gg (by omega)) ?_
    refine Ev.to 999 rfl ?_
    exact Ev.iret rfl rfl rfl rfl
theorem c_many_no {n : Nat} {c : Int32} {tb tn : Nat → Int32} {tl : Nat} {se on : Nat → Int32} {dd : Int32} {ch ro ot ow tr tu ld : Nat → Int32} {lc : Nat} {cc br bw : Int32} {p : Int32} (h : inw p 0 1000 = false) : Cl m_X4_many [.inr 0, .inl p] (cw n c tb tn tl se on dd ch ro ot ow tr tu ld lc cc br bw) (some (.inl (-2))) (cw n c tb tn tl se on dd ch ro ot ow tr tu ld lc cc br bw) := by
  refine Ev.to 999 rfl ?_
  refine Ev.callS (rest := []) rfl rfl (e_isPull _ _) ?_
  refine Ev.to 999 rfl ?_
  refine Ev.tt (bz_f h) ?_
  refine Ev.to 999 rfl ?_
  exact Ev.iret rfl rfl rfl rfl
theorem c_many {n : Nat} {c : Int32} {tb tn : Nat → Int32} {tl : Nat} {se on : Nat → Int32} {dd : Int32} {ch ro ot ow tr tu ld : Nat → Int32} {lc : Nat} {cc br bw : Int32} (hn : n ≤ 8) (ht : tl ≤ 6) {p : Int32} (h : inw p 0 1000 = true) : Cl m_X4_many [.inr 0, .inl p] (cw n c tb tn tl se on dd ch ro ot ow tr tu ld lc cc br bw) (some (.inl (nI (g_lst n (g_row n c tb tl se on ro p) ot).2))) (cw n c tb tn tl se on dd ch (g_row n c tb tl se on ro p) ((g_lst n (g_row n c tb tl se on ro p) ot).1) ow tr tu ld lc cc br bw) := by
  refine Ev.to 999 rfl ?_
  refine Ev.callS (rest := []) rfl rfl (e_isPull _ _) ?_
  refine Ev.to 999 rfl ?_
  refine Ev.ff (by rw [bz_t h]; decide) ?_
  refine Ev.to 999 rfl ?_
  refine Ev.callV (rest := []) rfl rfl (c_listBest hn ht _) ?_
  exact Ev.iret rfl rfl rfl rfl
theorem c_bestAt_no {n : Nat} {c : Int32} {tb tn : Nat → Int32} {tl : Nat} {se on : Nat → Int32} {dd : Int32} {ch ro ot ow tr tu ld : Nat → Int32} {lc : Nat} {cc br bw : Int32} {p : Int32} (k : Int32) (h : inw p 0 1000 = false) : Cl m_X4_bestAt [.inr 0, .inl p, .inl k] (cw n c tb tn tl se on dd ch ro ot ow tr tu ld lc cc br bw) (some (.inl (-2))) (cw n c tb tn tl se on dd ch ro ot ow tr tu ld lc cc br bw) := by
  refine Ev.to 999 rfl ?_
  refine Ev.callS (rest := []) rfl rfl (e_isPull _ _) ?_
  refine Ev.to 999 rfl ?_
  refine Ev.tt (bz_f h) ?_
  refine Ev.to 999 rfl ?_
  exact Ev.iret rfl rfl rfl rfl
theorem inw_of {x : Int32} {m : Nat} (hm : m < 2 ^ 31) (h : inw x 0 (nI m - 1) = true) : ∃ a : Nat, a < m ∧ x = nI a := by
  obtain ⟨h1, h2⟩ := of_decide_eq_true h
  cases m with
  | zero =>
    have h3 : (nI 0 - 1 : Int32) = -1 := rfl
    rw [h3] at h2
    rw [fa_le] at h1 h2
    have e1 : (0 : Int32).toInt = 0 := rfl
    have e2 : (-1 : Int32).toInt = -1 := rfl
    rw [e1] at h1; rw [e2] at h2; omega
  | succ m =>
    rw [nI_pred] at h2
    obtain ⟨a, ha, rfl⟩ := nI_of (fun q => i32_nlt.mpr h1 q)
    rw [nI_leI ha (by omega)] at h2
    exact ⟨a, by omega, rfl⟩
theorem inw_to {a m : Nat} (hm : m < 2 ^ 31) (ha : a < m) : inw (nI a) 0 (nI m - 1) = true := by
  cases m with
  | zero => omega
  | succ m => rw [nI_pred]; exact inw_nat (by omega) (by omega)
theorem c_bestAt {n : Nat} {c : Int32} {tb tn : Nat → Int32} {tl : Nat} {se on : Nat → Int32} {dd : Int32} {ch ro ot ow tr tu ld : Nat → Int32} {lc : Nat} {cc br bw : Int32} (hn : n ≤ 8) (ht : tl ≤ 6) {p : Int32} (k : Int32) (h : inw p 0 1000 = true) : Cl m_X4_bestAt [.inr 0, .inl p, .inl k] (cw n c tb tn tl se on dd ch ro ot ow tr tu ld lc cc br bw) (some (.inl (if inw k 0 (nI (g_lst n (g_row n c tb tl se on ro p) ot).2 - 1) = true then (g_lst n (g_row n c tb tl se on ro p) ot).1 k.toNatClampNeg else -2))) (cw n c tb tn tl se on dd ch (g_row n c tb tl se on ro p) ((g_lst n (g_row n c tb tl se on ro p) ot).1) ow tr tu ld lc cc br bw) := by
  obtain ⟨hp1, hp2⟩ := pw_le hn
  have hle : (g_lst n (g_row n c tb tl se on ro p) ot).2 ≤ 2 ^ n := g_li_le _ _ _ _
  refine Ev.to 999 rfl ?_
  refine Ev.callS (rest := []) rfl rfl (e_isPull _ _) ?_
  refine Ev.to 999 rfl ?_
  refine Ev.ff (by rw [bz_t h]; decide) ?_
  refine Ev.to 999 rfl ?_
  refine Ev.callV (rest := []) rfl rfl (c_listBest hn ht _) ?_
  generalize g_lst n (g_row n c tb tl se on ro p) ot = z at hle ⊢
  obtain ⟨F, f⟩ := z
  dsimp only at hle ⊢
  refine Ev.to 999 (L1 := [_, _, _, _]) rfl ?_
  refine Ev.callS (rest := []) rfl rfl (e_isWithin _ _ _ _) ?_
  refine Ev.to 999 rfl ?_
  refine Ev.on (fun h1 => ?_) (fun h1 => ?_)
  · rw [if_neg (by intro q; rw [show inw k 0 (nI f - 1) = false from h1] at q; cases q)]
    refine Ev.to 999 rfl ?_
    exact Ev.iret rfl rfl rfl rfl
  · rw [if_pos h1]
    obtain ⟨a, ha, rfl⟩ := inw_of (by omega) h1
    rw [nI_clamp (by omega)]
    refine Ev.to 999 rfl ?_
    refine Ev.ald rfl rfl (by omega) (by decide) ?_
    refine Ev.to 999 rfl ?_
    exact Ev.iret rfl rfl rfl rfl
/-! pull -/
def kpv (o : Option Nat) : Int32 := match o with
  | none => -1
  | some q => nI q
def g_bk (R : Nat → Int32) (M : Nat → Int32) (s : Nat) (o : Option Nat) : Option Nat := if M s = 0 then (match o with
  | none => some s
  | some q => if R q ≤ R s then some q else some s) else o
theorem g_bk_lt (R M : Nat → Int32) (s : Nat) : ∀ q, fd (g_bk R M) none s = some q → q < s := by
  induction s with
  | zero => intro q h; cases h
  | succ s ih =>
    intro q h
    rw [fd, g_bk.eq_def] at h
    split at h
    · split at h
      · cases h; omega
      · rename_i q2 hq2
        split at h
        · cases h; have := ih q hq2; omega
        · cases h; omega
    · have := ih q h; omega
theorem c_bestKeeper {n : Nat} {c : Int32} {tb tn : Nat → Int32} {tl : Nat} {se on : Nat → Int32} {dd : Int32} {ch ro ot ow tr tu ld : Nat → Int32} {lc : Nat} {cc br bw : Int32} (hn : n ≤ 8) (ht : tl ≤ 6) : Cl m_X4_bestKeeper [.inr 0] (cw n c tb tn tl se on dd ch ro ot ow tr tu ld lc cc br bw) (some (.inl (kpv (fd (g_bk ro (fun s => g_mis tl se on (nI s))) none (2 ^ n))))) (cw n c tb tn tl se on dd ch ro ot ow tr tu ld lc cc br bw) := by
  obtain ⟨hp1, hp2⟩ := pw_le hn
  refine Ev.to 4 (L1 := [_, _, _]) (st1 := []) rfl ?_
  refine Ev.loop (fun s => [some (.inr 0), some (.inl (kpv (fd (g_bk ro (fun s => g_mis tl se on (nI s))) none s))), some (.inl (nI s))]) (fun _ => (cw n c tb tn tl se on dd ch ro ot ow tr tu ld lc cc br bw)) (fun _ => True) 0 (2 ^ n) (Nat.zero_le _) trivial (fun s _ hs _ kk => ?_) (fun _ => ?_)
  · have kk := kk trivial
    have hlt := g_bk_lt ro (fun s => g_mis tl se on (nI s)) s
    rw [nI_succ s, fd, g_bk.eq_def] at kk
    generalize fd (g_bk ro (fun s => g_mis tl se on (nI s))) none s = o at kk hlt ⊢
    refine Ev.to 999 rfl ?_
    refine Ev.callV rfl rfl (e_states hn) ?_
    refine Ev.to 999 rfl ?_
    refine Ev.ff (nI_ng hs (by omega)) ?_
    refine Ev.to 999 rfl ?_
    refine Ev.callV (rest := []) rfl rfl (e_missedBy ht _) ?_
    refine Ev.to 999 rfl ?_
    refine Ev.if_ (fun h => ?_) (fun h => ?_)
    · rw [if_pos h] at kk
      refine Ev.to 999 rfl ?_
      cases o with
      | none =>
        exact Ev.to 4 (L1 := [_, _, _]) rfl kk
      | some q =>
        have hq := hlt q rfl
        dsimp only at kk
        refine Ev.ff (by
          show ¬ nI q = -1
          intro z
          have : (nI q).toInt = (-1 : Int32).toInt := by rw [z]
          rw [nI_toInt (by omega)] at this
          have e2 : (-1 : Int32).toInt = -1 := rfl
          omega) ?_
        refine Ev.to 999 rfl ?_
        refine Ev.ald rfl rfl (by omega) (by decide) ?_
        refine Ev.to 999 rfl ?_
        refine Ev.ald (a := q) rfl rfl (by omega) (by decide) ?_
        refine Ev.to 999 rfl ?_
        refine Ev.if_ (fun h2 => ?_) (fun h2 => ?_)
        · rw [if_pos h2] at kk
          exact Ev.to 4 (L1 := [_, _, _]) rfl kk
        · rw [if_neg h2] at kk
          exact Ev.to 4 (L1 := [_, _, _]) rfl kk
    · rw [if_neg h] at kk
      exact Ev.to 4 (L1 := [_, _, _]) rfl kk
  · refine Ev.to 999 rfl ?_
    refine Ev.callV rfl rfl (e_states hn) ?_
    refine Ev.to 999 rfl ?_
    refine Ev.tt (nI_gg (by omega)) ?_
    refine Ev.to 999 rfl ?_
    exact Ev.iret rfl rfl rfl rfl
def g_pl (R M : Nat → Int32) (best : Int32) (s : Nat) (a : Int32) : Int32 := if 0 < M s ∧ R s + a * M s ≤ best then (best - R s) / M s + 1 else a
theorem c_pull_no {n : Nat} {c : Int32} {tb tn : Nat → Int32} {tl : Nat} {se on : Nat → Int32} {dd : Int32} {ch ro ot ow tr tu ld : Nat → Int32} {lc : Nat} {cc br bw : Int32} (hn : n ≤ 8) (ht : tl ≤ 6) (h : fd (g_bk (g_fill n c tb ro) (fun s => g_mis tl se on (nI s))) none (2 ^ n) = none) : Cl m_X4_pull [.inr 0] (cw n c tb tn tl se on dd ch ro ot ow tr tu ld lc cc br bw) (some (.inl (-1))) (cw n c tb tn tl se on dd ch (g_fill n c tb ro) ot ow tr tu ld lc cc br bw) := by
  refine Ev.to 999 rfl ?_
  refine Ev.callV (rest := []) rfl rfl (e_fillro hn) ?_
  refine Ev.to 999 rfl ?_
  refine Ev.callV (rest := []) rfl rfl (c_bestKeeper hn ht) ?_
  rw [h]
  refine Ev.to 999 (L1 := [_, _, _, _, _]) (pc1 := 21) rfl ?_
  refine Ev.to 999 rfl ?_
  exact Ev.iret rfl rfl rfl rfl
theorem c_pull {n : Nat} {c : Int32} {tb tn : Nat → Int32} {tl : Nat} {se on : Nat → Int32} {dd : Int32} {ch ro ot ow tr tu ld : Nat → Int32} {lc : Nat} {cc br bw : Int32} (hn : n ≤ 8) (ht : tl ≤ 6) {q : Nat} (h : fd (g_bk (g_fill n c tb ro) (fun s => g_mis tl se on (nI s))) none (2 ^ n) = some q) : Cl m_X4_pull [.inr 0] (cw n c tb tn tl se on dd ch ro ot ow tr tu ld lc cc br bw) (some (.inl (imin (fd (g_pl (g_fill n c tb ro) (fun s => g_mis tl se on (nI s)) (g_fill n c tb ro q)) 0 (2 ^ n)) 1001))) (cw n c tb tn tl se on dd ch (g_fill n c tb ro) ot ow tr tu ld lc cc br bw) := by
  obtain ⟨hp1, hp2⟩ := pw_le hn
  have hq := g_bk_lt _ _ _ q h
  refine Ev.to 999 rfl ?_
  refine Ev.callV (rest := []) rfl rfl (e_fillro hn) ?_
  refine Ev.to 999 rfl ?_
  refine Ev.callV (rest := []) rfl rfl (c_bestKeeper hn ht) ?_
  rw [h]
  generalize g_fill n c tb ro = R
  refine Ev.to 999 (L1 := [_, some (.inl (nI q)), _, _, _]) rfl ?_
  refine Ev.ff (by
    show ¬ nI q = -1
    intro z
    have : (nI q).toInt = (-1 : Int32).toInt := by rw [z]
    rw [nI_toInt (by omega)] at this
    have e2 : (-1 : Int32).toInt = -1 := rfl
    omega) ?_
  refine Ev.to 27 (L1 := [_, _, _, _, _]) (st1 := []) rfl ?_
  refine Ev.loop (fun s => [some (.inr 0), some (.inl (nI q)), some (.inl (fd (g_pl R (fun s => g_mis tl se on (nI s)) (R q)) 0 s)), some (.inl (nI s)), none]) (fun _ => (cw n c tb tn tl se on dd ch (R) ot ow tr tu ld lc cc br bw)) (fun _ => True) 0 (2 ^ n) (Nat.zero_le _) trivial (fun s _ hs _ kk => ?_) (fun _ => ?_)
  · have kk := kk trivial
    rw [nI_succ s, fd, g_pl] at kk
    generalize fd (g_pl R (fun s => g_mis tl se on (nI s)) (R q)) 0 s = a at kk ⊢
    refine Ev.to 999 rfl ?_
    refine Ev.callV rfl rfl (e_states hn) ?_
    refine Ev.to 999 rfl ?_
    refine Ev.ff (nI_ng hs (by omega)) ?_
    refine Ev.to 999 rfl ?_
    refine Ev.callV (rest := []) rfl rfl (e_missedBy ht _) ?_
    generalize g_mis tl se on (nI s) = M at kk ⊢
    refine Ev.to 999 (L1 := [_, _, _, _, _]) rfl ?_
    refine Ev.if_ (fun h => ?_) (fun h => ?_)
    · rw [if_neg (fun z => i32_nlt.mpr h z.1)] at kk
      exact Ev.to 27 (L1 := [_, _, _, _, _]) rfl (Ev.fg kk (le_cc (le_cc (le_cc (le_cc (le_nc le_nil))))))
    · have h := i32_nle.mp h
      refine Ev.to 999 rfl ?_
      refine Ev.ald rfl rfl (by omega) (by decide) ?_
      refine Ev.to 999 rfl ?_
      refine Ev.ald rfl rfl (by omega) (by decide) ?_
      refine Ev.to 999 rfl ?_
      refine Ev.if_ (fun h2 => ?_) (fun h2 => ?_)
      · rw [if_neg (fun z => i32_nlt.mpr z.2 h2)] at kk
        exact Ev.to 27 (L1 := [_, _, _, _, _]) rfl (Ev.fg kk (le_cc (le_cc (le_cc (le_cc (le_nc le_nil))))))
      · rw [if_pos ⟨h, i32_nlt.mp h2⟩] at kk
        refine Ev.to 999 rfl ?_
        refine Ev.ald rfl rfl (by omega) (by decide) ?_
        refine Ev.to 999 rfl ?_
        refine Ev.ald rfl rfl (by omega) (by decide) ?_
        refine Ev.to 999 rfl ?_
        refine Ev.dv rfl (fun z => by rw [z] at h; exact absurd h (by decide)) ?_
        exact Ev.to 27 (L1 := [_, _, _, _, _]) rfl (Ev.fg kk (le_cc (le_cc (le_cc (le_cc (le_nc le_nil))))))
  · refine Ev.to 999 rfl ?_
    refine Ev.callV rfl rfl (e_states hn) ?_
    refine Ev.to 999 rfl ?_
    refine Ev.tt (nI_gg (by omega)) ?_
    refine Ev.to 999 rfl ?_
    refine Ev.callS rfl rfl (j_min _ _ _) ?_
    exact Ev.iret rfl rfl rfl rfl
end
section
/-! ColdGrid, the second half -/
def g_fv (n : Nat) (tb : Nat → Int32) (i : Nat) (s o : Int32) : Int32 := if bb s i = true then -1 else g_vf n tb i s o
def g_fx (n : Nat) (tb : Nat → Int32) (i : Nat) (p : Int32 × Int32 × Int32) : Int32 × Int32 × Int32 := if g_fv n tb i p.1 p.2.1 = -1 then p else (p.1 ||| ((1 : Int32) <<< (nI i &&& 31)), p.2.1 ||| (g_fv n tb i p.1 p.2.1 <<< (nI i &&& 31)), 1)
def g_fo (n : Nat) (tb : Nat → Int32) (_ : Nat) (p : Int32 × Int32 × Int32) : Int32 × Int32 × Int32 := if p.2.2 = 0 then p else fd (g_fx n tb) (p.1, p.2.1, 0) n
theorem fd_still {α : Type} {g : Nat → α → α} {s : α} {r m : Nat} (h : ∀ i, r ≤ i → g i (fd g s r) = fd g s r) (hm : r ≤ m) : fd g s m = fd g s r := by
  induction m with
  | zero => rw [show r = 0 by omega]
  | succ m ih =>
    rcases Nat.lt_or_ge m r with q | q
    · rw [show m + 1 = r by omega]
    · rw [fd, ih q, h m q]
theorem c_fixed_no {n : Nat} {c : Int32} {tb tn : Nat → Int32} {tl : Nat} {se on : Nat → Int32} {dd : Int32} {ch ro ot ow tr tu ld : Nat → Int32} {lc : Nat} {cc br bw : Int32} {x : Int32} (h : inw x 0 1 = false) : Cl m_X4_fixed [.inr 0, .inl x] (cw n c tb tn tl se on dd ch ro ot ow tr tu ld lc cc br bw) (some (.inl (-2))) (cw n c tb tn tl se on dd ch ro ot ow tr tu ld lc cc br bw) := by
  refine Ev.to 999 rfl ?_
  refine Ev.callS (rest := []) rfl rfl (e_isWithin _ _ _ _) ?_
  refine Ev.to 999 rfl ?_
  refine Ev.tt (bz_f h) ?_
  refine Ev.to 999 rfl ?_
  exact Ev.iret rfl rfl rfl rfl
theorem c_fixed_end {n : Nat} {c : Int32} {tb tn : Nat → Int32} {tl : Nat} {se on : Nat → Int32} {dd : Int32} {ch ro ot ow tr tu ld : Nat → Int32} {lc : Nat} {cc br bw : Int32} (x s o : Int32) (z4 z5 z6 z7 : Option ix_V) : Ev m_X4_fixed 114 [some (.inr 0), some (.inl x), some (.inl s), some (.inl o), z4, z5, z6, z7] [] (cw n c tb tn tl se on dd ch ro ot ow tr tu ld lc cc br bw) (some (.inl (if x = 0 then s else o)), (cw n c tb tn tl se on dd ch ro ot ow tr tu ld lc cc br bw)) := by
  refine Ev.to 999 rfl ?_
  refine Ev.if_ (fun h => ?_) (fun h => ?_)
  · refine Ev.to 999 rfl ?_
    exact Ev.iret rfl rfl (by rw [if_pos h]) rfl
  · refine Ev.to 999 rfl ?_
    exact Ev.iret rfl rfl (by rw [if_neg h]) rfl
theorem c_fixed {n : Nat} {c : Int32} {tb tn : Nat → Int32} {tl : Nat} {se on : Nat → Int32} {dd : Int32} {ch ro ot ow tr tu ld : Nat → Int32} {lc : Nat} {cc br bw : Int32} (hn : n ≤ 8) {x : Int32} (h : inw x 0 1 = true) : Cl m_X4_fixed [.inr 0, .inl x] (cw n c tb tn tl se on dd ch ro ot ow tr tu ld lc cc br bw) (some (.inl (if x = 0 then (fd (g_fo n tb) (0, 0, 1) 8).1 else (fd (g_fo n tb) (0, 0, 1) 8).2.1))) (cw n c tb tn tl se on dd ch ro ot ow tr tu ld lc cc br bw) := by
  refine Ev.to 999 rfl ?_
  refine Ev.callS (rest := []) rfl rfl (e_isWithin _ _ _ _) ?_
  refine Ev.to 999 rfl ?_
  refine Ev.ff (by rw [bz_t h]; decide) ?_
  refine Ev.to 22 (L1 := [_, _, _, _, _, _, _, _]) (st1 := []) rfl ?_
  refine Ev.loop (fun r => [some (.inr 0), some (.inl x), some (.inl (fd (g_fo n tb) (0, 0, 1) r).1), some (.inl (fd (g_fo n tb) (0, 0, 1) r).2.1), some (.inl (fd (g_fo n tb) (0, 0, 1) r).2.2), some (.inl (nI r)), none, none]) (fun _ => (cw n c tb tn tl se on dd ch ro ot ow tr tu ld lc cc br bw)) (fun _ => True) 0 8 (by omega) trivial (fun r _ hr _ kk => ?_) (fun _ => ?_)
  · have kk := kk trivial
    have hstill : (fd (g_fo n tb) (0, 0, 1) r).2.2 = 0 → fd (g_fo n tb) (0, 0, 1) 8 = fd (g_fo n tb) (0, 0, 1) r := fun hz => fd_still (fun i _ => by rw [g_fo, if_pos hz]) (by omega)
    rw [nI_succ, fd, g_fo] at kk
    generalize fd (g_fo n tb) (0, 0, 1) r = p at kk hstill ⊢
    obtain ⟨s, o, a⟩ := p
    dsimp only at kk hstill ⊢
    refine Ev.to 999 rfl ?_
    refine Ev.if_ (fun h1 => ?_) (fun h1 => ?_)
    · rw [hstill h1]
      exact c_fixed_end x s o _ _ _ _
    · rw [if_neg h1] at kk
      refine Ev.to 999 rfl ?_
      refine Ev.ff (nI_ng (n := 8) hr (by omega)) ?_
      refine Ev.to 40 (L1 := [_, _, _, _, _, _, _, _]) (st1 := []) rfl ?_
      refine Ev.loop (fun i => [some (.inr 0), some (.inl x), some (.inl (fd (g_fx n tb) (s, o, 0) i).1), some (.inl (fd (g_fx n tb) (s, o, 0) i).2.1), some (.inl (fd (g_fx n tb) (s, o, 0) i).2.2), some (.inl (nI r)), some (.inl (nI i)), none]) (fun _ => (cw n c tb tn tl se on dd ch ro ot ow tr tu ld lc cc br bw)) (fun _ => True) 0 n (Nat.zero_le n) trivial (fun i _ hi _ k2 => ?_) (fun _ => ?_)
      · have k2 := k2 trivial
        rw [nI_succ, fd, g_fx] at k2
        generalize fd (g_fx n tb) (s, o, 0) i = p at k2 ⊢
        obtain ⟨s2, o2, a2⟩ := p
        dsimp only at k2 ⊢
        have J : ∀ v, g_fv n tb i s2 o2 = v → Ev m_X4_fixed 76 [some (.inr 0), some (.inl x), some (.inl s2), some (.inl o2), some (.inl a2), some (.inl (nI r)), some (.inl (nI i)), none] [.inl v] (cw n c tb tn tl se on dd ch ro ot ow tr tu ld lc cc br bw) (some (.inl (if x = 0 then (fd (g_fo n tb) (0, 0, 1) 8).1 else (fd (g_fo n tb) (0, 0, 1) 8).2.1)), (cw n c tb tn tl se on dd ch ro ot ow tr tu ld lc cc br bw)) := by
          intro v hv
          rw [hv] at k2
          refine Ev.to 999 (L1 := [_, _, _, _, _, _, _, _]) rfl ?_
          refine Ev.if_ (fun h2 => ?_) (fun h2 => ?_)
          · rw [if_pos h2] at k2
            exact Ev.to 40 (L1 := [_, _, _, _, _, _, _, _]) rfl (Ev.fg k2 (le_cc (le_cc (le_cc (le_cc (le_cc (le_cc (le_cc (le_nc le_nil)))))))))
          · rw [if_neg h2] at k2
            exact Ev.to 40 (L1 := [_, _, _, _, _, _, _, _]) rfl (Ev.fg k2 (le_cc (le_cc (le_cc (le_cc (le_cc (le_cc (le_cc (le_nc le_nil)))))))))
        refine Ev.to 999 rfl ?_
        refine Ev.callV rfl rfl e_size ?_
        refine Ev.to 999 rfl ?_
        refine Ev.ff (nI_ng hi (by omega)) ?_
        refine Ev.to 999 rfl ?_
        refine Ev.callS (rest := []) rfl rfl (e_isIn _ _ _) ?_
        refine Ev.to 999 rfl ?_
        refine Ev.on (fun hb => ?_) (fun hb => ?_)
        · refine Ev.to 999 rfl ?_
          refine Ev.callV (rest := []) rfl rfl (e_valueToFix hn (by omega) _ _) ?_
          exact J _ (by rw [g_fv, if_neg (by rw [hb]; decide)])
        · exact Ev.to 76 rfl (J _ (by rw [g_fv, if_pos hb]))
      · refine Ev.to 999 rfl ?_
        refine Ev.callV rfl rfl e_size ?_
        refine Ev.to 999 rfl ?_
        refine Ev.tt (nI_gg (by omega)) ?_
        exact Ev.to 22 (L1 := [_, _, _, _, _, _, _, _]) rfl (Ev.fg kk (le_cc (le_cc (le_cc (le_cc (le_cc (le_cc (le_nc (le_nc le_nil)))))))))
  · generalize fd (g_fo n tb) (0, 0, 1) 8 = p
    obtain ⟨s, o, a⟩ := p
    dsimp only
    refine Ev.to 999 rfl ?_
    refine Ev.if_ (fun h1 => ?_) (fun h1 => ?_)
    · exact c_fixed_end x s o _ _ _ _
    · refine Ev.to 999 (pc1 := 114) rfl ?_
      exact c_fixed_end x s o _ _ _ _
theorem c_floor {n : Nat} {c : Int32} {tb tn : Nat → Int32} {tl : Nat} {se on : Nat → Int32} {dd : Int32} {ch ro ot ow tr tu ld : Nat → Int32} {lc : Nat} {cc br bw : Int32} (hn : n ≤ 8) : Cl m_X4_floor [.inr 0] (cw n c tb tn tl se on dd ch ro ot ow tr tu ld lc cc br bw) (some (.inl (fd (g_lbr tb) c n))) (cw n c tb tn tl se on dd ch ro ot ow tr tu ld lc cc br bw) := by
  refine Ev.to 999 rfl ?_
  refine Ev.callV (rest := []) rfl rfl (e_lowerBound hn) ?_
  exact Ev.iret rfl rfl rfl rfl
theorem c_kill_no {n : Nat} {c : Int32} {tb tn : Nat → Int32} {tl : Nat} {se on : Nat → Int32} {dd : Int32} {ch ro ot ow tr tu ld : Nat → Int32} {lc : Nat} {cc br bw : Int32} {x : Int32} (b : Int32) (h : inw x 0 19 = false) : Cl m_X4_kill [.inr 0, .inl x, .inl b] (cw n c tb tn tl se on dd ch ro ot ow tr tu ld lc cc br bw) (some (.inl (-2))) (cw n c tb tn tl se on dd ch ro ot ow tr tu ld lc cc br bw) := by
  refine Ev.to 999 rfl ?_
  refine Ev.callS (rest := []) rfl rfl (e_isWithin _ _ _ _) ?_
  refine Ev.to 999 rfl ?_
  refine Ev.tt (bz_f h) ?_
  refine Ev.to 999 rfl ?_
  exact Ev.iret rfl rfl rfl rfl
theorem c_kill {n : Nat} {c : Int32} {tb tn : Nat → Int32} {tl : Nat} {se on : Nat → Int32} {dd : Int32} {ch ro ot ow tr tu ld : Nat → Int32} {lc : Nat} {cc br bw : Int32} {q : Nat} (b : Int32) (h : inw (nI q) 0 19 = true) : Cl m_X4_kill [.inr 0, .inl (nI q), .inl b] (cw n c tb tn tl se on dd ch ro ot ow tr tu ld lc cc br bw) (some (.inl (bz (bb dd q)))) (cw n c tb tn tl se on (g_sd dd (nI q) b) ch ro ot ow tr tu ld lc cc br bw) := by
  refine Ev.to 999 rfl ?_
  refine Ev.callS (rest := []) rfl rfl (e_isWithin _ _ _ _) ?_
  refine Ev.to 999 rfl ?_
  refine Ev.ff (by rw [bz_t h]; decide) ?_
  refine Ev.to 999 rfl ?_
  refine Ev.callV (rest := []) rfl rfl (e_isDead q) ?_
  refine Ev.to 999 (L1 := [_, _, _, _]) rfl ?_
  refine Ev.callV (rest := []) rfl rfl (e_setDead _ _) ?_
  refine Ev.to 999 rfl ?_
  refine Ev.on (fun hb => ?_) (fun hb => ?_)
  · refine Ev.to 999 rfl ?_
    exact Ev.iret rfl rfl (by rw [bz_f hb]) rfl
  · refine Ev.to 999 rfl ?_
    exact Ev.iret rfl rfl (by rw [bz_t hb]) rfl
theorem c_chain_no {n : Nat} {c : Int32} {tb tn : Nat → Int32} {tl : Nat} {se on : Nat → Int32} {dd : Int32} {ch ro ot ow tr tu ld : Nat → Int32} {lc : Nat} {cc br bw : Int32} {i x : Int32} (h : inw i 0 (nI n - 1) = false ∨ inw x 0 1048575 = false) : Cl m_X4_chain [.inr 0, .inl i, .inl x] (cw n c tb tn tl se on dd ch ro ot ow tr tu ld lc cc br bw) (some (.inl (-2))) (cw n c tb tn tl se on dd ch ro ot ow tr tu ld lc cc br bw) := by
  have no : Ev m_X4_chain 18 [some (.inr 0), some (.inl i), some (.inl x)] [] (cw n c tb tn tl se on dd ch ro ot ow tr tu ld lc cc br bw) (some (.inl (-2)), (cw n c tb tn tl se on dd ch ro ot ow tr tu ld lc cc br bw)) := by
    refine Ev.to 999 rfl ?_
    exact Ev.iret rfl rfl rfl rfl
  refine Ev.to 999 rfl ?_
  refine Ev.callV (rest := []) rfl rfl (c_isLetter _) ?_
  refine Ev.to 999 rfl ?_
  refine Ev.on (fun _ => no) (fun h1 => ?_)
  refine Ev.to 999 rfl ?_
  refine Ev.callS (rest := []) rfl rfl (e_isWithin _ _ _ _) ?_
  refine Ev.to 999 rfl ?_
  refine Ev.on (fun _ => no) (fun h2 => ?_)
  rw [h1, h2] at h
  exact absurd h (by decide)
theorem c_chain {n : Nat} {c : Int32} {tb tn : Nat → Int32} {tl : Nat} {se on : Nat → Int32} {dd : Int32} {ch ro ot ow tr tu ld : Nat → Int32} {lc : Nat} {cc br bw : Int32} {a : Nat} {x : Int32} (ha : a < 8) (h1 : inw (nI a) 0 (nI n - 1) = true) (h2 : inw x 0 1048575 = true) : Cl m_X4_chain [.inr 0, .inl (nI a), .inl x] (cw n c tb tn tl se on dd ch ro ot ow tr tu ld lc cc br bw) (some (.inl (ibc x))) (cw n c tb tn tl se on dd (upd ch a x) ro ot ow tr tu ld lc cc br bw) := by
  refine Ev.to 999 rfl ?_
  refine Ev.callV (rest := []) rfl rfl (c_isLetter _) ?_
  refine Ev.to 999 rfl ?_
  refine Ev.ff (by rw [bz_t h1]; decide) ?_
  refine Ev.to 999 rfl ?_
  refine Ev.callS (rest := []) rfl rfl (e_isWithin _ _ _ _) ?_
  refine Ev.to 999 rfl ?_
  refine Ev.ff (by rw [bz_t h2]; decide) ?_
  refine Ev.to 999 rfl ?_
  refine Ev.callV (rest := []) rfl rfl (e_setChain ha _) ?_
  refine Ev.to 999 rfl ?_
  refine Ev.callS rfl rfl (j_bc _ _) ?_
  exact Ev.iret rfl rfl rfl rfl
theorem c_stands {n : Nat} {c : Int32} {tb tn : Nat → Int32} {tl : Nat} {se on : Nat → Int32} {dd : Int32} {ch ro ot ow tr tu ld : Nat → Int32} {lc : Nat} {cc br bw : Int32} (hn : n ≤ 8) : Cl m_X4_stands [.inr 0] (cw n c tb tn tl se on dd ch ro ot ow tr tu ld lc cc br bw) (some (.inl (g_ff n tb ch dd))) (cw n c tb tn tl se on dd ch ro ot ow tr tu ld lc cc br bw) := by
  refine Ev.to 999 rfl ?_
  refine Ev.callV (rest := []) rfl rfl (e_firstFailing hn) ?_
  exact Ev.iret rfl rfl rfl rfl
theorem c_link_bad {n : Nat} {c : Int32} {tb tn : Nat → Int32} {tl : Nat} {se on : Nat → Int32} {dd : Int32} {ch ro ot ow tr tu ld : Nat → Int32} {lc : Nat} {cc br bw : Int32} {i j x : Int32} (h : inw i 0 (nI n - 1) = false ∨ inw j 0 (nI n - 1) = false ∨ i = j ∨ inw x 0 1 = false) : Cl m_X4_link [.inr 0, .inl i, .inl j, .inl x] (cw n c tb tn tl se on dd ch ro ot ow tr tu ld lc cc br bw) (some (.inl (-2))) (cw n c tb tn tl se on dd ch ro ot ow tr tu ld lc cc br bw) := by
  have no : Ev m_X4_link 30 [some (.inr 0), some (.inl i), some (.inl j), some (.inl x), none, none, none] [] (cw n c tb tn tl se on dd ch ro ot ow tr tu ld lc cc br bw) (some (.inl (-2)), (cw n c tb tn tl se on dd ch ro ot ow tr tu ld lc cc br bw)) := by
    refine Ev.to 999 rfl ?_
    exact Ev.iret rfl rfl rfl rfl
  refine Ev.to 999 rfl ?_
  refine Ev.callV (rest := []) rfl rfl (c_isLetter _) ?_
  refine Ev.to 999 rfl ?_
  refine Ev.on (fun _ => no) (fun h1 => ?_)
  refine Ev.to 999 rfl ?_
  refine Ev.callV (rest := []) rfl rfl (c_isLetter _) ?_
  refine Ev.to 999 rfl ?_
  refine Ev.on (fun _ => no) (fun h2 => ?_)
  refine Ev.to 999 rfl ?_
  refine Ev.if_ (fun _ => no) (fun h3 => ?_)
  refine Ev.to 999 rfl ?_
  refine Ev.callS (rest := []) rfl rfl (e_isWithin _ _ _ _) ?_
  refine Ev.to 999 rfl ?_
  refine Ev.on (fun _ => no) (fun h4 => ?_)
  rw [h1, h2, h4] at h
  rcases h with h | h | h | h
  · cases h
  · cases h
  · exact absurd h h3
  · cases h
theorem c_link_go {n : Nat} {c : Int32} {tb tn : Nat → Int32} {tl : Nat} {se on : Nat → Int32} {dd : Int32} {ch ro ot ow tr tu ld : Nat → Int32} {lc : Nat} {cc br bw : Int32} {a b : Nat} {x : Int32} (h1 : inw (nI a) 0 (nI n - 1) = true) (h2 : inw (nI b) 0 (nI n - 1) = true) (h3 : ¬ nI a = nI b) (h4 : inw x 0 1 = true) {y : Option ix_V × ix_W} (kk : Ev m_X4_link 33 [some (.inr 0), some (.inl (nI a)), some (.inl (nI b)), some (.inl x), none, none, none] [] (cw n c tb tn tl se on dd ch ro ot ow tr tu ld lc cc br bw) y) : Ev m_X4_link 0 (ix_en m_X4_link [.inr 0, .inl (nI a), .inl (nI b), .inl x]) [] (cw n c tb tn tl se on dd ch ro ot ow tr tu ld lc cc br bw) y := by
  refine Ev.to 999 rfl ?_
  refine Ev.callV (rest := []) rfl rfl (c_isLetter _) ?_
  refine Ev.to 999 rfl ?_
  refine Ev.ff (by rw [bz_t h1]; decide) ?_
  refine Ev.to 999 rfl ?_
  refine Ev.callV (rest := []) rfl rfl (c_isLetter _) ?_
  refine Ev.to 999 rfl ?_
  refine Ev.ff (by rw [bz_t h2]; decide) ?_
  refine Ev.to 999 rfl ?_
  refine Ev.ff h3 ?_
  refine Ev.to 999 rfl ?_
  refine Ev.callS (rest := []) rfl rfl (e_isWithin _ _ _ _) ?_
  refine Ev.to 999 rfl ?_
  refine Ev.ff (by rw [bz_t h4]; decide) ?_
  exact kk
theorem c_link_not {n : Nat} {c : Int32} {tb tn : Nat → Int32} {tl : Nat} {se on : Nat → Int32} {dd : Int32} {ch ro ot ow tr tu ld : Nat → Int32} {lc : Nat} {cc br bw : Int32} (hn : n ≤ 8) {a b : Nat} {x : Int32} (ha : a < 8) (hb : b < 8) (h1 : inw (nI a) 0 (nI n - 1) = true) (h2 : inw (nI b) 0 (nI n - 1) = true) (h3 : ¬ nI a = nI b) (h4 : inw x 0 1 = true) (h : tb (8 * a + b) = 0 ∨ ¬ g_ff n tb ch dd = 0) : Cl m_X4_link [.inr 0, .inl (nI a), .inl (nI b), .inl x] (cw n c tb tn tl se on dd ch ro ot ow tr tu ld lc cc br bw) (some (.inl (-3))) (cw n c tb tn tl se on dd ch ro ot ow tr tu ld lc cc br bw) := by
  refine c_link_go h1 h2 h3 h4 ?_
  have no : Ev m_X4_link 59 [some (.inr 0), some (.inl (nI a)), some (.inl (nI b)), some (.inl x), none, none, none] [] (cw n c tb tn tl se on dd ch ro ot ow tr tu ld lc cc br bw) (some (.inl (-3)), (cw n c tb tn tl se on dd ch ro ot ow tr tu ld lc cc br bw)) := by
    refine Ev.to 999 rfl ?_
    exact Ev.iret rfl rfl rfl rfl
  refine Ev.to 999 rfl ?_
  refine Ev.callV (rest := []) rfl rfl (e_between ha hb) ?_
  refine Ev.to 999 rfl ?_
  refine Ev.if_ (fun _ => no) (fun h5 => ?_)
  refine Ev.to 999 rfl ?_
  refine Ev.callV (rest := []) rfl rfl (e_firstFailing hn) ?_
  refine Ev.to 999 rfl ?_
  refine Ev.if_ (fun h6 => ?_) (fun _ => no)
  rcases h with h | h
  · exact absurd h h5
  · exact absurd h6 h
def g_lk (ch : Nat → Int32) (a b : Nat) (x : Int32) : Int32 := if x = 0 then itz (ch (min a b) &&& g_nb (ch (max a b))) else itz (ch (max a b) &&& g_nb ((1 : Int32) <<< (itz (ch (min a b) &&& g_nb (ch (max a b))) &&& 31)))
theorem c_link {n : Nat} {c : Int32} {tb tn : Nat → Int32} {tl : Nat} {se on : Nat → Int32} {dd : Int32} {ch ro ot ow tr tu ld : Nat → Int32} {lc : Nat} {cc br bw : Int32} (hn : n ≤ 8) {a b : Nat} {x : Int32} (ha : a < 8) (hb : b < 8) (h1 : inw (nI a) 0 (nI n - 1) = true) (h2 : inw (nI b) 0 (nI n - 1) = true) (h3 : ¬ nI a = nI b) (h4 : inw x 0 1 = true) (h5 : ¬ tb (8 * a + b) = 0) (h6 : g_ff n tb ch dd = 0) : Cl m_X4_link [.inr 0, .inl (nI a), .inl (nI b), .inl x] (cw n c tb tn tl se on dd ch ro ot ow tr tu ld lc cc br bw) (some (.inl (g_lk ch a b x))) (cw n c tb tn tl se on dd ch ro ot ow tr tu ld lc cc br bw) := by
  refine c_link_go h1 h2 h3 h4 ?_
  rw [g_lk]
  refine Ev.to 999 rfl ?_
  refine Ev.callV (rest := []) rfl rfl (e_between ha hb) ?_
  refine Ev.to 999 rfl ?_
  refine Ev.ff h5 ?_
  refine Ev.to 999 rfl ?_
  refine Ev.callV (rest := []) rfl rfl (e_firstFailing hn) ?_
  refine Ev.to 999 rfl ?_
  refine Ev.tt h6 ?_
  refine Ev.to 999 rfl ?_
  refine Ev.callS (rest := []) rfl rfl (j_min _ _ _) ?_
  rw [imin_nat (by omega) (by omega)]
  refine Ev.to 999 (L1 := [_, _, _, _, _, _, _]) rfl ?_
  refine Ev.callS (rest := []) rfl rfl (j_max _ _ _) ?_
  rw [imax_nat (by omega) (by omega)]
  refine Ev.to 999 (L1 := [_, _, _, _, _, _, _]) rfl ?_
  refine Ev.callV (rest := []) rfl rfl (e_linkFrom (by omega) (by omega)) ?_
  generalize itz (ch (min a b) &&& g_nb (ch (max a b))) = f
  refine Ev.to 999 (L1 := [_, _, _, _, _, _, _]) rfl ?_
  refine Ev.if_ (fun h => ?_) (fun h => ?_)
  · rw [if_pos h]
    refine Ev.to 999 rfl ?_
    exact Ev.iret rfl rfl rfl rfl
  · rw [if_neg h]
    refine Ev.to 999 rfl ?_
    refine Ev.callV (rest := []) rfl rfl (e_linkTo _ (by omega)) ?_
    exact Ev.iret rfl rfl rfl rfl
theorem c_strong_no {n : Nat} {c : Int32} {tb tn : Nat → Int32} {tl : Nat} {se on : Nat → Int32} {dd : Int32} {ch ro ot ow tr tu ld : Nat → Int32} {lc : Nat} {cc br bw : Int32} (hn : n ≤ 8) (h : ¬ g_ff n tb ch dd = 0) : Cl m_X4_strong [.inr 0] (cw n c tb tn tl se on dd ch ro ot ow tr tu ld lc cc br bw) (some (.inl (-3))) (cw n c tb tn tl se on dd ch ro ot ow tr tu ld lc cc br bw) := by
  refine Ev.to 999 rfl ?_
  refine Ev.callV (rest := []) rfl rfl (e_firstFailing hn) ?_
  refine Ev.to 999 rfl ?_
  refine Ev.ff h ?_
  refine Ev.to 999 rfl ?_
  exact Ev.iret rfl rfl rfl rfl
theorem c_strong {n : Nat} {c : Int32} {tb tn : Nat → Int32} {tl : Nat} {se on : Nat → Int32} {dd : Int32} {ch ro ot ow tr tu ld : Nat → Int32} {lc : Nat} {cc br bw : Int32} (hn : n ≤ 8) (h : g_ff n tb ch dd = 0) {l0 : Nat → Nat} {lf lt : Nat → Nat → Nat} (h0 : ∀ i, i < n → itz (ch i) = nI (l0 i) ∧ l0 i < 20) (h1 : ∀ i j, i < j → j < n → ¬ tb (8 * i + j) = 0 → itz (ch i &&& g_nb (ch j)) = nI (lf i j) ∧ lf i j < 20 ∧ itz (ch j &&& g_nb ((1 : Int32) <<< (nI (lf i j) &&& 31))) = nI (lt i j) ∧ lt i j < 20)
    {cl : Nat → Nat} (hcl : ∀ j, j < (fd (g_lc (fd (g_all ch) 0 8)) (ld, 0) 20).2 → (fd (g_lc (fd (g_all ch) 0 8)) (ld, 0) 20).1 j = nI (cl j) ∧ cl j < 20) :
    Cl m_X4_strong [.inr 0] (cw n c tb tn tl se on dd ch ro ot ow tr tu ld lc cc br bw) (some (.inl (fd (g_h (fd (g_oo n tb l0 lf lt) (fd zf ow 20, fd zf tr 20, fd zf tu 20) n).1 (fd (g_oo n tb l0 lf lt) (fd zf ow 20, fd zf tr 20, fd zf tu 20) n).2.1 (fd (g_oo n tb l0 lf lt) (fd zf ow 20, fd zf tr 20, fd zf tu 20) n).2.2 cl (fd (g_bri ch) 0 8) (fd (g_bbe ch) 0 8) (g_low n (g_fill n c tb ro))) (0, 0, c) (2 ^ (fd (g_lc (fd (g_all ch) 0 8)) (ld, 0) 20).2 - 1)).1)) (cw n c tb tn tl se on dd ch (g_fill n c tb ro) ot ((fd (g_oo n tb l0 lf lt) (fd zf ow 20, fd zf tr 20, fd zf tu 20) n).1) ((fd (g_oo n tb l0 lf lt) (fd zf ow 20, fd zf tr 20, fd zf tu 20) n).2.1) ((fd (g_oo n tb l0 lf lt) (fd zf ow 20, fd zf tr 20, fd zf tu 20) n).2.2) ((fd (g_lc (fd (g_all ch) 0 8)) (ld, 0) 20).1) ((fd (g_lc (fd (g_all ch) 0 8)) (ld, 0) 20).2) (c) (fd (g_bri ch) 0 8) (fd (g_bbe ch) 0 8)) := by
  refine Ev.to 999 rfl ?_
  refine Ev.callV (rest := []) rfl rfl (e_firstFailing hn) ?_
  refine Ev.to 999 rfl ?_
  refine Ev.tt h ?_
  refine Ev.to 999 rfl ?_
  refine Ev.callV (rest := []) rfl rfl (e_fillro hn) ?_
  refine Ev.to 999 rfl ?_
  refine Ev.callV (rest := []) rfl rfl (e_layOut hn h0 h1) ?_
  refine Ev.to 999 rfl ?_
  refine Ev.callV (rest := [_]) rfl rfl (c_leastOfRow hn) ?_
  refine Ev.callV (rest := []) rfl rfl (e_leastHold (g_lc_le _ _ _) hcl _) ?_
  exact Ev.iret rfl rfl rfl rfl
def g_rb (ch : Nat → Int32) (l0 : Nat → Nat) (x : Int32) (i : Nat) (a : Int32) : Int32 := a ||| (g_mo (ch i) x (l0 i) <<< (nI i &&& 31))
theorem c_readBack_bad {n : Nat} {c : Int32} {tb tn : Nat → Int32} {tl : Nat} {se on : Nat → Int32} {dd : Int32} {ch ro ot ow tr tu ld : Nat → Int32} {lc : Nat} {cc br bw : Int32} {x : Int32} (h : ¬ x &&& (fd (g_all ch) 0 8 ^^^ (-1)) = 0) : Cl m_X4_readBack [.inr 0, .inl x] (cw n c tb tn tl se on dd ch ro ot ow tr tu ld lc cc br bw) (some (.inl (-2))) (cw n c tb tn tl se on dd ch ro ot ow tr tu ld lc cc br bw) := by
  refine Ev.to 999 rfl ?_
  refine Ev.callV rfl rfl e_cells ?_
  refine Ev.to 999 rfl ?_
  refine Ev.ff h ?_
  refine Ev.to 999 rfl ?_
  exact Ev.iret rfl rfl rfl rfl
theorem c_readBack_not {n : Nat} {c : Int32} {tb tn : Nat → Int32} {tl : Nat} {se on : Nat → Int32} {dd : Int32} {ch ro ot ow tr tu ld : Nat → Int32} {lc : Nat} {cc br bw : Int32} (hn : n ≤ 8) {x : Int32} (h : x &&& (fd (g_all ch) 0 8 ^^^ (-1)) = 0) (h2 : ¬ g_ff n tb ch dd = 0) : Cl m_X4_readBack [.inr 0, .inl x] (cw n c tb tn tl se on dd ch ro ot ow tr tu ld lc cc br bw) (some (.inl (-3))) (cw n c tb tn tl se on dd ch ro ot ow tr tu ld lc cc br bw) := by
  refine Ev.to 999 rfl ?_
  refine Ev.callV rfl rfl e_cells ?_
  refine Ev.to 999 rfl ?_
  refine Ev.tt h ?_
  refine Ev.to 999 rfl ?_
  refine Ev.callV (rest := []) rfl rfl (e_firstFailing hn) ?_
  refine Ev.to 999 rfl ?_
  refine Ev.ff h2 ?_
  refine Ev.to 999 rfl ?_
  exact Ev.iret rfl rfl rfl rfl
theorem c_readBack {n : Nat} {c : Int32} {tb tn : Nat → Int32} {tl : Nat} {se on : Nat → Int32} {dd : Int32} {ch ro ot ow tr tu ld : Nat → Int32} {lc : Nat} {cc br bw : Int32} (hn : n ≤ 8) {x : Int32} (h : x &&& (fd (g_all ch) 0 8 ^^^ (-1)) = 0) (h2 : g_ff n tb ch dd = 0) {l0 : Nat → Nat} (h0 : ∀ i, i < n → itz (ch i) = nI (l0 i)) : Cl m_X4_readBack [.inr 0, .inl x] (cw n c tb tn tl se on dd ch ro ot ow tr tu ld lc cc br bw) (some (.inl (fd (g_rb ch l0 x) 0 n))) (cw n c tb tn tl se on dd ch ro ot ow tr tu ld lc cc br bw) := by
  refine Ev.to 999 rfl ?_
  refine Ev.callV rfl rfl e_cells ?_
  refine Ev.to 999 rfl ?_
  refine Ev.tt h ?_
  refine Ev.to 999 rfl ?_
  refine Ev.callV (rest := []) rfl rfl (e_firstFailing hn) ?_
  refine Ev.to 999 rfl ?_
  refine Ev.tt h2 ?_
  refine Ev.to 38 (L1 := [_, _, _, _]) (st1 := []) rfl ?_
  refine Ev.loop (fun i => [some (.inr 0), some (.inl x), some (.inl (fd (g_rb ch l0 x) 0 i)), some (.inl (nI i))]) (fun _ => (cw n c tb tn tl se on dd ch ro ot ow tr tu ld lc cc br bw)) (fun _ => True) 0 n (Nat.zero_le n) trivial (fun i _ hi _ kk => ?_) (fun _ => ?_)
  · have kk := kk trivial
    rw [nI_succ, fd, g_rb] at kk
    refine Ev.to 999 rfl ?_
    refine Ev.callV rfl rfl e_size ?_
    refine Ev.to 999 rfl ?_
    refine Ev.ff (nI_ng hi (by omega)) ?_
    refine Ev.to 999 rfl ?_
    refine Ev.callV rfl rfl (e_mostOf (by omega) (h0 i hi) _) ?_
    exact Ev.to 38 (L1 := [_, _, _, _]) rfl kk
  · refine Ev.to 999 rfl ?_
    refine Ev.callV rfl rfl e_size ?_
    refine Ev.to 999 rfl ?_
    refine Ev.tt (nI_gg (by omega)) ?_
    refine Ev.to 999 rfl ?_
    exact Ev.iret rfl rfl rfl rfl
theorem c_turn_bad {n : Nat} {c : Int32} {tb tn : Nat → Int32} {tl : Nat} {se on : Nat → Int32} {dd : Int32} {ch ro ot ow tr tu ld : Nat → Int32} {lc : Nat} {cc br bw : Int32} (hn : n ≤ 8) {s : Int32} (h : inw s 0 (nI (2 ^ n) - 1) = false) : Cl m_X4_turn [.inr 0, .inl s] (cw n c tb tn tl se on dd ch ro ot ow tr tu ld lc cc br bw) (some (.inl (-2147483648))) (cw n c tb tn tl se on dd ch ro ot ow tr tu ld lc cc br bw) := by
  refine Ev.to 999 rfl ?_
  refine Ev.callV (rest := []) rfl rfl (c_isSet hn _) ?_
  refine Ev.to 999 rfl ?_
  refine Ev.tt (bz_f h) ?_
  refine Ev.to 999 rfl ?_
  exact Ev.iret rfl rfl rfl rfl
theorem c_turn_not {n : Nat} {c : Int32} {tb tn : Nat → Int32} {tl : Nat} {se on : Nat → Int32} {dd : Int32} {ch ro ot ow tr tu ld : Nat → Int32} {lc : Nat} {cc br bw : Int32} (hn : n ≤ 8) {s : Int32} (h : inw s 0 (nI (2 ^ n) - 1) = true) {i j : Nat} (hi : i < n) (hj : j < n) (h1 : ∀ i2, i2 < i → ∀ j, j < n → g_tk n tb s i2 j = true) (h2 : ∀ j2, j2 < j → g_tk n tb s i j2 = true) (h3 : g_tk n tb s i j = false) : ∃ tn2, Cl m_X4_turn [.inr 0, .inl s] (cw n c tb tn tl se on dd ch ro ot ow tr tu ld lc cc br bw) (some (.inl (-3))) (cw n c tb (tn2) tl se on dd ch ro ot ow tr tu ld lc cc br bw) := by
  obtain ⟨tn2, ht⟩ := e_turnNo (c := c) (tn := tn) (tl := tl) (se := se) (on := on) (dd := dd) (ch := ch) (ro := ro) (ot := ot) (ow := ow) (tr := tr) (tu := tu) (ld := ld) (lc := lc) (cc := cc) (br := br) (bw := bw) hn s hi hj h1 h2 h3
  refine ⟨tn2, ?_⟩
  refine Ev.to 999 rfl ?_
  refine Ev.callV (rest := []) rfl rfl (c_isSet hn _) ?_
  refine Ev.to 999 rfl ?_
  refine Ev.ff (by rw [bz_t h]; decide) ?_
  refine Ev.to 999 rfl ?_
  refine Ev.callV (rest := []) rfl rfl ht ?_
  refine Ev.to 999 (pc1 := 22) rfl ?_
  refine Ev.to 999 rfl ?_
  exact Ev.iret rfl rfl rfl rfl
theorem c_turn {n : Nat} {c : Int32} {tb tn : Nat → Int32} {tl : Nat} {se on : Nat → Int32} {dd : Int32} {ch ro ot ow tr tu ld : Nat → Int32} {lc : Nat} {cc br bw : Int32} (hn : n ≤ 8) {s : Int32} (h : inw s 0 (nI (2 ^ n) - 1) = true) (hk : ∀ i, i < n → ∀ j, j < n → g_tk n tb s i j = true) : Cl m_X4_turn [.inr 0, .inl s] (cw n c tb tn tl se on dd ch ro ot ow tr tu ld lc cc br bw) (some (.inl (g_en n c tb s))) (cw n (g_en n c tb s) (fd (g_cr n (fd (g_tr n tb s) tn n)) tb n) (fd (g_tr n tb s) tn n) tl se on dd ch ro ot ow tr tu ld lc cc br bw) := by
  refine Ev.to 999 rfl ?_
  refine Ev.callV (rest := []) rfl rfl (c_isSet hn _) ?_
  refine Ev.to 999 rfl ?_
  refine Ev.ff (by rw [bz_t h]; decide) ?_
  refine Ev.to 999 rfl ?_
  refine Ev.callV (rest := []) rfl rfl (e_turnYes hn s hk) ?_
  refine Ev.to 999 (pc1 := 25) rfl ?_
  refine Ev.to 999 rfl ?_
  refine Ev.callV (rest := []) rfl rfl e_constant ?_
  exact Ev.iret rfl rfl rfl rfl
theorem c_cut_no {n : Nat} {c : Int32} {tb tn : Nat → Int32} {tl : Nat} {se on : Nat → Int32} {dd : Int32} {ch ro ot ow tr tu ld : Nat → Int32} {lc : Nat} {cc br bw : Int32} {s : Int32} (h : inw s 1 20 = false) : Cl m_X4_cut [.inr 0, .inl s] (cw n c tb tn tl se on dd ch ro ot ow tr tu ld lc cc br bw) (some (.inl (-2))) (cw n c tb tn tl se on dd ch ro ot ow tr tu ld lc cc br bw) := by
  refine Ev.to 999 rfl ?_
  refine Ev.callS (rest := []) rfl rfl (e_isWithin _ _ _ _) ?_
  refine Ev.to 999 rfl ?_
  refine Ev.tt (bz_f h) ?_
  refine Ev.to 999 rfl ?_
  exact Ev.iret rfl rfl rfl rfl
def g_ls (A B : Nat → Int32) (s : Nat) (a : Int32) : Int32 := imax a (iabs (A s - B s))
theorem c_cut {n : Nat} {c : Int32} {tb tn : Nat → Int32} {tl : Nat} {se on : Nat → Int32} {dd : Int32} {ch ro ot ow tr tu ld : Nat → Int32} {lc : Nat} {cc br bw : Int32} (hn : n ≤ 8) {s : Int32} (h : inw s 1 20 = true) (hs : s ≠ 0) : Cl m_X4_cut [.inr 0, .inl s] (cw n c tb tn tl se on dd ch ro ot ow tr tu ld lc cc br bw) (some (.inl (fd (g_ls (g_fill n c (fd (g_ct s) tb 64) ot) (g_fill n c tb ro)) 0 (2 ^ n)))) (cw n c (fd (g_ct s) tb 64) tn tl se on dd ch (g_fill n c tb ro) (g_fill n c (fd (g_ct s) tb 64) ot) ow tr tu ld lc cc br bw) := by
  obtain ⟨hp1, hp2⟩ := pw_le hn
  refine Ev.to 999 rfl ?_
  refine Ev.callS (rest := []) rfl rfl (e_isWithin _ _ _ _) ?_
  refine Ev.to 999 rfl ?_
  refine Ev.ff (by rw [bz_t h]; decide) ?_
  refine Ev.to 999 rfl ?_
  refine Ev.callV (rest := []) rfl rfl (e_fillro hn) ?_
  refine Ev.to 999 rfl ?_
  refine Ev.callV (rest := []) rfl rfl (e_cutTo hs) ?_
  refine Ev.to 999 rfl ?_
  refine Ev.callV (rest := []) rfl rfl (e_fillot hn) ?_
  generalize g_fill n c tb ro = B
  generalize fd (g_ct s) tb 64 = T
  generalize g_fill n c T ot = A
  refine Ev.to 47 (L1 := [_, _, _, _]) (st1 := []) rfl ?_
  refine Ev.loop (fun x => [some (.inr 0), some (.inl s), some (.inl (fd (g_ls A B) 0 x)), some (.inl (nI x))]) (fun _ => (cw n c (T) tn tl se on dd ch (B) (A) ow tr tu ld lc cc br bw)) (fun _ => True) 0 (2 ^ n) (Nat.zero_le _) trivial (fun x _ hx _ kk => ?_) (fun _ => ?_)
  · have kk := kk trivial
    rw [nI_succ, fd, g_ls] at kk
    refine Ev.to 999 rfl ?_
    refine Ev.callV rfl rfl (e_states hn) ?_
    refine Ev.to 999 rfl ?_
    refine Ev.ff (nI_ng hx (by omega)) ?_
    refine Ev.to 999 rfl ?_
    refine Ev.ald rfl rfl (by omega) (by decide) ?_
    refine Ev.to 999 rfl ?_
    refine Ev.ald rfl rfl (by omega) (by decide) ?_
    refine Ev.to 999 rfl ?_
    refine Ev.callS rfl rfl (j_abs _ _) ?_
    refine Ev.callS rfl rfl (j_max _ _ _) ?_
    exact Ev.to 47 (L1 := [_, _, _, _]) rfl kk
  · refine Ev.to 999 rfl ?_
    refine Ev.callV rfl rfl (e_states hn) ?_
    refine Ev.to 999 rfl ?_
    refine Ev.tt (nI_gg (by omega)) ?_
    refine Ev.to 999 rfl ?_
    exact Ev.iret rfl rfl rfl rfl
/-! walk -/
def g_wok (n : Nat) (s h m x : Int32) : Bool := inw s 0 (nI (2 ^ n) - 1) && (inw h 0 100 && (inw m 1 200 && inw x 0 1))
theorem c_walk_no {n : Nat} {c : Int32} {tb tn : Nat → Int32} {tl : Nat} {se on : Nat → Int32} {dd : Int32} {ch ro ot ow tr tu ld : Nat → Int32} {lc : Nat} {cc br bw : Int32} (hn : n ≤ 8) {s d h m x : Int32} (hk : g_wok n s h m x = false) : Cl m_X4_walk [.inr 0, .inl s, .inl d, .inl h, .inl m, .inl x] (cw n c tb tn tl se on dd ch ro ot ow tr tu ld lc cc br bw) (some (.inl (-2147483648))) (cw n c tb tn tl se on dd ch ro ot ow tr tu ld lc cc br bw) := by
  have no : Ev m_X4_walk 40 [some (.inr 0), some (.inl s), some (.inl d), some (.inl h), some (.inl m), some (.inl x), none, none, none, none, none, none, none, none] [] (cw n c tb tn tl se on dd ch ro ot ow tr tu ld lc cc br bw) (some (.inl (-2147483648)), (cw n c tb tn tl se on dd ch ro ot ow tr tu ld lc cc br bw)) := by
    refine Ev.to 999 rfl ?_
    exact Ev.iret rfl rfl rfl rfl
  refine Ev.to 999 rfl ?_
  refine Ev.callV (rest := []) rfl rfl (c_isSet hn _) ?_
  refine Ev.to 999 rfl ?_
  refine Ev.on (fun _ => no) (fun h1 => ?_)
  refine Ev.to 999 rfl ?_
  refine Ev.callS (rest := []) rfl rfl (e_isWithin _ _ _ _) ?_
  refine Ev.to 999 rfl ?_
  refine Ev.on (fun _ => no) (fun h2 => ?_)
  refine Ev.to 999 rfl ?_
  refine Ev.callS (rest := []) rfl rfl (e_isWithin _ _ _ _) ?_
  refine Ev.to 999 rfl ?_
  refine Ev.on (fun _ => no) (fun h3 => ?_)
  refine Ev.to 999 rfl ?_
  refine Ev.callS (rest := []) rfl rfl (e_isWithin _ _ _ _) ?_
  refine Ev.to 999 rfl ?_
  refine Ev.on (fun _ => no) (fun h4 => ?_)
  rw [g_wok, h1, h2, h3, h4] at hk
  exact absurd hk (by decide)
def w_z (z : Int32) : Int32 := (z * 1103515245 + 12345) &&& 2147483647
def w_q (z : Int32) : Nat := (w_z z).toNatClampNeg
theorem w_zq (z : Int32) : w_z z = nI (w_q z) ∧ w_q z < 2 ^ 31 := by
  have h : w_z z = nI ((z * 1103515245 + 12345).toBitVec.toNat % 2 ^ 31) := pk_and _ 31 (by decide)
  have hlt : (z * 1103515245 + 12345).toBitVec.toNat % 2 ^ 31 < 2 ^ 31 := Nat.mod_lt _ (by decide)
  unfold w_q
  rw [h, nI_clamp hlt]
  exact ⟨rfl, hlt⟩
def w_l (n : Nat) (z : Int32) : Nat := w_q z / 65536 % n
def w_t (z : Int32) (t : Nat) : Int32 := nI (w_q z / 256 % (t + 1))
def w_n (j t : Nat) : Nat := if (j + 1) % 10 = 0 then t * 9 / 10 else t
abbrev w_S : Type := Int32 × Nat × Int32 × Int32 × Int32
def g_w (n : Nat) (tb : Nat → Int32) (j : Nat) (p : w_S) : w_S := if g_cb n tb (w_l n p.1) p.2.2.1 ≤ w_t p.1 p.2.1 then (w_z p.1, w_n j p.2.1, p.2.2.1 ^^^ ((1 : Int32) <<< (nI (w_l n p.1) &&& 31)), p.2.2.2.1 + g_cb n tb (w_l n p.1) p.2.2.1, imin p.2.2.2.2 (p.2.2.2.1 + g_cb n tb (w_l n p.1) p.2.2.1)) else (w_z p.1, w_n j p.2.1, p.2.2.1, p.2.2.2.1, p.2.2.2.2)
theorem w_n_le (j t : Nat) : w_n j t ≤ t := by
  unfold w_n
  split
  · omega
  · exact Nat.le_refl t
theorem g_w_le (n : Nat) (tb : Nat → Int32) (p : w_S) (j : Nat) : (fd (g_w n tb) p j).2.1 ≤ p.2.1 := by
  induction j with
  | zero => exact Nat.le_refl _
  | succ j ih =>
    rw [fd, g_w]
    split
    · exact Nat.le_trans (w_n_le _ _) ih
    · exact Nat.le_trans (w_n_le _ _) ih
theorem c_walk_end {n : Nat} {c : Int32} {tb tn : Nat → Int32} {tl : Nat} {se on : Nat → Int32} {dd : Int32} {ch ro ot ow tr tu ld : Nat → Int32} {lc : Nat} {cc br bw : Int32} {z1 z2 z3 z4 z6 z7 z9 z11 z12 z13 : Option ix_V} (x h l : Int32) : Ev m_X4_walk 183 [some (.inr 0), z1, z2, z3, z4, some (.inl x), z6, z7, some (.inl h), z9, some (.inl l), z11, z12, z13] [] (cw n c tb tn tl se on dd ch ro ot ow tr tu ld lc cc br bw) (some (.inl (if x = 0 then h else l)), (cw n c tb tn tl se on dd ch ro ot ow tr tu ld lc cc br bw)) := by
  refine Ev.to 999 rfl ?_
  refine Ev.if_ (fun h => ?_) (fun h => ?_)
  · refine Ev.to 999 rfl ?_
    exact Ev.iret rfl rfl (by rw [if_pos h]) rfl
  · refine Ev.to 999 rfl ?_
    exact Ev.iret rfl rfl (by rw [if_neg h]) rfl
theorem ne_nat {a : Nat} (h0 : 0 < a) (h : a < 2 ^ 31) : nI a ≠ 0 := nI_ne0 h0 h
theorem c_walk {n : Nat} {c : Int32} {tb tn : Nat → Int32} {tl : Nat} {se on : Nat → Int32} {dd : Int32} {ch ro ot ow tr tu ld : Nat → Int32} {lc : Nat} {cc br bw : Int32} (hn : n ≤ 8) (hn1 : 1 ≤ n) {s d x : Int32} {ht m : Nat} (hh : ht ≤ 100) (hm : m ≤ 200) (hk : g_wok n s (nI ht) (nI m) x = true) : Cl m_X4_walk [.inr 0, .inl s, .inl d, .inl (nI ht), .inl (nI m), .inl x] (cw n c tb tn tl se on dd ch ro ot ow tr tu ld lc cc br bw) (some (.inl (if x = 0 then (fd (g_w n tb) (d, ht, s, g_en n c tb s, g_en n c tb s) m).2.2.1 else (fd (g_w n tb) (d, ht, s, g_en n c tb s, g_en n c tb s) m).2.2.2.2))) (cw n c tb tn tl se on dd ch ro ot ow tr tu ld lc cc br bw) := by
  rw [g_wok, Bool.and_eq_true, Bool.and_eq_true, Bool.and_eq_true] at hk
  obtain ⟨k1, k2, k3, k4⟩ := hk
  refine Ev.to 999 rfl ?_
  refine Ev.callV (rest := []) rfl rfl (c_isSet hn _) ?_
  refine Ev.to 999 rfl ?_
  refine Ev.ff (by rw [bz_t k1]; decide) ?_
  refine Ev.to 999 rfl ?_
  refine Ev.callS (rest := []) rfl rfl (e_isWithin _ _ _ _) ?_
  refine Ev.to 999 rfl ?_
  refine Ev.ff (by rw [bz_t k2]; decide) ?_
  refine Ev.to 999 rfl ?_
  refine Ev.callS (rest := []) rfl rfl (e_isWithin _ _ _ _) ?_
  refine Ev.to 999 rfl ?_
  refine Ev.ff (by rw [bz_t k3]; decide) ?_
  refine Ev.to 999 rfl ?_
  refine Ev.callS (rest := []) rfl rfl (e_isWithin _ _ _ _) ?_
  refine Ev.to 999 rfl ?_
  refine Ev.ff (by rw [bz_t k4]; decide) ?_
  refine Ev.to 999 (L1 := [_, _, _, _, _, _, _, _, _, _, _, _, _, _]) rfl ?_
  refine Ev.callV (rest := []) rfl rfl (e_energyOf hn _) ?_
  generalize g_en n c tb s = e0
  refine Ev.to 69 (L1 := [_, _, _, _, _, _, _, _, _, _, _, _, _, _]) (st1 := []) rfl ?_
  refine Ev.loop (fun j => [some (.inr 0), some (.inl s), some (.inl d), some (.inl (nI ht)), some (.inl (nI m)), some (.inl x), some (.inl (fd (g_w n tb) (d, ht, s, e0, e0) j).1), some (.inl (nI (fd (g_w n tb) (d, ht, s, e0, e0) j).2.1)), some (.inl (fd (g_w n tb) (d, ht, s, e0, e0) j).2.2.1), some (.inl (fd (g_w n tb) (d, ht, s, e0, e0) j).2.2.2.1), some (.inl (fd (g_w n tb) (d, ht, s, e0, e0) j).2.2.2.2), some (.inl (nI (j + 1))), none, none]) (fun _ => (cw n c tb tn tl se on dd ch ro ot ow tr tu ld lc cc br bw)) (fun _ => True) 0 m (Nat.zero_le m) trivial (fun j _ hj _ kk => ?_) (fun _ => ?_)
  · have kk := kk trivial
    have hle := g_w_le n tb (d, ht, s, e0, e0) j
    rw [nI_succ (j + 1), fd, g_w] at kk
    generalize fd (g_w n tb) (d, ht, s, e0, e0) j = p at kk hle ⊢
    obtain ⟨z, t, h, e, l⟩ := p
    dsimp only at kk hle ⊢
    obtain ⟨hz1, hz2⟩ := w_zq z
    have hlt : w_l n z < n := Nat.mod_lt _ (by omega)
    refine Ev.to 999 rfl ?_
    refine Ev.ff (nI_ngt (by omega) (by omega)) ?_
    refine Ev.to 90 (L1 := [_, _, _, _, _, _, some (.inl (w_z z)), _, _, _, _, _, _, _]) (st1 := []) rfl ?_
    rw [hz1] at kk ⊢
    refine Ev.to 999 rfl ?_
    refine Ev.dv rfl (by decide) ?_
    rw [show nI (w_q z) / 65536 = nI (w_q z / 65536) from pk_div (d := 65536) hz2 (by omega) (by omega)]
    refine Ev.to 999 rfl ?_
    refine Ev.callV (rest := [_]) rfl rfl e_size ?_
    refine Ev.rm rfl (ne_nat (by omega) (by omega)) ?_
    rw [pk_rem (d := n) (Nat.lt_of_le_of_lt (Nat.div_le_self _ _) hz2) (by omega) (by omega)]
    show Ev _ _ _ (.inl (nI (w_l n z)) :: _) _ _
    refine Ev.to 999 (L1 := [_, _, _, _, _, _, _, _, _, _, _, _, _, _]) rfl ?_
    refine Ev.callV (rest := []) rfl rfl (e_changeBy hn (by omega) _) ?_
    refine Ev.to 999 (L1 := [_, _, _, _, _, _, _, _, _, _, _, _, _, _]) rfl ?_
    refine Ev.dv rfl (by decide) ?_
    rw [show nI (w_q z) / 256 = nI (w_q z / 256) from pk_div (d := 256) hz2 (by omega) (by omega)]
    refine Ev.to 999 rfl ?_
    refine Ev.rm rfl (by show nI t + 1 ≠ 0; rw [nI_1]; exact ne_nat (by omega) (by omega)) ?_
    have et : (nI (w_q z / 256) - nI (w_q z / 256) / (nI t + 1) * (nI t + 1)) = w_t z t := by
      rw [nI_1]; exact pk_rem (d := t + 1) (Nat.lt_of_le_of_lt (Nat.div_le_self _ _) hz2) (by omega) (by omega)
    show Ev _ _ _ (.inl (nI (w_q z / 256) - nI (w_q z / 256) / (nI t + 1) * (nI t + 1)) :: _) _ _
    rw [et]
    generalize w_t z t = T at kk ⊢
    generalize g_cb n tb (w_l n z) h = g at kk ⊢
    generalize w_l n z = q at hlt kk ⊢
    -- the tail: every tenth move
    have tail : ∀ (h2 e2 l2 : Int32) (z12 z13 : Option ix_V), Ev m_X4_walk 69 [some (.inr 0), some (.inl s), some (.inl d), some (.inl (nI ht)), some (.inl (nI m)), some (.inl x), some (.inl (nI (w_q z))), some (.inl (nI (w_n j t))), some (.inl h2), some (.inl e2), some (.inl l2), some (.inl (nI (j + 1) + 1)), none, none] [] (cw n c tb tn tl se on dd ch ro ot ow tr tu ld lc cc br bw) (some (.inl (if x = 0 then (fd (g_w n tb) (d, ht, s, e0, e0) m).2.2.1 else (fd (g_w n tb) (d, ht, s, e0, e0) m).2.2.2.2)), (cw n c tb tn tl se on dd ch ro ot ow tr tu ld lc cc br bw)) → Ev m_X4_walk 159 [some (.inr 0), some (.inl s), some (.inl d), some (.inl (nI ht)), some (.inl (nI m)), some (.inl x), some (.inl (nI (w_q z))), some (.inl (nI t)), some (.inl h2), some (.inl e2), some (.inl l2), some (.inl (nI (j + 1))), z12, z13] [] (cw n c tb tn tl se on dd ch ro ot ow tr tu ld lc cc br bw) (some (.inl (if x = 0 then (fd (g_w n tb) (d, ht, s, e0, e0) m).2.2.1 else (fd (g_w n tb) (d, ht, s, e0, e0) m).2.2.2.2)), (cw n c tb tn tl se on dd ch ro ot ow tr tu ld lc cc br bw)) := by
      intro h2 e2 l2 z12 z13 k2
      refine Ev.to 999 rfl ?_
      refine Ev.rm rfl (by decide) ?_
      rw [show nI (j + 1) - nI (j + 1) / 10 * 10 = nI ((j + 1) % 10) from pk_rem (d := 10) (by omega) (by omega) (by omega)]
      refine Ev.to 999 rfl ?_
      refine Ev.if_ (fun h5 => ?_) (fun h5 => ?_)
      · have h6 : (j + 1) % 10 = 0 := (nI_eq (b := 0) (by omega) (by omega)).mp h5
        rw [w_n, if_pos h6] at k2
        refine Ev.to 999 rfl ?_
        refine Ev.dv rfl (by decide) ?_
        have e9 : nI t * 9 / 10 = nI (t * 9 / 10) := by
          rw [show nI t * 9 = nI (t * 9) from pk_mul t 9]
          exact pk_div (d := 10) (by omega) (by omega) (by omega)
        refine Ev.to 69 (L1 := [_, _, _, _, _, _, _, some (.inl (nI t * 9 / 10)), _, _, _, _, _, _]) (st1 := []) rfl ?_
        rw [e9]
        exact Ev.fg k2 (le_cc (le_cc (le_cc (le_cc (le_cc (le_cc (le_cc (le_cc (le_cc (le_cc (le_cc (le_cc (le_nc (le_nc le_nil))))))))))))))
      · have h6 : ¬ (j + 1) % 10 = 0 := fun q => h5 ((nI_eq (b := 0) (by omega) (by omega)).mpr q)
        rw [w_n, if_neg h6] at k2
        exact Ev.to 69 (L1 := [_, _, _, _, _, _, _, _, _, _, _, _, _, _]) rfl (Ev.fg k2 (le_cc (le_cc (le_cc (le_cc (le_cc (le_cc (le_cc (le_cc (le_cc (le_cc (le_cc (le_cc (le_nc (le_nc le_nil)))))))))))))))
    refine Ev.to 999 rfl ?_
    refine Ev.if_ (fun h5 => ?_) (fun h5 => ?_)
    · rw [if_neg (fun z => i32_nlt.mpr z h5)] at kk
      exact tail _ _ _ _ _ kk
    · rw [if_pos (i32_nlt.mp h5)] at kk
      refine Ev.to 999 (L1 := [_, _, _, _, _, _, _, _, _, _, _, _, _, _]) rfl ?_
      refine Ev.callS rfl rfl (j_min _ _ _) ?_
      refine Ev.to 159 (L1 := [_, _, _, _, _, _, _, _, _, _, _, _, _, _]) (st1 := []) rfl ?_
      exact tail _ _ _ _ _ kk
  · refine Ev.to 999 rfl ?_
    refine Ev.tt (nI_gt1 (by omega)) ?_
    exact c_walk_end _ _ _
theorem Ev.tsO {k pc : Nat} {L : ix_L} {st : List ix_V} {w : ix_W} {z : Option ix_V × ix_W} {nx a0 b0 j0 tgt : Nat} {v0 x : Int32} {d lo hi : Int} {offs : Array Int} (he : ix_lk k pc = some (.tableswitch d lo hi offs, nx, a0, b0, j0, v0)) (h : x.toInt < lo ∨ hi < x.toInt) (ht : (pc : Int) + d = (tgt : Int)) (kk : Ev k tgt L st w z) : Ev k pc L (.inl x :: st) w z := by
  refine Ev.st1 he rfl ?_ kk
  simp only [ix_st, ix_tsw]
  rw [if_pos h, ht, if_pos (by omega)]
  rfl
theorem c_count_no {n : Nat} {c : Int32} {tb tn : Nat → Int32} {tl : Nat} {se on : Nat → Int32} {dd : Int32} {ch ro ot ow tr tu ld : Nat → Int32} {lc : Nat} {cc br bw : Int32} {x : Int32} (h : x.toInt < 0 ∨ 5 < x.toInt) : Cl m_X4_count [.inr 0, .inl x] (cw n c tb tn tl se on dd ch ro ot ow tr tu ld lc cc br bw) (some (.inl (-2147483648))) (cw n c tb tn tl se on dd ch ro ot ow tr tu ld lc cc br bw) := by
  refine Ev.to 999 rfl ?_
  refine Ev.tsO rfl h (tgt := 88) (by decide) ?_
  refine Ev.to 999 rfl ?_
  exact Ev.iret rfl rfl rfl rfl
theorem c_count0 {n : Nat} {c : Int32} {tb tn : Nat → Int32} {tl : Nat} {se on : Nat → Int32} {dd : Int32} {ch ro ot ow tr tu ld : Nat → Int32} {lc : Nat} {cc br bw : Int32} : Cl m_X4_count [.inr 0, .inl 0] (cw n c tb tn tl se on dd ch ro ot ow tr tu ld lc cc br bw) (some (.inl (nI n))) (cw n c tb tn tl se on dd ch ro ot ow tr tu ld lc cc br bw) := by
  refine Ev.to 999 rfl ?_
  refine Ev.st1 (pc1 := 40) rfl rfl rfl ?_
  refine Ev.to 999 rfl ?_
  refine Ev.callV rfl rfl e_size ?_
  exact Ev.iret rfl rfl rfl rfl
theorem c_count1 {n : Nat} {c : Int32} {tb tn : Nat → Int32} {tl : Nat} {se on : Nat → Int32} {dd : Int32} {ch ro ot ow tr tu ld : Nat → Int32} {lc : Nat} {cc br bw : Int32} (hn : n ≤ 8) : Cl m_X4_count [.inr 0, .inl 1] (cw n c tb tn tl se on dd ch ro ot ow tr tu ld lc cc br bw) (some (.inl (fd (g_wpr tb) 0 n))) (cw n c tb tn tl se on dd ch ro ot ow tr tu ld lc cc br bw) := by
  refine Ev.to 999 rfl ?_
  refine Ev.st1 (pc1 := 48) rfl rfl rfl ?_
  refine Ev.to 999 rfl ?_
  refine Ev.callV rfl rfl (e_weightedPairs hn) ?_
  exact Ev.iret rfl rfl rfl rfl
theorem c_count2 {n : Nat} {c : Int32} {tb tn : Nat → Int32} {tl : Nat} {se on : Nat → Int32} {dd : Int32} {ch ro ot ow tr tu ld : Nat → Int32} {lc : Nat} {cc br bw : Int32} : Cl m_X4_count [.inr 0, .inl 2] (cw n c tb tn tl se on dd ch ro ot ow tr tu ld lc cc br bw) (some (.inl (nI tl))) (cw n c tb tn tl se on dd ch ro ot ow tr tu ld lc cc br bw) := by
  refine Ev.to 999 rfl ?_
  refine Ev.st1 (pc1 := 56) rfl rfl rfl ?_
  refine Ev.to 999 rfl ?_
  refine Ev.callV rfl rfl e_lsize ?_
  exact Ev.iret rfl rfl rfl rfl
theorem c_count3 {n : Nat} {c : Int32} {tb tn : Nat → Int32} {tl : Nat} {se on : Nat → Int32} {dd : Int32} {ch ro ot ow tr tu ld : Nat → Int32} {lc : Nat} {cc br bw : Int32} : Cl m_X4_count [.inr 0, .inl 3] (cw n c tb tn tl se on dd ch ro ot ow tr tu ld lc cc br bw) (some (.inl (ibc dd))) (cw n c tb tn tl se on dd ch ro ot ow tr tu ld lc cc br bw) := by
  refine Ev.to 999 rfl ?_
  refine Ev.st1 (pc1 := 64) rfl rfl rfl ?_
  refine Ev.to 999 rfl ?_
  refine Ev.callV rfl rfl e_deadCells ?_
  exact Ev.iret rfl rfl rfl rfl
theorem c_count4 {n : Nat} {c : Int32} {tb tn : Nat → Int32} {tl : Nat} {se on : Nat → Int32} {dd : Int32} {ch ro ot ow tr tu ld : Nat → Int32} {lc : Nat} {cc br bw : Int32} : Cl m_X4_count [.inr 0, .inl 4] (cw n c tb tn tl se on dd ch ro ot ow tr tu ld lc cc br bw) (some (.inl (fd (g_tog ch) 0 8))) (cw n c tb tn tl se on dd ch ro ot ow tr tu ld lc cc br bw) := by
  refine Ev.to 999 rfl ?_
  refine Ev.st1 (pc1 := 72) rfl rfl rfl ?_
  refine Ev.to 999 rfl ?_
  refine Ev.callV rfl rfl e_lengths ?_
  exact Ev.iret rfl rfl rfl rfl
theorem c_count5 {n : Nat} {c : Int32} {tb tn : Nat → Int32} {tl : Nat} {se on : Nat → Int32} {dd : Int32} {ch ro ot ow tr tu ld : Nat → Int32} {lc : Nat} {cc br bw : Int32} : Cl m_X4_count [.inr 0, .inl 5] (cw n c tb tn tl se on dd ch ro ot ow tr tu ld lc cc br bw) (some (.inl c)) (cw n c tb tn tl se on dd ch ro ot ow tr tu ld lc cc br bw) := by
  refine Ev.to 999 rfl ?_
  refine Ev.st1 (pc1 := 80) rfl rfl rfl ?_
  refine Ev.to 999 rfl ?_
  refine Ev.callV rfl rfl e_constant ?_
  exact Ev.iret rfl rfl rfl rfl
end
section
/-! the reference, the first half -/
def h_os (x : Int32) (i : Nat) (a : Int32) : Int32 := a + bz (bb x i)
def io (x : Int32) : Int32 := fd (h_os x) 0 20
theorem m_ones (x : Int32) (w : ix_W) : Cl m_X5_ones [.inl x] w (some (.inl (io x))) w := by
  rw [io]
  refine Ev.to 4 (L1 := [_, _, _]) (st1 := []) rfl ?_
  refine Ev.loop (fun i => [some (.inl x), some (.inl (fd (h_os x) 0 i)), some (.inl (nI i))]) (fun _ => w) (fun _ => True) 0 20 (by omega) trivial (fun i _ hi _ kk => ?_) (fun _ => ?_)
  · have kk := kk trivial
    rw [nI_succ, fd, h_os, ← bbv (by omega)] at kk
    refine Ev.to 999 rfl ?_
    refine Ev.ff (nI_ng (n := 20) hi (by omega)) ?_
    exact Ev.to 4 (L1 := [_, _, _]) rfl kk
  · generalize fd (h_os x) 0 20 = r
    refine Ev.to 999 (pc1 := 24) rfl ?_
    refine Ev.to 999 rfl ?_
    exact Ev.iret rfl rfl rfl rfl
theorem m_isLetter {n : Nat} {c : Int32} {tb : Nat → Int32} {tl : Nat} {se on : Nat → Int32} {dd : Int32} {ch : Nat → Int32} {fs fo : Int32} {cm : Nat} {ce li ke be : Nat → Int32} (x : Int32) : Cl m_X5_isLetter [.inr 0, .inl x] (mw n c tb tl se on dd ch fs fo cm ce li ke be) (some (.inl (bz (inw x 0 (nI n - 1))))) (mw n c tb tl se on dd ch fs fo cm ce li ke be) := by
  refine Ev.to 999 rfl ?_
  refine Ev.callS rfl rfl (m_in _ _ _ _) ?_
  exact Ev.zret rfl rfl rfl rfl (bz_01 _)
theorem m_isState {n : Nat} {c : Int32} {tb : Nat → Int32} {tl : Nat} {se on : Nat → Int32} {dd : Int32} {ch : Nat → Int32} {fs fo : Int32} {cm : Nat} {ce li ke be : Nat → Int32} (hn : n ≤ 8) (x : Int32) : Cl m_X5_isState [.inr 0, .inl x] (mw n c tb tl se on dd ch fs fo cm ce li ke be) (some (.inl (bz (inw x 0 (nI (2 ^ n) - 1))))) (mw n c tb tl se on dd ch fs fo cm ce li ke be) := by
  rw [← pw_n hn]
  refine Ev.to 999 rfl ?_
  refine Ev.callS rfl rfl (m_in _ _ _ _) ?_
  exact Ev.zret rfl rfl rfl rfl (bz_01 _)
theorem m_letters_no {n : Nat} {c : Int32} {tb : Nat → Int32} {tl : Nat} {se on : Nat → Int32} {dd : Int32} {ch : Nat → Int32} {fs fo : Int32} {cm : Nat} {ce li ke be : Nat → Int32} {x : Int32} (h : inw x 1 8 = false) : Cl m_X5_letters [.inr 0, .inl x] (mw n c tb tl se on dd ch fs fo cm ce li ke be) (some (.inl (-2))) (mw n c tb tl se on dd ch fs fo cm ce li ke be) := by
  refine Ev.to 999 rfl ?_
  refine Ev.callS (rest := []) rfl rfl (m_in _ _ _ _) ?_
  refine Ev.to 999 rfl ?_
  refine Ev.tt (bz_f h) ?_
  refine Ev.to 999 rfl ?_
  exact Ev.iret rfl rfl rfl rfl
theorem m_letters {n : Nat} {c : Int32} {tb : Nat → Int32} {tl : Nat} {se on : Nat → Int32} {dd : Int32} {ch : Nat → Int32} {fs fo : Int32} {cm : Nat} {ce li ke be : Nat → Int32} (m : Nat) (h : inw (nI m) 1 8 = true) : Cl m_X5_letters [.inr 0, .inl (nI m)] (mw n c tb tl se on dd ch fs fo cm ce li ke be) (some (.inl 1)) (mw (m) (0) (fd (fun j f => upd f j 0) tb 64) (0) se on dd (fd (fun j f => upd f j 0) ch 8) fs fo cm ce li ke be) := by
  refine Ev.to 999 rfl ?_
  refine Ev.callS (rest := []) rfl rfl (m_in _ _ _ _) ?_
  refine Ev.to 999 rfl ?_
  refine Ev.ff (by rw [bz_t h]; decide) ?_
  refine Ev.to 30 (L1 := [_, _, _]) (st1 := []) (w1 := (mw (m) (0) tb (0) se on dd ch fs fo cm ce li ke be)) rfl ?_
  refine Ev.loop (fun j => [some (.inr 0), some (.inl (nI m)), some (.inl (nI j))]) (fun j => (mw (m) (0) (fd (fun j f => upd f j 0) tb j) (0) se on dd ch fs fo cm ce li ke be)) (fun _ => True) 0 64 (by omega) trivial (fun j _ hj _ kk => ?_) (fun _ => ?_)
  · have kk := kk trivial
    rw [nI_succ, fd] at kk
    refine Ev.to 999 rfl ?_
    refine Ev.ff (nI_ng (n := 64) hj (by omega)) ?_
    refine Ev.to 999 rfl ?_
    refine Ev.ast rfl rfl hj (by decide) ?_
    exact Ev.to 30 (L1 := [_, _, _]) rfl kk
  · generalize fd (fun j f => upd f j 0) tb 64 = T
    refine Ev.to 999 (pc1 := 49) rfl ?_
    refine Ev.to 51 (L1 := [_, _, _]) (st1 := []) rfl ?_
    refine Ev.loop (fun j => [some (.inr 0), some (.inl (nI m)), some (.inl (nI j))]) (fun j => (mw (m) (0) (T) (0) se on dd (fd (fun j f => upd f j 0) ch j) fs fo cm ce li ke be)) (fun _ => True) 0 8 (by omega) trivial (fun j _ hj _ kk => ?_) (fun _ => ?_)
    · have kk := kk trivial
      rw [nI_succ, fd] at kk
      refine Ev.to 999 rfl ?_
      refine Ev.ff (nI_ng (n := 8) hj (by omega)) ?_
      refine Ev.to 999 rfl ?_
      refine Ev.ast rfl rfl hj (by decide) ?_
      exact Ev.to 51 (L1 := [_, _, _]) rfl kk
    · refine Ev.to 999 (pc1 := 70) rfl ?_
      refine Ev.to 999 rfl ?_
      exact Ev.iret rfl rfl rfl rfl
theorem m_putWeight {n : Nat} {c : Int32} {tb : Nat → Int32} {tl : Nat} {se on : Nat → Int32} {dd : Int32} {ch : Nat → Int32} {fs fo : Int32} {cm : Nat} {ce li ke be : Nat → Int32} {i j : Nat} (hi : i < 8) (hj : j < 8) (x : Int32) : Cl m_X5_putWeight [.inr 0, .inl (nI i), .inl (nI j), .inl x] (mw n c tb tl se on dd ch fs fo cm ce li ke be) none (mw n c (upd (upd tb (8 * i + j) x) (8 * j + i) x) tl se on dd ch fs fo cm ce li ke be) := by
  refine Ev.to 999 rfl ?_
  refine Ev.astE (8 * i + j) (ni8' i j) rfl rfl (by omega) (by decide) ?_
  refine Ev.to 999 rfl ?_
  refine Ev.astE (8 * j + i) (ni8' j i) rfl rfl (by omega) (by decide) ?_
  exact Ev.vret rfl rfl rfl
theorem m_weigh_no {n : Nat} {c : Int32} {tb : Nat → Int32} {tl : Nat} {se on : Nat → Int32} {dd : Int32} {ch : Nat → Int32} {fs fo : Int32} {cm : Nat} {ce li ke be : Nat → Int32} {i j x : Int32} (h : inw i 0 (nI n - 1) = false ∨ inw j 0 (nI n - 1) = false ∨ inw x (-60) 60 = false) : Cl m_X5_weigh [.inr 0, .inl i, .inl j, .inl x] (mw n c tb tl se on dd ch fs fo cm ce li ke be) (some (.inl (-2147483648))) (mw n c tb tl se on dd ch fs fo cm ce li ke be) := by
  have no : Ev m_X5_weigh 27 [some (.inr 0), some (.inl i), some (.inl j), some (.inl x), none] [] (mw n c tb tl se on dd ch fs fo cm ce li ke be) (some (.inl (-2147483648)), (mw n c tb tl se on dd ch fs fo cm ce li ke be)) := by
    refine Ev.to 999 rfl ?_
    exact Ev.iret rfl rfl rfl rfl
  refine Ev.to 999 rfl ?_
  refine Ev.callV (rest := []) rfl rfl (m_isLetter _) ?_
  refine Ev.to 999 rfl ?_
  refine Ev.on (fun _ => no) (fun h1 => ?_)
  refine Ev.to 999 rfl ?_
  refine Ev.callV (rest := []) rfl rfl (m_isLetter _) ?_
  refine Ev.to 999 rfl ?_
  refine Ev.on (fun _ => no) (fun h2 => ?_)
  refine Ev.to 999 rfl ?_
  refine Ev.callS (rest := []) rfl rfl (m_in _ _ _ _) ?_
  refine Ev.to 999 rfl ?_
  refine Ev.on (fun _ => no) (fun h3 => ?_)
  rw [h1, h2, h3] at h
  exact absurd h (by decide)
theorem m_weigh {n : Nat} {c : Int32} {tb : Nat → Int32} {tl : Nat} {se on : Nat → Int32} {dd : Int32} {ch : Nat → Int32} {fs fo : Int32} {cm : Nat} {ce li ke be : Nat → Int32} {a b : Nat} {x : Int32} (ha : a < 8) (hb : b < 8) (h1 : inw (nI a) 0 (nI n - 1) = true) (h2 : inw (nI b) 0 (nI n - 1) = true) (h3 : inw x (-60) 60 = true) : Cl m_X5_weigh [.inr 0, .inl (nI a), .inl (nI b), .inl x] (mw n c tb tl se on dd ch fs fo cm ce li ke be) (some (.inl (tb (8 * a + b)))) (mw n c (upd (upd tb (8 * a + b) x) (8 * b + a) x) tl se on dd ch fs fo cm ce li ke be) := by
  refine Ev.to 999 rfl ?_
  refine Ev.callV (rest := []) rfl rfl (m_isLetter _) ?_
  refine Ev.to 999 rfl ?_
  refine Ev.ff (by rw [bz_t h1]; decide) ?_
  refine Ev.to 999 rfl ?_
  refine Ev.callV (rest := []) rfl rfl (m_isLetter _) ?_
  refine Ev.to 999 rfl ?_
  refine Ev.ff (by rw [bz_t h2]; decide) ?_
  refine Ev.to 999 rfl ?_
  refine Ev.callS (rest := []) rfl rfl (m_in _ _ _ _) ?_
  refine Ev.to 999 rfl ?_
  refine Ev.ff (by rw [bz_t h3]; decide) ?_
  refine Ev.to 999 rfl ?_
  refine Ev.aldE (8 * a + b) (ni8' a b) rfl rfl (by omega) (by decide) ?_
  refine Ev.to 999 (L1 := [_, _, _, _, _]) rfl ?_
  refine Ev.callV (rest := []) rfl rfl (m_putWeight ha hb _) ?_
  refine Ev.to 999 rfl ?_
  exact Ev.iret rfl rfl rfl rfl
theorem m_weight_no {n : Nat} {c : Int32} {tb : Nat → Int32} {tl : Nat} {se on : Nat → Int32} {dd : Int32} {ch : Nat → Int32} {fs fo : Int32} {cm : Nat} {ce li ke be : Nat → Int32} {i j : Int32} (h : inw i 0 (nI n - 1) = false ∨ inw j 0 (nI n - 1) = false) : Cl m_X5_weight [.inr 0, .inl i, .inl j] (mw n c tb tl se on dd ch fs fo cm ce li ke be) (some (.inl (-2147483648))) (mw n c tb tl se on dd ch fs fo cm ce li ke be) := by
  have no : Ev m_X5_weight 30 [some (.inr 0), some (.inl i), some (.inl j)] [] (mw n c tb tl se on dd ch fs fo cm ce li ke be) (some (.inl (-2147483648)), (mw n c tb tl se on dd ch fs fo cm ce li ke be)) := by
    refine Ev.to 999 rfl ?_
    exact Ev.iret rfl rfl rfl rfl
  refine Ev.to 999 rfl ?_
  refine Ev.callV (rest := []) rfl rfl (m_isLetter _) ?_
  refine Ev.to 999 rfl ?_
  refine Ev.on (fun _ => no) (fun h1 => ?_)
  refine Ev.to 999 rfl ?_
  refine Ev.callV (rest := []) rfl rfl (m_isLetter _) ?_
  refine Ev.to 999 rfl ?_
  refine Ev.on (fun _ => no) (fun h2 => ?_)
  rw [h1, h2] at h
  exact absurd h (by decide)
theorem m_weight {n : Nat} {c : Int32} {tb : Nat → Int32} {tl : Nat} {se on : Nat → Int32} {dd : Int32} {ch : Nat → Int32} {fs fo : Int32} {cm : Nat} {ce li ke be : Nat → Int32} {a b : Nat} (ha : a < 8) (hb : b < 8) (h1 : inw (nI a) 0 (nI n - 1) = true) (h2 : inw (nI b) 0 (nI n - 1) = true) : Cl m_X5_weight [.inr 0, .inl (nI a), .inl (nI b)] (mw n c tb tl se on dd ch fs fo cm ce li ke be) (some (.inl (tb (8 * a + b)))) (mw n c tb tl se on dd ch fs fo cm ce li ke be) := by
  refine Ev.to 999 rfl ?_
  refine Ev.callV (rest := []) rfl rfl (m_isLetter _) ?_
  refine Ev.to 999 rfl ?_
  refine Ev.ff (by rw [bz_t h1]; decide) ?_
  refine Ev.to 999 rfl ?_
  refine Ev.callV (rest := []) rfl rfl (m_isLetter _) ?_
  refine Ev.to 999 rfl ?_
  refine Ev.ff (by rw [bz_t h2]; decide) ?_
  refine Ev.to 999 rfl ?_
  refine Ev.aldE (8 * a + b) (ni8' a b) rfl rfl (by omega) (by decide) ?_
  refine Ev.to 999 rfl ?_
  exact Ev.iret rfl rfl rfl rfl
def h_ev (tb : Nat → Int32) (s : Int32) (i j : Nat) : Int32 := if bb s i = true ∧ bb s j = true then tb (8 * i + j) else 0
def h_ei (tb : Nat → Int32) (s : Int32) (i j : Nat) (a : Int32) : Int32 := a + h_ev tb s i j
def h_er (tb : Nat → Int32) (s : Int32) (i : Nat) (a : Int32) : Int32 := fd (h_ei tb s i) a (i + 1)
def h_en (n : Nat) (c : Int32) (tb : Nat → Int32) (s : Int32) : Int32 := fd (h_er tb s) c n
theorem m_energyOf {n : Nat} {c : Int32} {tb : Nat → Int32} {tl : Nat} {se on : Nat → Int32} {dd : Int32} {ch : Nat → Int32} {fs fo : Int32} {cm : Nat} {ce li ke be : Nat → Int32} (hn : n ≤ 8) (s : Int32) : Cl m_X5_energyOf [.inr 0, .inl s] (mw n c tb tl se on dd ch fs fo cm ce li ke be) (some (.inl (h_en n c tb s))) (mw n c tb tl se on dd ch fs fo cm ce li ke be) := by
  refine Ev.to 7 (L1 := [_, _, _, _, _]) (st1 := []) rfl ?_
  refine Ev.loop (fun i => [some (.inr 0), some (.inl s), some (.inl (fd (h_er tb s) c i)), some (.inl (nI i)), none]) (fun _ => (mw n c tb tl se on dd ch fs fo cm ce li ke be)) (fun _ => True) 0 n (Nat.zero_le n) trivial (fun i _ hi _ kk => ?_) (fun _ => ?_)
  · have kk := kk trivial
    rw [nI_succ, fd, h_er] at kk
    refine Ev.to 999 rfl ?_
    refine Ev.ff (nI_ng hi (by omega)) ?_
    generalize fd (h_er tb s) c i = a0 at kk ⊢
    refine Ev.to 18 (L1 := [_, _, _, _, _]) (st1 := []) rfl ?_
    refine Ev.loop (fun j => [some (.inr 0), some (.inl s), some (.inl (fd (h_ei tb s i) a0 j)), some (.inl (nI i)), some (.inl (nI j))]) (fun _ => (mw n c tb tl se on dd ch fs fo cm ce li ke be)) (fun _ => True) 0 (i + 1) (Nat.zero_le _) trivial (fun j _ hj _ k2 => ?_) (fun _ => ?_)
    · have k2 := k2 trivial
      rw [nI_succ, fd, h_ei] at k2
      generalize fd (h_ei tb s i) a0 j = a at k2 ⊢
      have J : ∀ v, h_ev tb s i j = v → Ev m_X5_energyOf 60 [some (.inr 0), some (.inl s), some (.inl a), some (.inl (nI i)), some (.inl (nI j))] [.inl v, .inl a] (mw n c tb tl se on dd ch fs fo cm ce li ke be) (some (.inl (h_en n c tb s)), (mw n c tb tl se on dd ch fs fo cm ce li ke be)) := by
        intro v hv
        rw [hv] at k2
        exact Ev.to 18 (L1 := [_, _, _, _, _]) rfl k2
      refine Ev.to 999 rfl ?_
      refine Ev.ff (nI_ngt (by omega) (by omega)) ?_
      refine Ev.to 999 rfl ?_
      refine Ev.if_ (fun h => ?_) (fun h => ?_)
      · have h := (bb1 (by omega)).mp h
        refine Ev.to 999 rfl ?_
        refine Ev.if_ (fun h2 => ?_) (fun h2 => ?_)
        · have h2 := (bb1 (by omega)).mp h2
          refine Ev.to 999 rfl ?_
          refine Ev.aldE (8 * i + j) (ni8' i j) rfl rfl (by omega) (by decide) ?_
          exact Ev.to 60 rfl (J _ (by rw [h_ev, if_pos ⟨h, h2⟩]))
        · refine Ev.to 60 rfl (J _ ?_)
          rw [h_ev, if_neg (fun q => h2 ((bb1 (by omega)).mpr q.2))]
      · refine Ev.to 60 rfl (J _ ?_)
        rw [h_ev, if_neg (fun q => h ((bb1 (by omega)).mpr q.1))]
    · refine Ev.to 999 rfl ?_
      refine Ev.tt (nI_gt1 (by omega)) ?_
      exact Ev.to 7 (L1 := [_, _, _, _, _]) rfl (Ev.fg kk (le_cc (le_cc (le_cc (le_cc (le_nc le_nil))))))
  · refine Ev.to 999 rfl ?_
    refine Ev.tt (nI_gg (by omega)) ?_
    refine Ev.to 999 rfl ?_
    exact Ev.iret rfl rfl rfl rfl
theorem m_energy {n : Nat} {c : Int32} {tb : Nat → Int32} {tl : Nat} {se on : Nat → Int32} {dd : Int32} {ch : Nat → Int32} {fs fo : Int32} {cm : Nat} {ce li ke be : Nat → Int32} (hn : n ≤ 8) (s : Int32) : Cl m_X5_energy [.inr 0, .inl s] (mw n c tb tl se on dd ch fs fo cm ce li ke be) (some (.inl (if inw s 0 (nI (2 ^ n) - 1) = true then h_en n c tb s else -2147483648))) (mw n c tb tl se on dd ch fs fo cm ce li ke be) := by
  refine Ev.to 999 rfl ?_
  refine Ev.callV (rest := []) rfl rfl (m_isState hn _) ?_
  refine Ev.to 999 rfl ?_
  refine Ev.on (fun h => ?_) (fun h => ?_)
  · rw [if_neg (by rw [h]; decide)]
    refine Ev.to 999 rfl ?_
    exact Ev.iret rfl rfl rfl rfl
  · rw [if_pos h]
    refine Ev.to 999 rfl ?_
    refine Ev.callV (rest := []) rfl rfl (m_energyOf hn _) ?_
    refine Ev.to 999 rfl ?_
    exact Ev.iret rfl rfl rfl rfl
def h_lok (n : Nat) (s k : Int32) : Bool := inw s 1 (nI (2 ^ n) - 1) && inw k 0 (io s)
theorem m_law_no {n : Nat} {c : Int32} {tb : Nat → Int32} {tl : Nat} {se on : Nat → Int32} {dd : Int32} {ch : Nat → Int32} {fs fo : Int32} {cm : Nat} {ce li ke be : Nat → Int32} (hn : n ≤ 8) {s k : Int32} (h : h_lok n s k = false) : Cl m_X5_law [.inr 0, .inl s, .inl k] (mw n c tb tl se on dd ch fs fo cm ce li ke be) (some (.inl (-2))) (mw n c tb tl se on dd ch fs fo cm ce li ke be) := by
  have no : Ev m_X5_law 28 [some (.inr 0), some (.inl s), some (.inl k)] [] (mw n c tb tl se on dd ch fs fo cm ce li ke be) (some (.inl (-2)), (mw n c tb tl se on dd ch fs fo cm ce li ke be)) := by
    refine Ev.to 999 rfl ?_
    exact Ev.iret rfl rfl rfl rfl
  rw [h_lok, ← pw_n hn] at h
  refine Ev.to 999 rfl ?_
  refine Ev.callS (rest := []) rfl rfl (m_in _ _ _ _) ?_
  refine Ev.to 999 rfl ?_
  refine Ev.on (fun _ => no) (fun h1 => ?_)
  refine Ev.to 999 rfl ?_
  refine Ev.callS rfl rfl (m_ones _ _) ?_
  refine Ev.callS (rest := []) rfl rfl (m_in _ _ _ _) ?_
  refine Ev.to 999 rfl ?_
  refine Ev.on (fun _ => no) (fun h3 => ?_)
  rw [show inw s 1 ((1 : Int32) <<< (nI n &&& 31) - 1) = true from h1, h3] at h
  exact absurd h (by decide)
theorem m_law_go {n : Nat} {c : Int32} {tb : Nat → Int32} {tl : Nat} {se on : Nat → Int32} {dd : Int32} {ch : Nat → Int32} {fs fo : Int32} {cm : Nat} {ce li ke be : Nat → Int32} (hn : n ≤ 8) {s k : Int32} (h : h_lok n s k = true) {x : Option ix_V × ix_W} (kk : Ev m_X5_law 31 [some (.inr 0), some (.inl s), some (.inl k)] [] (mw n c tb tl se on dd ch fs fo cm ce li ke be) x) : Ev m_X5_law 0 (ix_en m_X5_law [.inr 0, .inl s, .inl k]) [] (mw n c tb tl se on dd ch fs fo cm ce li ke be) x := by
  rw [h_lok, ← pw_n hn, Bool.and_eq_true] at h
  refine Ev.to 999 rfl ?_
  refine Ev.callS (rest := []) rfl rfl (m_in _ _ _ _) ?_
  refine Ev.to 999 rfl ?_
  refine Ev.ff (fun z => by
    have z2 : bz (inw s 1 ((1 : Int32) <<< (nI n &&& 31) - 1)) = 0 := z
    rw [bz_t h.1] at z2
    exact absurd z2 (by decide)) ?_
  refine Ev.to 999 rfl ?_
  refine Ev.callS rfl rfl (m_ones _ _) ?_
  refine Ev.callS (rest := []) rfl rfl (m_in _ _ _ _) ?_
  refine Ev.to 999 rfl ?_
  refine Ev.ff (by rw [bz_t h.2]; decide) ?_
  exact kk
theorem m_law_full {n : Nat} {c : Int32} {tb : Nat → Int32} {tl : Nat} {se on : Nat → Int32} {dd : Int32} {ch : Nat → Int32} {fs fo : Int32} {cm : Nat} {ce li ke be : Nat → Int32} (hn : n ≤ 8) {s k : Int32} (h : h_lok n s k = true) (ht : tl = 6) : Cl m_X5_law [.inr 0, .inl s, .inl k] (mw n c tb tl se on dd ch fs fo cm ce li ke be) (some (.inl (-4))) (mw n c tb tl se on dd ch fs fo cm ce li ke be) := by
  subst ht
  refine m_law_go hn h ?_
  refine Ev.to 999 (pc1 := 40) rfl ?_
  refine Ev.to 999 rfl ?_
  exact Ev.iret rfl rfl rfl rfl
theorem m_law {n : Nat} {c : Int32} {tb : Nat → Int32} {tl : Nat} {se on : Nat → Int32} {dd : Int32} {ch : Nat → Int32} {fs fo : Int32} {cm : Nat} {ce li ke be : Nat → Int32} (hn : n ≤ 8) {s k : Int32} (h : h_lok n s k = true) (ht : tl < 6) : Cl m_X5_law [.inr 0, .inl s, .inl k] (mw n c tb tl se on dd ch fs fo cm ce li ke be) (some (.inl (nI tl))) (mw n c tb (tl + 1) (upd se tl s) (upd on tl k) dd ch fs fo cm ce li ke be) := by
  refine m_law_go hn h ?_
  refine Ev.to 999 rfl ?_
  refine Ev.ff (fun z => by have := (nI_eq (b := 6) (by omega) (by omega)).mp z; omega) ?_
  refine Ev.to 999 rfl ?_
  refine Ev.ast rfl rfl ht (by decide) ?_
  refine Ev.to 999 rfl ?_
  refine Ev.ast rfl rfl ht (by decide) ?_
  have e : (mw n c tb (tl + 1) (upd se tl s) (upd on tl k) dd ch fs fo cm ce li ke be) = List.set (mw n c tb tl (upd se tl s) (upd on tl k) dd ch fs fo cm ce li ke be) 0 (.inr (5, [.inl (nI n), .inl c, .inr 1, .inl (nI tl + 1), .inr 2, .inr 3, .inl dd, .inr 4, .inl fs, .inl fo, .inl (nI cm), .inr 5, .inr 6, .inr 7, .inr 8])) := by rw [← nI_succ]; rfl
  rw [e]
  refine Ev.to 999 rfl ?_
  refine Ev.iret rfl rfl ?_ rfl
  show Sum.inl (nI tl + 1 - 1) = _
  rw [← nI_succ, nI_pred]
theorem m_unlaw_no {n : Nat} {c : Int32} {tb : Nat → Int32} {tl : Nat} {se on : Nat → Int32} {dd : Int32} {ch : Nat → Int32} {fs fo : Int32} {cm : Nat} {ce li ke be : Nat → Int32} (h : tl = 0) : Cl m_X5_unlaw [.inr 0] (mw n c tb tl se on dd ch fs fo cm ce li ke be) (some (.inl (-3))) (mw n c tb tl se on dd ch fs fo cm ce li ke be) := by
  subst h
  refine Ev.to 999 (pc1 := 7) rfl ?_
  refine Ev.to 999 rfl ?_
  exact Ev.iret rfl rfl rfl rfl
theorem m_unlaw {n : Nat} {c : Int32} {tb : Nat → Int32} {tl : Nat} {se on : Nat → Int32} {dd : Int32} {ch : Nat → Int32} {fs fo : Int32} {cm : Nat} {ce li ke be : Nat → Int32} (h : tl < 6) : Cl m_X5_unlaw [.inr 0] (mw n c tb (tl + 1) se on dd ch fs fo cm ce li ke be) (some (.inl (nI tl))) (mw n c tb tl se on dd ch fs fo cm ce li ke be) := by
  refine Ev.to 999 rfl ?_
  refine Ev.ff (nI_ne0 (by omega) (by omega)) ?_
  have e : (mw n c tb tl se on dd ch fs fo cm ce li ke be) = List.set (mw n c tb (tl + 1) se on dd ch fs fo cm ce li ke be) 0 (.inr (5, [.inl (nI n), .inl c, .inr 1, .inl (nI (tl + 1) - 1), .inr 2, .inr 3, .inl dd, .inr 4, .inl fs, .inl fo, .inl (nI cm), .inr 5, .inr 6, .inr 7, .inr 8])) := by rw [nI_pred]; rfl
  rw [e]
  refine Ev.to 999 rfl ?_
  exact Ev.iret rfl rfl (congrArg Sum.inl (nI_pred tl)) rfl
def h_ms (se on : Nat → Int32) (s : Int32) (l : Nat) (a : Int32) : Int32 := a + (io (s &&& se l) - on l) * (io (s &&& se l) - on l)
def h_mis (tl : Nat) (se on : Nat → Int32) (s : Int32) : Int32 := fd (h_ms se on s) 0 tl
theorem m_missed {n : Nat} {c : Int32} {tb : Nat → Int32} {tl : Nat} {se on : Nat → Int32} {dd : Int32} {ch : Nat → Int32} {fs fo : Int32} {cm : Nat} {ce li ke be : Nat → Int32} (ht : tl ≤ 6) (s : Int32) : Cl m_X5_missed [.inr 0, .inl s] (mw n c tb tl se on dd ch fs fo cm ce li ke be) (some (.inl (h_mis tl se on s))) (mw n c tb tl se on dd ch fs fo cm ce li ke be) := by
  refine Ev.to 4 (L1 := [_, _, _, _, _]) (st1 := []) rfl ?_
  refine Ev.loop (fun l => [some (.inr 0), some (.inl s), some (.inl (fd (h_ms se on s) 0 l)), some (.inl (nI l)), none]) (fun _ => (mw n c tb tl se on dd ch fs fo cm ce li ke be)) (fun _ => True) 0 tl (Nat.zero_le tl) trivial (fun l _ hl _ kk => ?_) (fun _ => ?_)
  · have kk := kk trivial
    rw [nI_succ, fd, h_ms] at kk
    refine Ev.to 999 rfl ?_
    refine Ev.ff (nI_ng hl (by omega)) ?_
    refine Ev.to 999 rfl ?_
    refine Ev.ald rfl rfl (by omega) (by decide) ?_
    refine Ev.to 999 rfl ?_
    refine Ev.callS rfl rfl (m_ones _ _) ?_
    refine Ev.to 999 rfl ?_
    refine Ev.ald rfl rfl (by omega) (by decide) ?_
    exact Ev.to 4 (L1 := [_, _, _, _, _]) rfl (Ev.fg kk (le_cc (le_cc (le_cc (le_cc (le_nc le_nil))))))
  · refine Ev.to 999 rfl ?_
    refine Ev.tt (nI_gg (by omega)) ?_
    refine Ev.to 999 rfl ?_
    exact Ev.iret rfl rfl rfl rfl
def h_wd (n : Nat) (c : Int32) (tb : Nat → Int32) (tl : Nat) (se on : Nat → Int32) (p : Int32) (s : Nat) : Int32 := h_en n c tb (nI s) + p * h_mis tl se on (nI s)
theorem m_weighed {n : Nat} {c : Int32} {tb : Nat → Int32} {tl : Nat} {se on : Nat → Int32} {dd : Int32} {ch : Nat → Int32} {fs fo : Int32} {cm : Nat} {ce li ke be : Nat → Int32} (hn : n ≤ 8) (ht : tl ≤ 6) (s : Nat) (p : Int32) : Cl m_X5_weighed [.inr 0, .inl (nI s), .inl p] (mw n c tb tl se on dd ch fs fo cm ce li ke be) (some (.inl (h_wd n c tb tl se on p s))) (mw n c tb tl se on dd ch fs fo cm ce li ke be) := by
  refine Ev.to 999 rfl ?_
  refine Ev.callV rfl rfl (m_energyOf hn _) ?_
  refine Ev.to 999 rfl ?_
  refine Ev.callV rfl rfl (m_missed ht _) ?_
  refine Ev.to 999 rfl ?_
  exact Ev.iret rfl rfl rfl rfl
/-- the bound of a going through all states -/
theorem m_pw {n : Nat} (hn : n ≤ 8) {s : Nat} (hs : s < 2 ^ n) : ¬ (1 : Int32) <<< (nI n &&& 31) ≤ nI s := by
  rw [pw_n hn]; exact nI_ng hs (by have := (pw_le hn).1; omega)
theorem m_pw' {n : Nat} (hn : n ≤ 8) : (1 : Int32) <<< (nI n &&& 31) ≤ nI (2 ^ n) := by
  rw [pw_n hn]; exact nI_gg (by have := (pw_le hn).1; omega)
theorem m_leastBy {n : Nat} {c : Int32} {tb : Nat → Int32} {tl : Nat} {se on : Nat → Int32} {dd : Int32} {ch : Nat → Int32} {fs fo : Int32} {cm : Nat} {ce li ke be : Nat → Int32} (hn : n ≤ 8) (ht : tl ≤ 6) (p : Int32) : Cl m_X5_leastBy [.inr 0, .inl p] (mw n c tb tl se on dd ch fs fo cm ce li ke be) (some (.inl (g_low n (h_wd n c tb tl se on p)))) (mw n c tb tl se on dd ch fs fo cm ce li ke be) := by
  obtain ⟨hp1, hp2⟩ := pw_le hn
  rw [g_low]
  refine Ev.to 999 rfl ?_
  refine Ev.callV (rest := []) rfl rfl (m_weighed hn ht 0 _) ?_
  refine Ev.to 9 (L1 := [_, _, _, _, _]) (st1 := []) rfl ?_
  refine Ev.loop (fun t => [some (.inr 0), some (.inl p), some (.inl (fd (g_mn (h_wd n c tb tl se on p)) (h_wd n c tb tl se on p 0) t)), some (.inl (nI (t + 1))), none]) (fun _ => (mw n c tb tl se on dd ch fs fo cm ce li ke be)) (fun _ => True) 0 (2 ^ n - 1) (Nat.zero_le _) trivial (fun t _ ht2 _ kk => ?_) (fun _ => ?_)
  · have kk := kk trivial
    rw [nI_succ (t + 1), fd, g_mn, imin] at kk
    generalize fd (g_mn (h_wd n c tb tl se on p)) (h_wd n c tb tl se on p 0) t = a at kk ⊢
    refine Ev.to 999 rfl ?_
    refine Ev.ff (m_pw hn (by omega)) ?_
    refine Ev.to 999 rfl ?_
    refine Ev.callV (rest := []) rfl rfl (m_weighed hn ht (t + 1) _) ?_
    refine Ev.to 999 (L1 := [_, _, _, _, _]) rfl ?_
    refine Ev.if_ (fun h => ?_) (fun h => ?_)
    · rw [if_neg (i32_nlt.mpr h)] at kk
      exact Ev.to 9 (L1 := [_, _, _, _, _]) rfl (Ev.fg kk (le_cc (le_cc (le_cc (le_cc (le_nc le_nil))))))
    · rw [if_pos (i32_nle.mp h)] at kk
      exact Ev.to 9 (L1 := [_, _, _, _, _]) rfl (Ev.fg kk (le_cc (le_cc (le_cc (le_cc (le_nc le_nil))))))
  · refine Ev.to 999 rfl ?_
    rw [show 2 ^ n - 1 + 1 = 2 ^ n by omega]
    refine Ev.tt (m_pw' hn) ?_
    refine Ev.to 999 rfl ?_
    exact Ev.iret rfl rfl rfl rfl
theorem m_best {n : Nat} {c : Int32} {tb : Nat → Int32} {tl : Nat} {se on : Nat → Int32} {dd : Int32} {ch : Nat → Int32} {fs fo : Int32} {cm : Nat} {ce li ke be : Nat → Int32} (hn : n ≤ 8) (ht : tl ≤ 6) (p : Int32) : Cl m_X5_best [.inr 0, .inl p] (mw n c tb tl se on dd ch fs fo cm ce li ke be) (some (.inl (if inw p 0 1000 = true then g_low n (h_wd n c tb tl se on p) else -2147483648))) (mw n c tb tl se on dd ch fs fo cm ce li ke be) := by
  refine Ev.to 999 rfl ?_
  refine Ev.callS (rest := []) rfl rfl (m_isPull _ _) ?_
  refine Ev.to 999 rfl ?_
  refine Ev.on (fun h => ?_) (fun h => ?_)
  · rw [if_neg (by rw [h]; decide)]
    refine Ev.to 999 rfl ?_
    exact Ev.iret rfl rfl rfl rfl
  · rw [if_pos h]
    refine Ev.to 999 rfl ?_
    refine Ev.callV (rest := []) rfl rfl (m_leastBy hn ht _) ?_
    refine Ev.to 999 rfl ?_
    exact Ev.iret rfl rfl rfl rfl
theorem m_many_no {n : Nat} {c : Int32} {tb : Nat → Int32} {tl : Nat} {se on : Nat → Int32} {dd : Int32} {ch : Nat → Int32} {fs fo : Int32} {cm : Nat} {ce li ke be : Nat → Int32} {p : Int32} (h : inw p 0 1000 = false) : Cl m_X5_many [.inr 0, .inl p] (mw n c tb tl se on dd ch fs fo cm ce li ke be) (some (.inl (-2))) (mw n c tb tl se on dd ch fs fo cm ce li ke be) := by
  refine Ev.to 999 rfl ?_
  refine Ev.callS (rest := []) rfl rfl (m_isPull _ _) ?_
  refine Ev.to 999 rfl ?_
  refine Ev.tt (bz_f h) ?_
  refine Ev.to 999 rfl ?_
  exact Ev.iret rfl rfl rfl rfl
def h_ct (V : Nat → Int32) (m : Int32) (s : Nat) (a : Int32) : Int32 := a + (if V s = m then 1 else 0)
theorem m_many {n : Nat} {c : Int32} {tb : Nat → Int32} {tl : Nat} {se on : Nat → Int32} {dd : Int32} {ch : Nat → Int32} {fs fo : Int32} {cm : Nat} {ce li ke be : Nat → Int32} (hn : n ≤ 8) (ht : tl ≤ 6) {p : Int32} (h : inw p 0 1000 = true) : Cl m_X5_many [.inr 0, .inl p] (mw n c tb tl se on dd ch fs fo cm ce li ke be) (some (.inl (fd (h_ct (h_wd n c tb tl se on p) (g_low n (h_wd n c tb tl se on p))) 0 (2 ^ n)))) (mw n c tb tl se on dd ch fs fo cm ce li ke be) := by
  obtain ⟨hp1, hp2⟩ := pw_le hn
  refine Ev.to 999 rfl ?_
  refine Ev.callS (rest := []) rfl rfl (m_isPull _ _) ?_
  refine Ev.to 999 rfl ?_
  refine Ev.ff (by rw [bz_t h]; decide) ?_
  refine Ev.to 999 rfl ?_
  refine Ev.callV (rest := []) rfl rfl (m_leastBy hn ht _) ?_
  generalize g_low n (h_wd n c tb tl se on p) = m
  refine Ev.to 21 (L1 := [_, _, _, _, _]) (st1 := []) rfl ?_
  refine Ev.loop (fun s => [some (.inr 0), some (.inl p), some (.inl m), some (.inl (fd (h_ct (h_wd n c tb tl se on p) m) 0 s)), some (.inl (nI s))]) (fun _ => (mw n c tb tl se on dd ch fs fo cm ce li ke be)) (fun _ => True) 0 (2 ^ n) (Nat.zero_le _) trivial (fun s _ hs _ kk => ?_) (fun _ => ?_)
  · have kk := kk trivial
    rw [nI_succ s, fd, h_ct] at kk
    refine Ev.to 999 rfl ?_
    refine Ev.ff (m_pw hn hs) ?_
    refine Ev.to 999 rfl ?_
    refine Ev.callV (rest := [_]) rfl rfl (m_weighed hn ht s _) ?_
    refine Ev.to 999 rfl ?_
    refine Ev.if_ (fun h => ?_) (fun h => ?_)
    · rw [if_pos h] at kk
      exact Ev.to 21 (L1 := [_, _, _, _, _]) rfl kk
    · rw [if_neg h] at kk
      exact Ev.to 21 (L1 := [_, _, _, _, _]) rfl kk
  · refine Ev.to 999 rfl ?_
    refine Ev.tt (m_pw' hn) ?_
    refine Ev.to 999 rfl ?_
    exact Ev.iret rfl rfl rfl rfl
theorem m_bestAt_no {n : Nat} {c : Int32} {tb : Nat → Int32} {tl : Nat} {se on : Nat → Int32} {dd : Int32} {ch : Nat → Int32} {fs fo : Int32} {cm : Nat} {ce li ke be : Nat → Int32} {p k : Int32} (h : inw p 0 1000 = false ∨ ¬ 0 ≤ k) : Cl m_X5_bestAt [.inr 0, .inl p, .inl k] (mw n c tb tl se on dd ch fs fo cm ce li ke be) (some (.inl (-2))) (mw n c tb tl se on dd ch fs fo cm ce li ke be) := by
  have no : Ev m_X5_bestAt 11 [some (.inr 0), some (.inl p), some (.inl k), none, none, none] [] (mw n c tb tl se on dd ch fs fo cm ce li ke be) (some (.inl (-2)), (mw n c tb tl se on dd ch fs fo cm ce li ke be)) := by
    refine Ev.to 999 rfl ?_
    exact Ev.iret rfl rfl rfl rfl
  refine Ev.to 999 rfl ?_
  refine Ev.callS (rest := []) rfl rfl (m_isPull _ _) ?_
  refine Ev.to 999 rfl ?_
  refine Ev.on (fun _ => no) (fun h1 => ?_)
  refine Ev.to 999 rfl ?_
  refine Ev.if_ (fun h2 => ?_) (fun _ => no)
  rcases h with h | h
  · rw [h1] at h; cases h
  · exact absurd h2 h
/-- how many best ones stand ahead of s -/
def h_cn (V : Nat → Int32) (m : Int32) (s : Nat) : Nat := fb_ct (fun s => decide (V s = m)) s
theorem h_cn_s (V : Nat → Int32) (m : Int32) (s : Nat) : h_cn V m (s + 1) = h_cn V m s + (if V s = m then 1 else 0) := by
  rw [h_cn, fb_ct_succ]
  by_cases h : V s = m
  · rw [if_pos h, decide_eq_true h, if_pos rfl]; rfl
  · rw [if_neg h, decide_eq_false h, if_neg (by decide)]; rfl
theorem m_bestAt_go {n : Nat} {c : Int32} {tb : Nat → Int32} {tl : Nat} {se on : Nat → Int32} {dd : Int32} {ch : Nat → Int32} {fs fo : Int32} {cm : Nat} {ce li ke be : Nat → Int32} (hn : n ≤ 8) (ht : tl ≤ 6) {p : Int32} {k N : Nat} (hk : k < 2 ^ 31) (h : inw p 0 1000 = true) (hN : N ≤ 2 ^ n) (hc : h_cn (h_wd n c tb tl se on p) (g_low n (h_wd n c tb tl se on p)) N ≤ k) {x : Option ix_V × ix_W} (kk : Ev m_X5_bestAt 26 [some (.inr 0), some (.inl p), some (.inl (nI k)), some (.inl (g_low n (h_wd n c tb tl se on p))), some (.inl (nI (k - h_cn (h_wd n c tb tl se on p) (g_low n (h_wd n c tb tl se on p)) N))), some (.inl (nI N))] [] (mw n c tb tl se on dd ch fs fo cm ce li ke be) x) : Ev m_X5_bestAt 0 (ix_en m_X5_bestAt [.inr 0, .inl p, .inl (nI k)]) [] (mw n c tb tl se on dd ch fs fo cm ce li ke be) x := by
  obtain ⟨hp1, hp2⟩ := pw_le hn
  refine Ev.to 999 rfl ?_
  refine Ev.callS (rest := []) rfl rfl (m_isPull _ _) ?_
  refine Ev.to 999 rfl ?_
  refine Ev.ff (by rw [bz_t h]; decide) ?_
  refine Ev.to 999 rfl ?_
  refine Ev.tt (nI_pos' hk) ?_
  refine Ev.to 999 rfl ?_
  refine Ev.callV (rest := []) rfl rfl (m_leastBy hn ht _) ?_
  generalize g_low n (h_wd n c tb tl se on p) = m at hc kk ⊢
  refine Ev.to 26 (L1 := [_, _, _, _, _, _]) (st1 := []) rfl ?_
  refine Ev.loop (fun s => [some (.inr 0), some (.inl p), some (.inl (nI k)), some (.inl m), some (.inl (nI (k - h_cn (h_wd n c tb tl se on p) m s))), some (.inl (nI s))]) (fun _ => (mw n c tb tl se on dd ch fs fo cm ce li ke be)) (fun _ => True) 0 N (Nat.zero_le _) trivial (fun s _ hs _ k2 => ?_) (fun _ => kk)
  have k2 := k2 trivial
  have hmono : h_cn (h_wd n c tb tl se on p) m (s + 1) ≤ h_cn (h_wd n c tb tl se on p) m N := fb_ct_mono _ hs
  rw [nI_succ s, h_cn_s] at k2
  rw [h_cn_s] at hmono
  refine Ev.to 999 rfl ?_
  refine Ev.ff (m_pw hn (by omega)) ?_
  refine Ev.to 999 rfl ?_
  refine Ev.callV (rest := []) rfl rfl (m_weighed hn ht s _) ?_
  refine Ev.to 999 rfl ?_
  refine Ev.if_ (fun h => ?_) (fun h => ?_)
  · rw [if_pos h] at k2 hmono
    generalize h_cn (h_wd n c tb tl se on p) m s = q at k2 hmono ⊢
    refine Ev.to 999 rfl ?_
    refine Ev.ff (ne_nat (by omega) (by omega)) ?_
    have e : nI (k - q) + -1 = nI (k - (q + 1)) := by
      rw [show k - q = (k - (q + 1)) + 1 by omega]; exact pk_m1 _
    rw [← e] at k2
    exact Ev.to 26 (L1 := [_, _, _, _, _, _]) rfl k2
  · rw [if_neg h, Nat.add_zero] at k2
    exact Ev.to 26 (L1 := [_, _, _, _, _, _]) rfl k2
theorem m_bestAt {n : Nat} {c : Int32} {tb : Nat → Int32} {tl : Nat} {se on : Nat → Int32} {dd : Int32} {ch : Nat → Int32} {fs fo : Int32} {cm : Nat} {ce li ke be : Nat → Int32} (hn : n ≤ 8) (ht : tl ≤ 6) {p : Int32} {k s : Nat} (hk : k < 2 ^ 31) (h : inw p 0 1000 = true) (hs : s < 2 ^ n) (hv : h_wd n c tb tl se on p s = g_low n (h_wd n c tb tl se on p)) (hc : h_cn (h_wd n c tb tl se on p) (g_low n (h_wd n c tb tl se on p)) s = k) : Cl m_X5_bestAt [.inr 0, .inl p, .inl (nI k)] (mw n c tb tl se on dd ch fs fo cm ce li ke be) (some (.inl (nI s))) (mw n c tb tl se on dd ch fs fo cm ce li ke be) := by
  refine m_bestAt_go hn ht hk h (N := s) (by omega) (by omega) ?_
  rw [hc, Nat.sub_self]
  refine Ev.to 999 rfl ?_
  refine Ev.ff (m_pw hn hs) ?_
  refine Ev.to 999 rfl ?_
  refine Ev.callV (rest := []) rfl rfl (m_weighed hn ht s _) ?_
  refine Ev.to 999 rfl ?_
  refine Ev.tt hv ?_
  refine Ev.to 999 (pc1 := 53) rfl ?_
  refine Ev.to 999 rfl ?_
  exact Ev.iret rfl rfl rfl rfl
theorem m_bestAt_miss {n : Nat} {c : Int32} {tb : Nat → Int32} {tl : Nat} {se on : Nat → Int32} {dd : Int32} {ch : Nat → Int32} {fs fo : Int32} {cm : Nat} {ce li ke be : Nat → Int32} (hn : n ≤ 8) (ht : tl ≤ 6) {p : Int32} {k : Nat} (hk : k < 2 ^ 31) (h : inw p 0 1000 = true) (hc : h_cn (h_wd n c tb tl se on p) (g_low n (h_wd n c tb tl se on p)) (2 ^ n) ≤ k) : Cl m_X5_bestAt [.inr 0, .inl p, .inl (nI k)] (mw n c tb tl se on dd ch fs fo cm ce li ke be) (some (.inl (-2))) (mw n c tb tl se on dd ch fs fo cm ce li ke be) := by
  refine m_bestAt_go hn ht hk h (N := 2 ^ n) (Nat.le_refl _) hc ?_
  refine Ev.to 999 rfl ?_
  refine Ev.tt (m_pw' hn) ?_
  refine Ev.to 999 rfl ?_
  exact Ev.iret rfl rfl rfl rfl
end
section
/-! the reference: pull, fixed, floor, kill, chain -/
def oany (o : Option Int32) : Int32 := match o with
  | none => 0
  | some _ => 1
def oval (o : Option Int32) : Int32 := match o with
  | none => 0
  | some v => v
def h_pk (E M : Nat → Int32) (s : Nat) (o : Option Int32) : Option Int32 := if M s = 0 then (match o with
  | none => some (E s)
  | some v => if v ≤ E s then some v else some (E s)) else o
def h_pm (E M : Nat → Int32) (kept : Int32) (s : Nat) (a : Int32) : Int32 := if 0 < M s ∧ 0 ≤ kept - E s then (if (kept - E s) / M s + 1 ≤ a then a else (kept - E s) / M s + 1) else a
abbrev h_E (n : Nat) (c : Int32) (tb : Nat → Int32) : Nat → Int32 := fun s => h_en n c tb (nI s)
abbrev h_M (tl : Nat) (se on : Nat → Int32) : Nat → Int32 := fun s => h_mis tl se on (nI s)
theorem m_pull_go {n : Nat} {c : Int32} {tb : Nat → Int32} {tl : Nat} {se on : Nat → Int32} {dd : Int32} {ch : Nat → Int32} {fs fo : Int32} {cm : Nat} {ce li ke be : Nat → Int32} (hn : n ≤ 8) (ht : tl ≤ 6) {x : Option ix_V × ix_W} (kk : Ev m_X5_pull 55 [some (.inr 0), some (.inl (oany (fd (h_pk (h_E n c tb) (h_M tl se on)) none (2 ^ n)))), some (.inl (oval (fd (h_pk (h_E n c tb) (h_M tl se on)) none (2 ^ n)))), some (.inl (nI (2 ^ n))), none, none, none] [] (mw n c tb tl se on dd ch fs fo cm ce li ke be) x) : Ev m_X5_pull 0 (ix_en m_X5_pull [.inr 0]) [] (mw n c tb tl se on dd ch fs fo cm ce li ke be) x := by
  obtain ⟨hp1, hp2⟩ := pw_le hn
  refine Ev.to 6 (L1 := [_, _, _, _, _, _, _]) (st1 := []) rfl ?_
  refine Ev.loop (fun s => [some (.inr 0), some (.inl (oany (fd (h_pk (h_E n c tb) (h_M tl se on)) none s))), some (.inl (oval (fd (h_pk (h_E n c tb) (h_M tl se on)) none s))), some (.inl (nI s)), none, none, none]) (fun _ => (mw n c tb tl se on dd ch fs fo cm ce li ke be)) (fun _ => True) 0 (2 ^ n) (Nat.zero_le _) trivial (fun s _ hs _ k2 => ?_) (fun _ => ?_)
  · have k2 := k2 trivial
    rw [nI_succ s, fd, h_pk.eq_def] at k2
    generalize fd (h_pk (h_E n c tb) (h_M tl se on)) none s = o at k2 ⊢
    refine Ev.to 999 rfl ?_
    refine Ev.ff (m_pw hn hs) ?_
    refine Ev.to 999 rfl ?_
    refine Ev.callV (rest := []) rfl rfl (m_missed ht _) ?_
    refine Ev.to 999 rfl ?_
    refine Ev.if_ (fun h => ?_) (fun h => ?_)
    · rw [if_pos h] at k2
      refine Ev.to 999 rfl ?_
      cases o with
      | none =>
        refine Ev.to 999 (pc1 := 39) rfl ?_
        refine Ev.callV (rest := []) rfl rfl (m_energyOf hn _) ?_
        exact Ev.to 6 (L1 := [_, _, _, _, _, _, _]) rfl k2
      | some v =>
        dsimp only at k2
        refine Ev.to 999 (pc1 := 30) rfl ?_
        refine Ev.callV (rest := []) rfl rfl (m_energyOf hn _) ?_
        refine Ev.to 999 rfl ?_
        refine Ev.if_ (fun h2 => ?_) (fun h2 => ?_)
        · rw [if_pos (show v ≤ h_E n c tb s from h2)] at k2
          exact Ev.to 6 (L1 := [_, _, _, _, _, _, _]) rfl k2
        · rw [if_neg (show ¬ v ≤ h_E n c tb s from h2)] at k2
          refine Ev.to 999 rfl ?_
          refine Ev.callV (rest := []) rfl rfl (m_energyOf hn _) ?_
          exact Ev.to 6 (L1 := [_, _, _, _, _, _, _]) rfl k2
    · rw [if_neg h] at k2
      exact Ev.to 6 (L1 := [_, _, _, _, _, _, _]) rfl k2
  · refine Ev.to 999 rfl ?_
    refine Ev.tt (m_pw' hn) ?_
    exact kk
theorem m_pull_no {n : Nat} {c : Int32} {tb : Nat → Int32} {tl : Nat} {se on : Nat → Int32} {dd : Int32} {ch : Nat → Int32} {fs fo : Int32} {cm : Nat} {ce li ke be : Nat → Int32} (hn : n ≤ 8) (ht : tl ≤ 6) (h : fd (h_pk (h_E n c tb) (h_M tl se on)) none (2 ^ n) = none) : Cl m_X5_pull [.inr 0] (mw n c tb tl se on dd ch fs fo cm ce li ke be) (some (.inl (-1))) (mw n c tb tl se on dd ch fs fo cm ce li ke be) := by
  refine m_pull_go hn ht ?_
  rw [h]
  refine Ev.to 999 (pc1 := 59) rfl ?_
  refine Ev.to 999 rfl ?_
  exact Ev.iret rfl rfl rfl rfl
theorem m_pull {n : Nat} {c : Int32} {tb : Nat → Int32} {tl : Nat} {se on : Nat → Int32} {dd : Int32} {ch : Nat → Int32} {fs fo : Int32} {cm : Nat} {ce li ke be : Nat → Int32} (hn : n ≤ 8) (ht : tl ≤ 6) {v : Int32} (h : fd (h_pk (h_E n c tb) (h_M tl se on)) none (2 ^ n) = some v) : Cl m_X5_pull [.inr 0] (mw n c tb tl se on dd ch fs fo cm ce li ke be) (some (.inl (if fd (h_pm (h_E n c tb) (h_M tl se on) v) 0 (2 ^ n) ≤ 1000 then fd (h_pm (h_E n c tb) (h_M tl se on) v) 0 (2 ^ n) else 1001))) (mw n c tb tl se on dd ch fs fo cm ce li ke be) := by
  obtain ⟨hp1, hp2⟩ := pw_le hn
  refine m_pull_go hn ht ?_
  rw [h]
  refine Ev.to 999 (pc1 := 61) rfl ?_
  refine Ev.to 66 (L1 := [_, _, _, _, _, _, _]) (st1 := []) rfl ?_
  show Ev _ _ [_, some (.inl 1), some (.inl v), _, _, _, _] _ _ _
  refine Ev.loop (fun s => [some (.inr 0), some (.inl 1), some (.inl v), some (.inl (fd (h_pm (h_E n c tb) (h_M tl se on) v) 0 s)), some (.inl (nI s)), none, none]) (fun _ => (mw n c tb tl se on dd ch fs fo cm ce li ke be)) (fun _ => True) 0 (2 ^ n) (Nat.zero_le _) trivial (fun s _ hs _ kk => ?_) (fun _ => ?_)
  · have kk := kk trivial
    rw [nI_succ s, fd, h_pm] at kk
    generalize fd (h_pm (h_E n c tb) (h_M tl se on) v) 0 s = a at kk ⊢
    refine Ev.to 999 rfl ?_
    refine Ev.ff (m_pw hn hs) ?_
    refine Ev.to 999 rfl ?_
    refine Ev.callV (rest := [_]) rfl rfl (m_energyOf hn _) ?_
    refine Ev.to 999 (L1 := [_, _, _, _, _, _, _]) rfl ?_
    refine Ev.callV (rest := []) rfl rfl (m_missed ht _) ?_
    refine Ev.to 999 rfl ?_
    refine Ev.if_ (fun h1 => ?_) (fun h1 => ?_)
    · rw [if_neg (fun z => i32_nlt.mpr h1 z.1)] at kk
      exact Ev.to 66 (L1 := [_, _, _, _, _, _, _]) rfl (Ev.fg kk (le_cc (le_cc (le_cc (le_cc (le_cc (le_nc (le_nc le_nil))))))))
    · have h1 := i32_nle.mp h1
      refine Ev.to 999 rfl ?_
      refine Ev.if_ (fun h2 => ?_) (fun h2 => ?_)
      · rw [if_neg (fun z => i32_nlt.mpr z.2 h2)] at kk
        exact Ev.to 66 (L1 := [_, _, _, _, _, _, _]) rfl (Ev.fg kk (le_cc (le_cc (le_cc (le_cc (le_cc (le_nc (le_nc le_nil))))))))
      · rw [if_pos ⟨h1, i32_nlt.mp h2⟩] at kk
        refine Ev.to 999 rfl ?_
        refine Ev.callV (rest := [_]) rfl rfl (m_missed ht _) ?_
        refine Ev.dv rfl (fun z => by rw [z] at h1; exact absurd h1 (by decide)) ?_
        refine Ev.to 999 (L1 := [_, _, _, _, _, _, _]) rfl ?_
        refine Ev.if_ (fun h3 => ?_) (fun h3 => ?_)
        · rw [if_pos h3] at kk
          exact Ev.to 66 (L1 := [_, _, _, _, _, _, _]) rfl (Ev.fg kk (le_cc (le_cc (le_cc (le_cc (le_cc (le_nc (le_nc le_nil))))))))
        · rw [if_neg h3] at kk
          exact Ev.to 66 (L1 := [_, _, _, _, _, _, _]) rfl (Ev.fg kk (le_cc (le_cc (le_cc (le_cc (le_cc (le_nc (le_nc le_nil))))))))
  · generalize fd (h_pm (h_E n c tb) (h_M tl se on) v) 0 (2 ^ n) = a
    refine Ev.to 999 rfl ?_
    refine Ev.tt (m_pw' hn) ?_
    refine Ev.to 999 rfl ?_
    refine Ev.if_ (fun h1 => ?_) (fun h1 => ?_)
    · rw [if_pos h1]
      refine Ev.to 999 rfl ?_
      exact Ev.iret rfl rfl rfl rfl
    · rw [if_neg h1]
      refine Ev.to 999 rfl ?_
      exact Ev.iret rfl rfl rfl rfl
/-! fixed -/
def h_w (tb : Nat → Int32) (i j : Nat) : Int32 := if i = j then 0 else tb (8 * i + j)
def h_mo (tb : Nat → Int32) (i : Nat) (s o : Int32) (j : Nat) (a : Int32) : Int32 := if bb s j = true then a + (if bb o j = true then h_w tb i j else 0) else a
def h_ml (tb : Nat → Int32) (i : Nat) (s : Int32) (j : Nat) (a : Int32) : Int32 := if bb s j = true then a else a + (if 0 ≤ h_w tb i j then 0 else h_w tb i j)
def h_mm (tb : Nat → Int32) (i : Nat) (s : Int32) (j : Nat) (a : Int32) : Int32 := if bb s j = true then a else a + (if h_w tb i j ≤ 0 then 0 else h_w tb i j)
def h_mb (n : Nat) (tb : Nat → Int32) (i : Nat) (s o : Int32) : Int32 := if fd (h_mo tb i s o) (tb (8 * i + i)) n + fd (h_ml tb i s) 0 n < 0 then (if 0 < fd (h_mo tb i s o) (tb (8 * i + i)) n + fd (h_mm tb i s) 0 n then -1 else 1) else 0
theorem m_mayBe {n : Nat} {c : Int32} {tb : Nat → Int32} {tl : Nat} {se on : Nat → Int32} {dd : Int32} {ch : Nat → Int32} {fs fo : Int32} {cm : Nat} {ce li ke be : Nat → Int32} (hn : n ≤ 8) {i : Nat} (hi : i < 8) : Cl m_X5_mayBe [.inr 0, .inl (nI i)] (mw n c tb tl se on dd ch fs fo cm ce li ke be) (some (.inl (h_mb n tb i fs fo))) (mw n c tb tl se on dd ch fs fo cm ce li ke be) := by
  rw [h_mb]
  refine Ev.to 999 rfl ?_
  refine Ev.aldE (8 * i + i) (ni8' i i) rfl rfl (by omega) (by decide) ?_
  refine Ev.to 20 (L1 := [_, _, _, _, _, _, _]) (st1 := []) rfl ?_
  refine Ev.loop (fun j => [some (.inr 0), some (.inl (nI i)), some (.inl (fd (h_mo tb i fs fo) (tb (8 * i + i)) j)), some (.inl (fd (h_ml tb i fs) 0 j)), some (.inl (fd (h_mm tb i fs) 0 j)), some (.inl (nI j)), none]) (fun _ => (mw n c tb tl se on dd ch fs fo cm ce li ke be)) (fun _ => True) 0 n (Nat.zero_le n) trivial (fun j _ hj _ kk => ?_) (fun _ => ?_)
  · have kk := kk trivial
    rw [nI_succ, fd, fd, fd, h_mo, h_ml, h_mm] at kk
    generalize fd (h_mo tb i fs fo) (tb (8 * i + i)) j = a1 at kk ⊢
    generalize fd (h_ml tb i fs) 0 j = a2 at kk ⊢
    generalize fd (h_mm tb i fs) 0 j = a3 at kk ⊢
    have J : ∀ v, h_w tb i j = v → Ev m_X5_mayBe 51 [some (.inr 0), some (.inl (nI i)), some (.inl a1), some (.inl a2), some (.inl a3), some (.inl (nI j)), none] [.inl v] (mw n c tb tl se on dd ch fs fo cm ce li ke be) (some (.inl (if fd (h_mo tb i fs fo) (tb (8 * i + i)) n + fd (h_ml tb i fs) 0 n < 0 then (if 0 < fd (h_mo tb i fs fo) (tb (8 * i + i)) n + fd (h_mm tb i fs) 0 n then -1 else 1) else 0)), (mw n c tb tl se on dd ch fs fo cm ce li ke be)) := by
      intro v hv
      rw [hv] at kk
      generalize (some (Sum.inl (if fd (h_mo tb i fs fo) (tb (8 * i + i)) n + fd (h_ml tb i fs) 0 n < 0 then (if 0 < fd (h_mo tb i fs fo) (tb (8 * i + i)) n + fd (h_mm tb i fs) 0 n then -1 else 1) else 0)) : Option ix_V) = res at kk ⊢
      refine Ev.to 999 (L1 := [_, _, _, _, _, _, _]) rfl ?_
      refine Ev.if_ (fun h => ?_) (fun h => ?_)
      · have hb := (bb1 (by omega)).mp h
        rw [if_pos hb, if_pos hb, if_pos hb] at kk
        refine Ev.to 999 rfl ?_
        refine Ev.if_ (fun h2 => ?_) (fun h2 => ?_)
        · have hb2 := (bb1 (by omega)).mp h2
          rw [if_pos hb2] at kk
          exact Ev.to 20 (L1 := [_, _, _, _, _, _, _]) rfl (Ev.fg kk (le_cc (le_cc (le_cc (le_cc (le_cc (le_cc (le_nc le_nil))))))))
        · rw [if_neg (fun z => h2 ((bb1 (by omega)).mpr z))] at kk
          exact Ev.to 20 (L1 := [_, _, _, _, _, _, _]) rfl (Ev.fg kk (le_cc (le_cc (le_cc (le_cc (le_cc (le_cc (le_nc le_nil))))))))
      · have hb : ¬ bb fs j = true := fun z => h ((bb1 (by omega)).mpr z)
        rw [if_neg hb, if_neg hb, if_neg hb] at kk
        refine Ev.to 999 rfl ?_
        have K : ∀ u a, a2 + (if 0 ≤ v then 0 else v) = a + u → Ev m_X5_mayBe 103 [some (.inr 0), some (.inl (nI i)), some (.inl a1), some (.inl a2), some (.inl a3), some (.inl (nI j)), some (.inl v)] [.inl u, .inl a] (mw n c tb tl se on dd ch fs fo cm ce li ke be) (res, (mw n c tb tl se on dd ch fs fo cm ce li ke be)) := by
          intro u a hu
          rw [hu] at kk
          refine Ev.to 999 (L1 := [_, _, _, _, _, _, _]) rfl ?_
          refine Ev.if_ (fun h3 => ?_) (fun h3 => ?_)
          · rw [if_pos h3] at kk
            exact Ev.to 20 (L1 := [_, _, _, _, _, _, _]) rfl (Ev.fg kk (le_cc (le_cc (le_cc (le_cc (le_cc (le_cc (le_nc le_nil))))))))
          · rw [if_neg h3] at kk
            exact Ev.to 20 (L1 := [_, _, _, _, _, _, _]) rfl (Ev.fg kk (le_cc (le_cc (le_cc (le_cc (le_cc (le_cc (le_nc le_nil))))))))
        refine Ev.if_ (fun h3 => ?_) (fun h3 => ?_)
        · exact Ev.to 103 rfl (K _ _ (by rw [if_pos h3]))
        · exact Ev.to 103 rfl (K _ _ (by rw [if_neg h3]))
    refine Ev.to 999 rfl ?_
    refine Ev.ff (nI_ng hj (by omega)) ?_
    refine Ev.to 999 rfl ?_
    refine Ev.if_ (fun h => ?_) (fun h => ?_)
    · have h := (nI_eq (by omega) (by omega)).mp h
      exact Ev.to 51 rfl (J _ (by rw [h_w, if_pos h]))
    · have h2 : ¬ i = j := fun z => h (by rw [z])
      refine Ev.to 999 rfl ?_
      refine Ev.aldE (8 * i + j) (ni8' i j) rfl rfl (by omega) (by decide) ?_
      exact J _ (by rw [h_w, if_neg h2])
  · generalize fd (h_mo tb i fs fo) (tb (8 * i + i)) n = a1
    generalize fd (h_ml tb i fs) 0 n = a2
    generalize fd (h_mm tb i fs) 0 n = a3
    refine Ev.to 999 rfl ?_
    refine Ev.tt (nI_gg (by omega)) ?_
    refine Ev.to 999 rfl ?_
    refine Ev.if_ (fun h => ?_) (fun h => ?_)
    · refine Ev.to 999 rfl ?_
      refine Ev.if_ (fun h2 => ?_) (fun h2 => ?_)
      · refine Ev.to 999 rfl ?_
        exact Ev.iret rfl rfl (by rw [if_pos h, if_pos h2]) rfl
      · refine Ev.to 999 rfl ?_
        exact Ev.iret rfl rfl (by rw [if_pos h, if_neg h2]) rfl
    · refine Ev.to 999 rfl ?_
      exact Ev.iret rfl rfl (by rw [if_neg h]) rfl
def h_fv (n : Nat) (tb : Nat → Int32) (i : Nat) (s o : Int32) : Int32 := if bb s i = true then -1 else h_mb n tb i s o
def h_fx (n : Nat) (tb : Nat → Int32) (i : Nat) (p : Int32 × Int32 × Int32) : Int32 × Int32 × Int32 := if h_fv n tb i p.1 p.2.1 = -1 then p else (p.1 ||| ((1 : Int32) <<< (nI i &&& 31)), p.2.1 ||| (h_fv n tb i p.1 p.2.1 <<< (nI i &&& 31)), 1)
def h_fo (n : Nat) (tb : Nat → Int32) (_ : Nat) (p : Int32 × Int32 × Int32) : Int32 × Int32 × Int32 := if p.2.2 = 0 then p else fd (h_fx n tb) (p.1, p.2.1, 0) n
theorem m_fixAll {n : Nat} {c : Int32} {tb : Nat → Int32} {tl : Nat} {se on : Nat → Int32} {dd : Int32} {ch : Nat → Int32} {fs fo : Int32} {cm : Nat} {ce li ke be : Nat → Int32} (hn : n ≤ 8) {R : Nat} (hR : (fd (h_fo n tb) (0, 0, 1) R).2.2 = 0) : Cl m_X5_fixAll [.inr 0] (mw n c tb tl se on dd ch fs fo cm ce li ke be) none (mw n c tb tl se on dd ch ((fd (h_fo n tb) (0, 0, 1) R).1) ((fd (h_fo n tb) (0, 0, 1) R).2.1) cm ce li ke be) := by
  refine Ev.to 12 (L1 := [_, _, _, _]) (st1 := []) (w1 := (mw n c tb tl se on dd ch (0) (0) cm ce li ke be)) rfl ?_
  refine Ev.loop (fun r => [some (.inr 0), some (.inl (fd (h_fo n tb) (0, 0, 1) r).2.2), none, none]) (fun r => (mw n c tb tl se on dd ch ((fd (h_fo n tb) (0, 0, 1) r).1) ((fd (h_fo n tb) (0, 0, 1) r).2.1) cm ce li ke be)) (fun _ => True) 0 R (Nat.zero_le R) trivial (fun r _ hr _ kk => ?_) (fun _ => ?_)
  · have kk := kk trivial
    have hstill : (fd (h_fo n tb) (0, 0, 1) r).2.2 = 0 → fd (h_fo n tb) (0, 0, 1) R = fd (h_fo n tb) (0, 0, 1) r := fun hz => fd_still (fun i _ => by rw [h_fo, if_pos hz]) (by omega)
    rw [fd, h_fo] at kk
    generalize fd (h_fo n tb) (0, 0, 1) r = p at kk hstill ⊢
    generalize fd (h_fo n tb) (0, 0, 1) R = pR at kk hstill ⊢
    obtain ⟨s, o, a⟩ := p
    dsimp only at kk hstill ⊢
    refine Ev.to 999 rfl ?_
    refine Ev.if_ (fun h1 => ?_) (fun h1 => ?_)
    · rw [hstill h1]
      exact Ev.vret rfl rfl rfl
    · rw [if_neg h1] at kk
      refine Ev.to 20 (L1 := [_, _, _, _]) (st1 := []) rfl ?_
      refine Ev.loop (fun i => [some (.inr 0), some (.inl (fd (h_fx n tb) (s, o, 0) i).2.2), some (.inl (nI i)), none]) (fun i => (mw n c tb tl se on dd ch ((fd (h_fx n tb) (s, o, 0) i).1) ((fd (h_fx n tb) (s, o, 0) i).2.1) cm ce li ke be)) (fun _ => True) 0 n (Nat.zero_le n) trivial (fun i _ hi _ k2 => ?_) (fun _ => ?_)
      · have k2 := k2 trivial
        rw [nI_succ, fd, h_fx] at k2
        generalize fd (h_fx n tb) (s, o, 0) i = p at k2 ⊢
        obtain ⟨s2, o2, a2⟩ := p
        dsimp only at k2 ⊢
        have J : ∀ v, h_fv n tb i s2 o2 = v → Ev m_X5_fixAll 49 [some (.inr 0), some (.inl a2), some (.inl (nI i)), none] [.inl v] (mw n c tb tl se on dd ch (s2) (o2) cm ce li ke be) (none, (mw n c tb tl se on dd ch (pR.1) (pR.2.1) cm ce li ke be)) := by
          intro v hv
          rw [hv] at k2
          refine Ev.to 999 (L1 := [_, _, _, _]) rfl ?_
          refine Ev.if_ (fun h2 => ?_) (fun h2 => ?_)
          · rw [if_pos h2] at k2
            exact Ev.to 20 (L1 := [_, _, _, _]) rfl (Ev.fg k2 (le_cc (le_cc (le_cc (le_nc le_nil)))))
          · rw [if_neg h2] at k2
            exact Ev.to 20 (L1 := [_, _, _, _]) rfl (Ev.fg k2 (le_cc (le_cc (le_cc (le_nc le_nil)))))
        refine Ev.to 999 rfl ?_
        refine Ev.ff (nI_ng hi (by omega)) ?_
        refine Ev.to 999 rfl ?_
        refine Ev.if_ (fun h => ?_) (fun h => ?_)
        · have hb := (bb1 (by omega)).mp h
          exact Ev.to 49 rfl (J _ (by rw [h_fv, if_pos hb]))
        · refine Ev.to 999 rfl ?_
          refine Ev.callV (rest := []) rfl rfl (m_mayBe hn (by omega)) ?_
          exact J _ (by rw [h_fv, if_neg (fun z => h ((bb1 (by omega)).mpr z))])
      · refine Ev.to 999 rfl ?_
        refine Ev.tt (nI_gg (by omega)) ?_
        exact Ev.to 12 (L1 := [_, _, _, _]) rfl (Ev.fg kk (le_cc (le_cc (le_nc (le_nc le_nil)))))
  · generalize fd (h_fo n tb) (0, 0, 1) R = p at hR ⊢
    obtain ⟨s, o, a⟩ := p
    dsimp only at hR ⊢
    refine Ev.to 999 rfl ?_
    refine Ev.tt hR ?_
    exact Ev.vret rfl rfl rfl
theorem m_fixed_no {n : Nat} {c : Int32} {tb : Nat → Int32} {tl : Nat} {se on : Nat → Int32} {dd : Int32} {ch : Nat → Int32} {fs fo : Int32} {cm : Nat} {ce li ke be : Nat → Int32} {x : Int32} (h : inw x 0 1 = false) : Cl m_X5_fixed [.inr 0, .inl x] (mw n c tb tl se on dd ch fs fo cm ce li ke be) (some (.inl (-2))) (mw n c tb tl se on dd ch fs fo cm ce li ke be) := by
  refine Ev.to 999 rfl ?_
  refine Ev.callS (rest := []) rfl rfl (m_in _ _ _ _) ?_
  refine Ev.to 999 rfl ?_
  refine Ev.tt (bz_f h) ?_
  refine Ev.to 999 rfl ?_
  exact Ev.iret rfl rfl rfl rfl
theorem m_fixed {n : Nat} {c : Int32} {tb : Nat → Int32} {tl : Nat} {se on : Nat → Int32} {dd : Int32} {ch : Nat → Int32} {fs fo : Int32} {cm : Nat} {ce li ke be : Nat → Int32} (hn : n ≤ 8) {x : Int32} (h : inw x 0 1 = true) {R : Nat} (hR : (fd (h_fo n tb) (0, 0, 1) R).2.2 = 0) : Cl m_X5_fixed [.inr 0, .inl x] (mw n c tb tl se on dd ch fs fo cm ce li ke be) (some (.inl (if x = 0 then (fd (h_fo n tb) (0, 0, 1) R).1 else (fd (h_fo n tb) (0, 0, 1) R).2.1))) (mw n c tb tl se on dd ch ((fd (h_fo n tb) (0, 0, 1) R).1) ((fd (h_fo n tb) (0, 0, 1) R).2.1) cm ce li ke be) := by
  refine Ev.to 999 rfl ?_
  refine Ev.callS (rest := []) rfl rfl (m_in _ _ _ _) ?_
  refine Ev.to 999 rfl ?_
  refine Ev.ff (by rw [bz_t h]; decide) ?_
  refine Ev.to 999 rfl ?_
  refine Ev.callV (rest := []) rfl rfl (m_fixAll hn hR) ?_
  refine Ev.to 999 rfl ?_
  refine Ev.if_ (fun h2 => ?_) (fun h2 => ?_)
  · rw [if_pos h2]
    refine Ev.to 999 rfl ?_
    exact Ev.iret rfl rfl rfl rfl
  · rw [if_neg h2]
    refine Ev.to 999 rfl ?_
    exact Ev.iret rfl rfl rfl rfl
def h_lb (tb : Nat → Int32) (i j : Nat) (a : Int32) : Int32 := a + (if 0 ≤ tb (8 * i + j) then 0 else tb (8 * i + j))
def h_lbr (tb : Nat → Int32) (i : Nat) (a : Int32) : Int32 := fd (h_lb tb i) a (i + 1)
theorem m_floor {n : Nat} {c : Int32} {tb : Nat → Int32} {tl : Nat} {se on : Nat → Int32} {dd : Int32} {ch : Nat → Int32} {fs fo : Int32} {cm : Nat} {ce li ke be : Nat → Int32} (hn : n ≤ 8) : Cl m_X5_floor [.inr 0] (mw n c tb tl se on dd ch fs fo cm ce li ke be) (some (.inl (fd (h_lbr tb) c n))) (mw n c tb tl se on dd ch fs fo cm ce li ke be) := by
  refine Ev.to 7 (L1 := [_, _, _, _]) (st1 := []) rfl ?_
  refine Ev.loop (fun i => [some (.inr 0), some (.inl (fd (h_lbr tb) c i)), some (.inl (nI i)), none]) (fun _ => (mw n c tb tl se on dd ch fs fo cm ce li ke be)) (fun _ => True) 0 n (Nat.zero_le n) trivial (fun i _ hi _ kk => ?_) (fun _ => ?_)
  · have kk := kk trivial
    rw [nI_succ, fd, h_lbr] at kk
    refine Ev.to 999 rfl ?_
    refine Ev.ff (nI_ng hi (by omega)) ?_
    generalize fd (h_lbr tb) c i = a0 at kk ⊢
    refine Ev.to 17 (L1 := [_, _, _, _]) (st1 := []) rfl ?_
    refine Ev.loop (fun j => [some (.inr 0), some (.inl (fd (h_lb tb i) a0 j)), some (.inl (nI i)), some (.inl (nI j))]) (fun _ => (mw n c tb tl se on dd ch fs fo cm ce li ke be)) (fun _ => True) 0 (i + 1) (Nat.zero_le _) trivial (fun j _ hj _ k2 => ?_) (fun _ => ?_)
    · have k2 := k2 trivial
      rw [nI_succ, fd, h_lb] at k2
      refine Ev.to 999 rfl ?_
      refine Ev.ff (nI_ngt (by omega) (by omega)) ?_
      refine Ev.to 999 rfl ?_
      refine Ev.aldE (8 * i + j) (ni8' i j) rfl rfl (by omega) (by decide) ?_
      refine Ev.to 999 rfl ?_
      refine Ev.if_ (fun h => ?_) (fun h => ?_)
      · rw [if_pos h] at k2
        exact Ev.to 17 (L1 := [_, _, _, _]) rfl k2
      · rw [if_neg h] at k2
        refine Ev.to 999 rfl ?_
        refine Ev.aldE (8 * i + j) (ni8' i j) rfl rfl (by omega) (by decide) ?_
        exact Ev.to 17 (L1 := [_, _, _, _]) rfl k2
    · refine Ev.to 999 rfl ?_
      refine Ev.tt (nI_gt1 (by omega)) ?_
      exact Ev.to 7 (L1 := [_, _, _, _]) rfl (Ev.fg kk (le_cc (le_cc (le_cc (le_nc le_nil)))))
  · refine Ev.to 999 rfl ?_
    refine Ev.tt (nI_gg (by omega)) ?_
    refine Ev.to 999 rfl ?_
    exact Ev.iret rfl rfl rfl rfl
theorem m_kill_no {n : Nat} {c : Int32} {tb : Nat → Int32} {tl : Nat} {se on : Nat → Int32} {dd : Int32} {ch : Nat → Int32} {fs fo : Int32} {cm : Nat} {ce li ke be : Nat → Int32} {x : Int32} (b : Int32) (h : inw x 0 19 = false) : Cl m_X5_kill [.inr 0, .inl x, .inl b] (mw n c tb tl se on dd ch fs fo cm ce li ke be) (some (.inl (-2))) (mw n c tb tl se on dd ch fs fo cm ce li ke be) := by
  refine Ev.to 999 rfl ?_
  refine Ev.callS (rest := []) rfl rfl (m_in _ _ _ _) ?_
  refine Ev.to 999 rfl ?_
  refine Ev.tt (bz_f h) ?_
  refine Ev.to 999 rfl ?_
  exact Ev.iret rfl rfl rfl rfl
theorem m_kill {n : Nat} {c : Int32} {tb : Nat → Int32} {tl : Nat} {se on : Nat → Int32} {dd : Int32} {ch : Nat → Int32} {fs fo : Int32} {cm : Nat} {ce li ke be : Nat → Int32} {q : Nat} (hq : q < 32) (b : Int32) (h : inw (nI q) 0 19 = true) : Cl m_X5_kill [.inr 0, .inl (nI q), .inl b] (mw n c tb tl se on dd ch fs fo cm ce li ke be) (some (.inl (bz (bb dd q)))) (mw n c tb tl se on (g_sd dd (nI q) b) ch fs fo cm ce li ke be) := by
  rw [← bbv hq]
  refine Ev.to 999 rfl ?_
  refine Ev.callS (rest := []) rfl rfl (m_in _ _ _ _) ?_
  refine Ev.to 999 rfl ?_
  refine Ev.ff (by rw [bz_t h]; decide) ?_
  refine Ev.to 999 (L1 := [_, _, _, _]) rfl ?_
  refine Ev.if_ (fun hb => ?_) (fun hb => ?_)
  · rw [g_sd, if_pos hb]
    refine Ev.to 999 (w1 := (mw n c tb tl se on (dd &&& (((1 : Int32) <<< (nI q &&& 31)) ^^^ (-1))) ch fs fo cm ce li ke be)) rfl ?_
    exact Ev.iret rfl rfl rfl rfl
  · rw [g_sd, if_neg hb]
    refine Ev.to 999 (w1 := (mw n c tb tl se on (dd ||| ((1 : Int32) <<< (nI q &&& 31))) ch fs fo cm ce li ke be)) rfl ?_
    exact Ev.iret rfl rfl rfl rfl
theorem m_chain_no {n : Nat} {c : Int32} {tb : Nat → Int32} {tl : Nat} {se on : Nat → Int32} {dd : Int32} {ch : Nat → Int32} {fs fo : Int32} {cm : Nat} {ce li ke be : Nat → Int32} {i x : Int32} (h : inw i 0 (nI n - 1) = false ∨ inw x 0 1048575 = false) : Cl m_X5_chain [.inr 0, .inl i, .inl x] (mw n c tb tl se on dd ch fs fo cm ce li ke be) (some (.inl (-2))) (mw n c tb tl se on dd ch fs fo cm ce li ke be) := by
  have no : Ev m_X5_chain 18 [some (.inr 0), some (.inl i), some (.inl x)] [] (mw n c tb tl se on dd ch fs fo cm ce li ke be) (some (.inl (-2)), (mw n c tb tl se on dd ch fs fo cm ce li ke be)) := by
    refine Ev.to 999 rfl ?_
    exact Ev.iret rfl rfl rfl rfl
  refine Ev.to 999 rfl ?_
  refine Ev.callV (rest := []) rfl rfl (m_isLetter _) ?_
  refine Ev.to 999 rfl ?_
  refine Ev.on (fun _ => no) (fun h1 => ?_)
  refine Ev.to 999 rfl ?_
  refine Ev.callS (rest := []) rfl rfl (m_in _ _ _ _) ?_
  refine Ev.to 999 rfl ?_
  refine Ev.on (fun _ => no) (fun h2 => ?_)
  rw [h1, h2] at h
  exact absurd h (by decide)
theorem m_chain {n : Nat} {c : Int32} {tb : Nat → Int32} {tl : Nat} {se on : Nat → Int32} {dd : Int32} {ch : Nat → Int32} {fs fo : Int32} {cm : Nat} {ce li ke be : Nat → Int32} {a : Nat} {x : Int32} (ha : a < 8) (h1 : inw (nI a) 0 (nI n - 1) = true) (h2 : inw x 0 1048575 = true) : Cl m_X5_chain [.inr 0, .inl (nI a), .inl x] (mw n c tb tl se on dd ch fs fo cm ce li ke be) (some (.inl (io x))) (mw n c tb tl se on dd (upd ch a x) fs fo cm ce li ke be) := by
  refine Ev.to 999 rfl ?_
  refine Ev.callV (rest := []) rfl rfl (m_isLetter _) ?_
  refine Ev.to 999 rfl ?_
  refine Ev.ff (by rw [bz_t h1]; decide) ?_
  refine Ev.to 999 rfl ?_
  refine Ev.callS (rest := []) rfl rfl (m_in _ _ _ _) ?_
  refine Ev.to 999 rfl ?_
  refine Ev.ff (by rw [bz_t h2]; decide) ?_
  refine Ev.to 999 rfl ?_
  refine Ev.ast rfl rfl ha (by decide) ?_
  refine Ev.to 999 rfl ?_
  refine Ev.callS rfl rfl (m_ones _ _) ?_
  exact Ev.iret rfl rfl rfl rfl
end
section
/-! the reference: the grid -/
def h_u1 (c : Nat) : Int32 := if nI c < 5 then 0 else (1 : Int32) <<< ((nI c - 5) &&& 31)
def h_u2 (c : Nat) : Int32 := if 15 ≤ nI c then 0 else (1 : Int32) <<< ((nI c + 5) &&& 31)
def h_u3 (c : Nat) : Int32 := if nI c - nI c / 5 * 5 ≤ 0 then 0 else (1 : Int32) <<< ((nI c - 1) &&& 31)
def h_u4 (c : Nat) : Int32 := if 4 ≤ nI c - nI c / 5 * 5 then 0 else (1 : Int32) <<< ((nI c + 1) &&& 31)
def h_bs (x : Int32) (c : Nat) (a : Int32) : Int32 := if bb x c = true then (((a ||| h_u1 c) ||| h_u2 c) ||| h_u3 c) ||| h_u4 c else a
def h_be (x : Int32) : Int32 := fd (h_bs x) 0 20
theorem m_beside (x : Int32) (w : ix_W) : Cl m_X5_beside [.inl x] w (some (.inl (h_be x))) w := by
  rw [h_be]
  refine Ev.to 4 (L1 := [_, _, _]) (st1 := []) rfl ?_
  refine Ev.loop (fun c => [some (.inl x), some (.inl (fd (h_bs x) 0 c)), some (.inl (nI c))]) (fun _ => w) (fun _ => True) 0 20 (by omega) trivial (fun c _ hc _ kk => ?_) (fun _ => ?_)
  · have kk := kk trivial
    rw [nI_succ, fd, h_bs] at kk
    generalize fd (h_bs x) 0 c = a at kk ⊢
    generalize (some (Sum.inl (fd (h_bs x) 0 20)) : Option ix_V) = res at kk ⊢
    refine Ev.to 999 rfl ?_
    refine Ev.ff (nI_ng (n := 20) hc (by omega)) ?_
    refine Ev.to 999 rfl ?_
    refine Ev.if_ (fun h => ?_) (fun h => ?_)
    · rw [if_pos ((bb1 (by omega)).mp h)] at kk
      have s4 : ∀ a, Ev m_X5_beside 4 [some (.inl x), some (.inl (a ||| h_u4 c)), some (.inl (nI c + 1))] [] w (res, w) → Ev m_X5_beside 72 [some (.inl x), some (.inl a), some (.inl (nI c))] [] w (res, w) := by
        intro a kk
        refine Ev.to 999 rfl ?_
        refine Ev.rm rfl (by decide) ?_
        refine Ev.to 999 rfl ?_
        refine Ev.if_ (fun h => ?_) (fun h => ?_)
        · rw [h_u4, if_pos h] at kk
          exact Ev.to 4 (L1 := [_, _, _]) rfl kk
        · rw [h_u4, if_neg h] at kk
          exact Ev.to 4 (L1 := [_, _, _]) rfl kk
      have s3 : ∀ a, Ev m_X5_beside 72 [some (.inl x), some (.inl (a ||| h_u3 c)), some (.inl (nI c))] [] w (res, w) → Ev m_X5_beside 54 [some (.inl x), some (.inl a), some (.inl (nI c))] [] w (res, w) := by
        intro a kk
        refine Ev.to 999 rfl ?_
        refine Ev.rm rfl (by decide) ?_
        refine Ev.to 999 rfl ?_
        refine Ev.if_ (fun h => ?_) (fun h => ?_)
        · rw [h_u3, if_pos h] at kk
          exact Ev.to 72 (L1 := [_, _, _]) rfl kk
        · rw [h_u3, if_neg h] at kk
          exact Ev.to 72 (L1 := [_, _, _]) rfl kk
      have s2 : ∀ a, Ev m_X5_beside 54 [some (.inl x), some (.inl (a ||| h_u2 c)), some (.inl (nI c))] [] w (res, w) → Ev m_X5_beside 36 [some (.inl x), some (.inl a), some (.inl (nI c))] [] w (res, w) := by
        intro a kk
        refine Ev.to 999 rfl ?_
        refine Ev.if_ (fun h => ?_) (fun h => ?_)
        · rw [h_u2, if_pos h] at kk
          exact Ev.to 54 (L1 := [_, _, _]) rfl kk
        · rw [h_u2, if_neg h] at kk
          exact Ev.to 54 (L1 := [_, _, _]) rfl kk
      refine Ev.to 999 rfl ?_
      refine Ev.if_ (fun h => ?_) (fun h => ?_)
      · refine Ev.to 36 (L1 := [_, _, _]) (st1 := []) rfl (s2 _ (s3 _ (s4 _ ?_)))
        rw [h_u1, if_pos h] at kk
        exact kk
      · refine Ev.to 36 (L1 := [_, _, _]) (st1 := []) rfl (s2 _ (s3 _ (s4 _ ?_)))
        rw [h_u1, if_neg h] at kk
        exact kk
    · rw [if_neg (fun z => h ((bb1 (by omega)).mpr z))] at kk
      exact Ev.to 4 (L1 := [_, _, _]) rfl kk
  · generalize fd (h_bs x) 0 20 = r
    refine Ev.to 999 (pc1 := 97) rfl ?_
    refine Ev.to 999 rfl ?_
    exact Ev.iret rfl rfl rfl rfl
theorem m_firstOf {m : Nat} (h : 0 < m) (hm : m < 2 ^ 31) (w : ix_W) : Cl m_X5_firstOf [.inl (nI m)] w (some (.inl (nI (lowb m)))) w := by
  have hlt := (low_dec h hm).1
  refine Ev.to 2 (L1 := [_, _]) (st1 := []) rfl ?_
  refine Ev.loop (fun c => [some (.inl (nI m)), some (.inl (nI c))]) (fun _ => w) (fun _ => True) 0 (lowb m) (Nat.zero_le _) trivial (fun c _ hc _ kk => ?_) (fun _ => ?_)
  · have kk := kk trivial
    rw [nI_succ] at kk
    refine Ev.to 999 rfl ?_
    refine Ev.tt ((bb0 (by omega)).mpr (by rw [bb_nI (by omega)]; exact lowb_no hc)) ?_
    exact Ev.to 2 (L1 := [_, _]) rfl kk
  · refine Ev.to 999 rfl ?_
    refine Ev.ff (fun z => by
      have := (bb0 (by omega)).mp z
      rw [bb_nI (by omega), lowb_bit h hm] at this
      cases this) ?_
    refine Ev.to 999 rfl ?_
    exact Ev.iret rfl rfl rfl rfl
def h_hs (x : Int32) (_ : Nat) (r : Int32) : Int32 := r ||| (h_be r &&& x)
def h_ht (m : Nat) : Bool := decide (fd (h_hs (nI m)) ((1 : Int32) <<< (nI (lowb m) &&& 31)) 20 = nI m)
theorem m_hangs {m : Nat} (h : 0 < m) (hm : m < 2 ^ 31) (w : ix_W) : Cl m_X5_hangs [.inl (nI m)] w (some (.inl (bz (h_ht m)))) w := by
  refine Ev.to 999 rfl ?_
  refine Ev.callS rfl rfl (m_firstOf h hm _) ?_
  rw [h_ht]
  refine Ev.to 9 (L1 := [_, some (.inl ((1 : Int32) <<< (nI (lowb m) &&& 31))), _]) (st1 := []) rfl ?_
  generalize (1 : Int32) <<< (nI (lowb m) &&& 31) = r0
  generalize nI m = x
  refine Ev.loop (fun i => [some (.inl x), some (.inl (fd (h_hs x) r0 i)), some (.inl (nI i))]) (fun _ => w) (fun _ => True) 0 20 (by omega) trivial (fun i _ hi _ kk => ?_) (fun _ => ?_)
  · have kk := kk trivial
    rw [nI_succ, fd, h_hs] at kk
    generalize fd (h_hs x) r0 i = r at kk ⊢
    refine Ev.to 999 rfl ?_
    refine Ev.ff (nI_ng (n := 20) hi (by omega)) ?_
    refine Ev.to 999 rfl ?_
    refine Ev.callS rfl rfl (m_beside _ _) ?_
    exact Ev.to 9 (L1 := [_, _, _]) rfl kk
  · generalize fd (h_hs x) r0 20 = r
    refine Ev.to 999 (pc1 := 30) rfl ?_
    refine Ev.to 999 rfl ?_
    refine Ev.if_ (fun h => ?_) (fun h => ?_)
    · refine Ev.to 999 rfl ?_
      exact Ev.zret rfl rfl (by rw [bz_t (decide_eq_true h)]) rfl (Or.inr rfl)
    · refine Ev.to 999 rfl ?_
      exact Ev.zret rfl rfl (by rw [bz_f (decide_eq_false h)]) rfl (Or.inl rfl)
theorem m_all {n : Nat} {c : Int32} {tb : Nat → Int32} {tl : Nat} {se on : Nat → Int32} {dd : Int32} {ch : Nat → Int32} {fs fo : Int32} {cm : Nat} {ce li ke be : Nat → Int32} (hn : n ≤ 8) : Cl m_X5_all [.inr 0] (mw n c tb tl se on dd ch fs fo cm ce li ke be) (some (.inl (fd (g_all ch) 0 n))) (mw n c tb tl se on dd ch fs fo cm ce li ke be) := by
  refine Ev.to 4 (L1 := [_, _, _]) (st1 := []) rfl ?_
  refine Ev.loop (fun j => [some (.inr 0), some (.inl (fd (g_all ch) 0 j)), some (.inl (nI j))]) (fun _ => (mw n c tb tl se on dd ch fs fo cm ce li ke be)) (fun _ => True) 0 n (Nat.zero_le n) trivial (fun j _ hj _ kk => ?_) (fun _ => ?_)
  · have kk := kk trivial
    rw [nI_succ, fd, g_all] at kk
    refine Ev.to 999 rfl ?_
    refine Ev.ff (nI_ng hj (by omega)) ?_
    refine Ev.to 999 rfl ?_
    refine Ev.ald rfl rfl (by omega) (by decide) ?_
    exact Ev.to 4 (L1 := [_, _, _]) rfl kk
  · refine Ev.to 999 rfl ?_
    refine Ev.tt (nI_gg (by omega)) ?_
    refine Ev.to 999 rfl ?_
    exact Ev.iret rfl rfl rfl rfl
def h_tog (ch : Nat → Int32) (i : Nat) (a : Int32) : Int32 := a + io (ch i)
theorem m_together {n : Nat} {c : Int32} {tb : Nat → Int32} {tl : Nat} {se on : Nat → Int32} {dd : Int32} {ch : Nat → Int32} {fs fo : Int32} {cm : Nat} {ce li ke be : Nat → Int32} (hn : n ≤ 8) : Cl m_X5_together [.inr 0] (mw n c tb tl se on dd ch fs fo cm ce li ke be) (some (.inl (fd (h_tog ch) 0 n))) (mw n c tb tl se on dd ch fs fo cm ce li ke be) := by
  refine Ev.to 4 (L1 := [_, _, _]) (st1 := []) rfl ?_
  refine Ev.loop (fun j => [some (.inr 0), some (.inl (fd (h_tog ch) 0 j)), some (.inl (nI j))]) (fun _ => (mw n c tb tl se on dd ch fs fo cm ce li ke be)) (fun _ => True) 0 n (Nat.zero_le n) trivial (fun j _ hj _ kk => ?_) (fun _ => ?_)
  · have kk := kk trivial
    rw [nI_succ, fd, h_tog] at kk
    refine Ev.to 999 rfl ?_
    refine Ev.ff (nI_ng hj (by omega)) ?_
    refine Ev.to 999 rfl ?_
    refine Ev.ald rfl rfl (by omega) (by decide) ?_
    refine Ev.callS rfl rfl (m_ones _ _) ?_
    exact Ev.to 4 (L1 := [_, _, _]) rfl kk
  · refine Ev.to 999 rfl ?_
    refine Ev.tt (nI_gg (by omega)) ?_
    refine Ev.to 999 rfl ?_
    exact Ev.iret rfl rfl rfl rfl
theorem anyB_s (p : Nat → Bool) (n : Nat) : anyB p (n + 1) = (anyB p n || p n) := by
  unfold anyB
  rw [List.range_succ, List.any_append]
  simp
theorem m_fails1 {n : Nat} {c : Int32} {tb : Nat → Int32} {tl : Nat} {se on : Nat → Int32} {dd : Int32} {ch : Nat → Int32} {fs fo : Int32} {cm : Nat} {ce li ke be : Nat → Int32} (hn : n ≤ 8) : Cl m_X5_fails [.inr 0, .inl 1] (mw n c tb tl se on dd ch fs fo cm ce li ke be) (some (.inl (bz (anyB (g_p1 ch) n)))) (mw n c tb tl se on dd ch fs fo cm ce li ke be) := by
  refine Ev.to 4 (L1 := [_, _, _, _, _]) (st1 := []) rfl ?_
  refine Ev.loop (fun i => [some (.inr 0), some (.inl 1), some (.inl (bz (anyB (g_p1 ch) i))), some (.inl (nI i)), none]) (fun _ => (mw n c tb tl se on dd ch fs fo cm ce li ke be)) (fun _ => True) 0 n (Nat.zero_le n) trivial (fun i _ hi _ kk => ?_) (fun _ => ?_)
  · have kk := kk trivial
    rw [nI_succ, anyB_s] at kk
    generalize anyB (g_p1 ch) i = b at kk ⊢
    have J : ∀ v, (b || g_p1 ch i) = v → Ev m_X5_fails 52 [some (.inr 0), some (.inl 1), some (.inl (bz b)), some (.inl (nI i)), none] [.inl (bz v)] (mw n c tb tl se on dd ch fs fo cm ce li ke be) (some (.inl (bz (anyB (g_p1 ch) n))), (mw n c tb tl se on dd ch fs fo cm ce li ke be)) := by
      intro v hv
      rw [hv] at kk
      refine Ev.to 999 (L1 := [_, _, _, _, _]) rfl ?_
      refine Ev.if_ (fun h => ?_) (fun h => ?_)
      · exact Ev.to 4 (L1 := [_, _, _, _, _]) rfl (Ev.fg kk (le_cc (le_cc (le_cc (le_cc (le_nc le_nil))))))
      · refine Ev.to 999 (pc1 := 118) rfl ?_
        exact Ev.to 4 (L1 := [_, _, _, _, _]) rfl (Ev.fg kk (le_cc (le_cc (le_cc (le_cc (le_nc le_nil))))))
    refine Ev.to 999 rfl ?_
    refine Ev.ff (nI_ng hi (by omega)) ?_
    refine Ev.to 999 rfl ?_
    refine Ev.on (fun hb => ?_) (fun hb => ?_)
    · subst hb
      refine Ev.to 999 (pc1 := 21) rfl ?_
      refine Ev.to 999 rfl ?_
      refine Ev.ald rfl rfl (by omega) (by decide) ?_
      refine Ev.to 999 rfl ?_
      refine Ev.if_ (fun h => ?_) (fun h => ?_)
      · exact Ev.to 52 rfl (J true (by rw [g_p1, decide_eq_true h]; rfl))
      · refine Ev.to 999 (pc1 := 51) rfl ?_
        exact Ev.to 52 rfl (J false (by rw [g_p1, decide_eq_false h]; rfl))
    · subst hb
      exact Ev.to 52 rfl (J true rfl)
  · refine Ev.to 999 rfl ?_
    refine Ev.tt (nI_gg (by omega)) ?_
    refine Ev.to 999 rfl ?_
    exact Ev.zret rfl rfl rfl rfl (bz_01 _)
def h_p4 (mm : Nat → Nat) (i : Nat) : Bool := !h_ht (mm i)
theorem m_fails4 {n : Nat} {c : Int32} {tb : Nat → Int32} {tl : Nat} {se on : Nat → Int32} {dd : Int32} {ch : Nat → Int32} {fs fo : Int32} {cm : Nat} {ce li ke be : Nat → Int32} (hn : n ≤ 8) {mm : Nat → Nat} (hm : ∀ i, i < n → ch i = nI (mm i) ∧ 0 < mm i ∧ mm i < 2 ^ 31) : Cl m_X5_fails [.inr 0, .inl 4] (mw n c tb tl se on dd ch fs fo cm ce li ke be) (some (.inl (bz (anyB (h_p4 mm) n)))) (mw n c tb tl se on dd ch fs fo cm ce li ke be) := by
  refine Ev.to 4 (L1 := [_, _, _, _, _]) (st1 := []) rfl ?_
  refine Ev.loop (fun i => [some (.inr 0), some (.inl 4), some (.inl (bz (anyB (h_p4 mm) i))), some (.inl (nI i)), none]) (fun _ => (mw n c tb tl se on dd ch fs fo cm ce li ke be)) (fun _ => True) 0 n (Nat.zero_le n) trivial (fun i _ hi _ kk => ?_) (fun _ => ?_)
  · have kk := kk trivial
    obtain ⟨q1, q2, q3⟩ := hm i hi
    rw [nI_succ, anyB_s] at kk
    generalize anyB (h_p4 mm) i = b at kk ⊢
    have J : ∀ v, (b || h_p4 mm i) = v → Ev m_X5_fails 52 [some (.inr 0), some (.inl 4), some (.inl (bz b)), some (.inl (nI i)), none] [.inl (bz v)] (mw n c tb tl se on dd ch fs fo cm ce li ke be) (some (.inl (bz (anyB (h_p4 mm) n))), (mw n c tb tl se on dd ch fs fo cm ce li ke be)) := by
      intro v hv
      rw [hv] at kk
      refine Ev.to 999 (L1 := [_, _, _, _, _]) rfl ?_
      refine Ev.if_ (fun h => ?_) (fun h => ?_)
      · exact Ev.to 4 (L1 := [_, _, _, _, _]) rfl (Ev.fg kk (le_cc (le_cc (le_cc (le_cc (le_nc le_nil))))))
      · refine Ev.to 999 (pc1 := 118) rfl ?_
        exact Ev.to 4 (L1 := [_, _, _, _, _]) rfl (Ev.fg kk (le_cc (le_cc (le_cc (le_cc (le_nc le_nil))))))
    refine Ev.to 999 rfl ?_
    refine Ev.ff (nI_ng hi (by omega)) ?_
    refine Ev.to 999 rfl ?_
    refine Ev.on (fun hb => ?_) (fun hb => ?_)
    · subst hb
      refine Ev.to 999 (pc1 := 30) rfl ?_
      refine Ev.to 999 (pc1 := 35) rfl ?_
      refine Ev.to 999 rfl ?_
      refine Ev.ald rfl rfl (by omega) (by decide) ?_
      rw [q1]
      refine Ev.callS (rest := []) rfl rfl (m_hangs q2 q3 _) ?_
      refine Ev.to 999 rfl ?_
      refine Ev.on (fun h => ?_) (fun h => ?_)
      · exact Ev.to 52 rfl (J true (by rw [h_p4, h]; rfl))
      · exact Ev.to 52 rfl (J false (by rw [h_p4, h]; rfl))
    · subst hb
      exact Ev.to 52 rfl (J true rfl)
  · refine Ev.to 999 rfl ?_
    refine Ev.tt (nI_gg (by omega)) ?_
    refine Ev.to 999 rfl ?_
    exact Ev.zret rfl rfl rfl rfl (bz_01 _)
def h_p5i (tb ch : Nat → Int32) (i j : Nat) : Bool := decide (¬ tb (8 * i + j) = 0 ∧ h_be (ch i) &&& ch j = 0)
def h_p5 (tb ch : Nat → Int32) (i : Nat) : Bool := anyB (h_p5i tb ch i) i
theorem m_fails5 {n : Nat} {c : Int32} {tb : Nat → Int32} {tl : Nat} {se on : Nat → Int32} {dd : Int32} {ch : Nat → Int32} {fs fo : Int32} {cm : Nat} {ce li ke be : Nat → Int32} (hn : n ≤ 8) : Cl m_X5_fails [.inr 0, .inl 5] (mw n c tb tl se on dd ch fs fo cm ce li ke be) (some (.inl (bz (anyB (h_p5 tb ch) n)))) (mw n c tb tl se on dd ch fs fo cm ce li ke be) := by
  refine Ev.to 4 (L1 := [_, _, _, _, _]) (st1 := []) rfl ?_
  refine Ev.loop (fun i => [some (.inr 0), some (.inl 5), some (.inl (bz (anyB (h_p5 tb ch) i))), some (.inl (nI i)), none]) (fun _ => (mw n c tb tl se on dd ch fs fo cm ce li ke be)) (fun _ => True) 0 n (Nat.zero_le n) trivial (fun i _ hi _ kk => ?_) (fun _ => ?_)
  · have kk := kk trivial
    rw [nI_succ, anyB_s, h_p5] at kk
    generalize anyB (h_p5 tb ch) i = b at kk ⊢
    generalize (some (Sum.inl (bz (anyB (h_p5 tb ch) n))) : Option ix_V) = res at kk ⊢
    have J : Ev m_X5_fails 52 [some (.inr 0), some (.inl 5), some (.inl (bz b)), some (.inl (nI i)), none] [.inl (bz b)] (mw n c tb tl se on dd ch fs fo cm ce li ke be) (res, (mw n c tb tl se on dd ch fs fo cm ce li ke be)) := by
      refine Ev.to 56 (L1 := [_, _, _, _, _]) (st1 := []) rfl ?_
      show Ev _ _ [_, _, some (.inl (bz b)), _, some (.inl 0)] _ _ _
      rw [show bz b = bz (b || anyB (h_p5i tb ch i) 0) by cases b <;> rfl]
      refine Ev.loop (fun j => [some (.inr 0), some (.inl 5), some (.inl (bz (b || anyB (h_p5i tb ch i) j))), some (.inl (nI i)), some (.inl (nI j))]) (fun _ => (mw n c tb tl se on dd ch fs fo cm ce li ke be)) (fun _ => True) 0 i (Nat.zero_le i) trivial (fun j _ hj _ k2 => ?_) (fun _ => ?_)
      · have k2 := k2 trivial
        rw [nI_succ, anyB_s, ← Bool.or_assoc] at k2
        generalize (b || anyB (h_p5i tb ch i) j) = b2 at k2 ⊢
        have K : ∀ v, (b2 || h_p5i tb ch i j) = v → Ev m_X5_fails 111 [some (.inr 0), some (.inl 5), some (.inl (bz b2)), some (.inl (nI i)), some (.inl (nI j))] [.inl (bz v)] (mw n c tb tl se on dd ch fs fo cm ce li ke be) (res, (mw n c tb tl se on dd ch fs fo cm ce li ke be)) := by
          intro v hv
          rw [hv] at k2
          exact Ev.to 56 (L1 := [_, _, _, _, _]) rfl k2
        refine Ev.to 999 rfl ?_
        refine Ev.ff (nI_ng hj (by omega)) ?_
        refine Ev.to 999 (pc1 := 67) rfl ?_
        refine Ev.to 999 rfl ?_
        refine Ev.on (fun hb => ?_) (fun hb => ?_)
        · subst hb
          refine Ev.to 999 rfl ?_
          refine Ev.aldE (8 * i + j) (ni8' i j) rfl rfl (by omega) (by decide) ?_
          refine Ev.to 999 rfl ?_
          refine Ev.if_ (fun h => ?_) (fun h => ?_)
          · exact Ev.to 111 rfl (K false (by rw [h_p5i, decide_eq_false (fun q => q.1 h)]; rfl))
          · refine Ev.to 999 rfl ?_
            refine Ev.ald rfl rfl (by omega) (by decide) ?_
            refine Ev.callS rfl rfl (m_beside _ _) ?_
            refine Ev.to 999 rfl ?_
            refine Ev.ald rfl rfl (by omega) (by decide) ?_
            refine Ev.to 999 rfl ?_
            refine Ev.if_ (fun h2 => ?_) (fun h2 => ?_)
            · exact Ev.to 111 rfl (K true (by rw [h_p5i, decide_eq_true ⟨h, h2⟩]; rfl))
            · exact Ev.to 111 rfl (K false (by rw [h_p5i, decide_eq_false (fun q => h2 q.2)]; rfl))
        · subst hb
          exact Ev.to 111 rfl (K true rfl)
      · refine Ev.to 999 rfl ?_
        refine Ev.tt (nI_gg (by omega)) ?_
        exact Ev.to 4 (L1 := [_, _, _, _, _]) rfl (Ev.fg kk (le_cc (le_cc (le_cc (le_cc (le_nc le_nil))))))
    refine Ev.to 999 rfl ?_
    refine Ev.ff (nI_ng hi (by omega)) ?_
    refine Ev.to 999 rfl ?_
    refine Ev.on (fun hb => ?_) (fun hb => ?_)
    · subst hb
      refine Ev.to 999 (pc1 := 30) rfl ?_
      refine Ev.to 999 (pc1 := 51) rfl ?_
      exact Ev.to 52 rfl J
    · subst hb
      exact Ev.to 52 rfl J
  · refine Ev.to 999 rfl ?_
    refine Ev.tt (nI_gg (by omega)) ?_
    refine Ev.to 999 rfl ?_
    exact Ev.zret rfl rfl rfl rfl (bz_01 _)
def h_ff (n : Nat) (tb ch : Nat → Int32) (dd : Int32) (mm : Nat → Nat) : Int32 := if anyB (g_p1 ch) n = true then 1 else if ¬ fd (g_all ch) 0 n &&& dd = 0 then 2 else if ¬ fd (h_tog ch) 0 n = io (fd (g_all ch) 0 n) then 3 else if anyB (h_p4 mm) n = true then 4 else if anyB (h_p5 tb ch) n = true then 5 else if fd (h_tog ch) 0 n ≤ 14 then 0 else 6
theorem m_stands {n : Nat} {c : Int32} {tb : Nat → Int32} {tl : Nat} {se on : Nat → Int32} {dd : Int32} {ch : Nat → Int32} {fs fo : Int32} {cm : Nat} {ce li ke be : Nat → Int32} (hn : n ≤ 8) {mm : Nat → Nat} (hm : ∀ i, i < n → ch i = nI (mm i) ∧ mm i < 2 ^ 31) : Cl m_X5_stands [.inr 0] (mw n c tb tl se on dd ch fs fo cm ce li ke be) (some (.inl (h_ff n tb ch dd mm))) (mw n c tb tl se on dd ch fs fo cm ce li ke be) := by
  rw [h_ff]
  refine Ev.to 999 rfl ?_
  refine Ev.callV (rest := []) rfl rfl (m_fails1 hn) ?_
  refine Ev.to 999 rfl ?_
  refine Ev.on (fun h1 => ?_) (fun h1 => ?_)
  · rw [if_neg (by rw [h1]; decide)]
    have hm2 : ∀ i, i < n → ch i = nI (mm i) ∧ 0 < mm i ∧ mm i < 2 ^ 31 := by
      intro i hi
      obtain ⟨a1, a2⟩ := hm i hi
      refine ⟨a1, ?_, a2⟩
      rcases Nat.eq_zero_or_pos (mm i) with z | z
      · have : anyB (g_p1 ch) n = true := anyB_t hi (decide_eq_true (by rw [a1, z]; rfl))
        rw [h1] at this; cases this
      · exact z
    refine Ev.to 999 rfl ?_
    refine Ev.callV rfl rfl (m_all hn) ?_
    refine Ev.to 999 rfl ?_
    refine Ev.if_ (fun h2 => ?_) (fun h2 => ?_)
    · rw [if_neg (fun q => q h2)]
      refine Ev.to 999 rfl ?_
      refine Ev.callV rfl rfl (m_together hn) ?_
      refine Ev.to 999 rfl ?_
      refine Ev.callV rfl rfl (m_all hn) ?_
      refine Ev.callS rfl rfl (m_ones _ _) ?_
      refine Ev.to 999 rfl ?_
      refine Ev.if_ (fun h3 => ?_) (fun h3 => ?_)
      · rw [if_neg (fun q => q h3)]
        refine Ev.to 999 rfl ?_
        refine Ev.callV (rest := []) rfl rfl (m_fails4 hn hm2) ?_
        refine Ev.to 999 rfl ?_
        refine Ev.on (fun h4 => ?_) (fun h4 => ?_)
        · rw [if_neg (by rw [h4]; decide)]
          refine Ev.to 999 rfl ?_
          refine Ev.callV (rest := []) rfl rfl (m_fails5 hn) ?_
          refine Ev.to 999 rfl ?_
          refine Ev.on (fun h5 => ?_) (fun h5 => ?_)
          · rw [if_neg (by rw [h5]; decide)]
            refine Ev.to 999 rfl ?_
            refine Ev.callV rfl rfl (m_together hn) ?_
            refine Ev.to 999 rfl ?_
            refine Ev.if_ (fun h6 => ?_) (fun h6 => ?_)
            · refine Ev.to 999 rfl ?_
              exact Ev.iret rfl rfl (by rw [if_pos h6]) rfl
            · refine Ev.to 999 rfl ?_
              exact Ev.iret rfl rfl (by rw [if_neg h6]) rfl
          · rw [if_pos h5]
            refine Ev.to 999 rfl ?_
            exact Ev.iret rfl rfl rfl rfl
        · rw [if_pos h4]
          refine Ev.to 999 rfl ?_
          exact Ev.iret rfl rfl rfl rfl
      · rw [if_pos h3]
        refine Ev.to 999 rfl ?_
        exact Ev.iret rfl rfl rfl rfl
    · rw [if_pos h2]
      refine Ev.to 999 rfl ?_
      exact Ev.iret rfl rfl rfl rfl
  · rw [if_pos h1]
    refine Ev.to 999 rfl ?_
    exact Ev.iret rfl rfl rfl rfl
end
section
/-! the reference: links, readBack, strong -/
theorem m_linkOf0 {n : Nat} {c : Int32} {tb : Nat → Int32} {tl : Nat} {se on : Nat → Int32} {dd : Int32} {ch : Nat → Int32} {fs fo : Int32} {cm : Nat} {ce li ke be : Nat → Int32} {a b m1 : Nat} (ha : a < 8) (hb : b < 8) (h1 : h_be (ch b) &&& ch a = nI m1) (p1 : 0 < m1) (q1 : m1 < 2 ^ 31) : Cl m_X5_linkOf [.inr 0, .inl (nI a), .inl (nI b), .inl 0] (mw n c tb tl se on dd ch fs fo cm ce li ke be) (some (.inl (nI (lowb m1)))) (mw n c tb tl se on dd ch fs fo cm ce li ke be) := by
  refine Ev.to 999 rfl ?_
  refine Ev.ald rfl rfl hb (by decide) ?_
  refine Ev.callS rfl rfl (m_beside _ _) ?_
  refine Ev.to 999 rfl ?_
  refine Ev.ald rfl rfl ha (by decide) ?_
  refine Ev.to 999 rfl ?_
  refine Ev.callS rfl rfl (Cl.eq (m_firstOf p1 q1 _) (by rw [← h1]; rfl) rfl) ?_
  refine Ev.to 999 (L1 := [_, _, _, _, _]) (pc1 := 25) rfl ?_
  refine Ev.to 999 rfl ?_
  exact Ev.iret rfl rfl rfl rfl
theorem m_linkOf1 {n : Nat} {c : Int32} {tb : Nat → Int32} {tl : Nat} {se on : Nat → Int32} {dd : Int32} {ch : Nat → Int32} {fs fo : Int32} {cm : Nat} {ce li ke be : Nat → Int32} {a b m1 m2 : Nat} {x : Int32} (hx : ¬ x = 0) (ha : a < 8) (hb : b < 8) (h1 : h_be (ch b) &&& ch a = nI m1) (p1 : 0 < m1) (q1 : m1 < 2 ^ 31) (h2 : h_be ((1 : Int32) <<< (nI (lowb m1) &&& 31)) &&& ch b = nI m2) (p2 : 0 < m2) (q2 : m2 < 2 ^ 31) : Cl m_X5_linkOf [.inr 0, .inl (nI a), .inl (nI b), .inl x] (mw n c tb tl se on dd ch fs fo cm ce li ke be) (some (.inl (nI (lowb m2)))) (mw n c tb tl se on dd ch fs fo cm ce li ke be) := by
  refine Ev.to 999 rfl ?_
  refine Ev.ald rfl rfl hb (by decide) ?_
  refine Ev.callS rfl rfl (m_beside _ _) ?_
  refine Ev.to 999 rfl ?_
  refine Ev.ald rfl rfl ha (by decide) ?_
  refine Ev.to 999 rfl ?_
  refine Ev.callS rfl rfl (Cl.eq (m_firstOf p1 q1 _) (by rw [← h1]; rfl) rfl) ?_
  refine Ev.to 999 (L1 := [_, _, _, _, _]) rfl ?_
  refine Ev.ff hx ?_
  refine Ev.to 999 rfl ?_
  refine Ev.callS rfl rfl (m_beside _ _) ?_
  refine Ev.to 999 rfl ?_
  refine Ev.ald rfl rfl hb (by decide) ?_
  refine Ev.to 999 rfl ?_
  refine Ev.callS rfl rfl (Cl.eq (m_firstOf p2 q2 _) (by rw [← h2]; rfl) rfl) ?_
  exact Ev.iret rfl rfl rfl rfl
theorem m_link_bad {n : Nat} {c : Int32} {tb : Nat → Int32} {tl : Nat} {se on : Nat → Int32} {dd : Int32} {ch : Nat → Int32} {fs fo : Int32} {cm : Nat} {ce li ke be : Nat → Int32} {i j x : Int32} (h : inw i 0 (nI n - 1) = false ∨ inw j 0 (nI n - 1) = false ∨ i = j ∨ inw x 0 1 = false) : Cl m_X5_link [.inr 0, .inl i, .inl j, .inl x] (mw n c tb tl se on dd ch fs fo cm ce li ke be) (some (.inl (-2))) (mw n c tb tl se on dd ch fs fo cm ce li ke be) := by
  have no : Ev m_X5_link 30 [some (.inr 0), some (.inl i), some (.inl j), some (.inl x)] [] (mw n c tb tl se on dd ch fs fo cm ce li ke be) (some (.inl (-2)), (mw n c tb tl se on dd ch fs fo cm ce li ke be)) := by
    refine Ev.to 999 rfl ?_
    exact Ev.iret rfl rfl rfl rfl
  refine Ev.to 999 rfl ?_
  refine Ev.callV (rest := []) rfl rfl (m_isLetter _) ?_
  refine Ev.to 999 rfl ?_
  refine Ev.on (fun _ => no) (fun h1 => ?_)
  refine Ev.to 999 rfl ?_
  refine Ev.callV (rest := []) rfl rfl (m_isLetter _) ?_
  refine Ev.to 999 rfl ?_
  refine Ev.on (fun _ => no) (fun h2 => ?_)
  refine Ev.to 999 rfl ?_
  refine Ev.if_ (fun _ => no) (fun h3 => ?_)
  refine Ev.to 999 rfl ?_
  refine Ev.callS (rest := []) rfl rfl (m_in _ _ _ _) ?_
  refine Ev.to 999 rfl ?_
  refine Ev.on (fun _ => no) (fun h4 => ?_)
  rw [h1, h2, h4] at h
  rcases h with h | h | h | h
  · cases h
  · cases h
  · exact absurd h h3
  · cases h
theorem m_link_go {n : Nat} {c : Int32} {tb : Nat → Int32} {tl : Nat} {se on : Nat → Int32} {dd : Int32} {ch : Nat → Int32} {fs fo : Int32} {cm : Nat} {ce li ke be : Nat → Int32} {a b : Nat} {x : Int32} (h1 : inw (nI a) 0 (nI n - 1) = true) (h2 : inw (nI b) 0 (nI n - 1) = true) (h3 : ¬ nI a = nI b) (h4 : inw x 0 1 = true) {y : Option ix_V × ix_W} (kk : Ev m_X5_link 33 [some (.inr 0), some (.inl (nI a)), some (.inl (nI b)), some (.inl x)] [] (mw n c tb tl se on dd ch fs fo cm ce li ke be) y) : Ev m_X5_link 0 (ix_en m_X5_link [.inr 0, .inl (nI a), .inl (nI b), .inl x]) [] (mw n c tb tl se on dd ch fs fo cm ce li ke be) y := by
  refine Ev.to 999 rfl ?_
  refine Ev.callV (rest := []) rfl rfl (m_isLetter _) ?_
  refine Ev.to 999 rfl ?_
  refine Ev.ff (by rw [bz_t h1]; decide) ?_
  refine Ev.to 999 rfl ?_
  refine Ev.callV (rest := []) rfl rfl (m_isLetter _) ?_
  refine Ev.to 999 rfl ?_
  refine Ev.ff (by rw [bz_t h2]; decide) ?_
  refine Ev.to 999 rfl ?_
  refine Ev.ff h3 ?_
  refine Ev.to 999 rfl ?_
  refine Ev.callS (rest := []) rfl rfl (m_in _ _ _ _) ?_
  refine Ev.to 999 rfl ?_
  refine Ev.ff (by rw [bz_t h4]; decide) ?_
  exact kk
theorem m_link_not {n : Nat} {c : Int32} {tb : Nat → Int32} {tl : Nat} {se on : Nat → Int32} {dd : Int32} {ch : Nat → Int32} {fs fo : Int32} {cm : Nat} {ce li ke be : Nat → Int32} (hn : n ≤ 8) {mm : Nat → Nat} (hm : ∀ i, i < n → ch i = nI (mm i) ∧ mm i < 2 ^ 31) {a b : Nat} {x : Int32} (ha : a < 8) (hb : b < 8) (h1 : inw (nI a) 0 (nI n - 1) = true) (h2 : inw (nI b) 0 (nI n - 1) = true) (h3 : ¬ nI a = nI b) (h4 : inw x 0 1 = true) (h : tb (8 * a + b) = 0 ∨ ¬ h_ff n tb ch dd mm = 0) : Cl m_X5_link [.inr 0, .inl (nI a), .inl (nI b), .inl x] (mw n c tb tl se on dd ch fs fo cm ce li ke be) (some (.inl (-3))) (mw n c tb tl se on dd ch fs fo cm ce li ke be) := by
  refine m_link_go h1 h2 h3 h4 ?_
  have no : Ev m_X5_link 54 [some (.inr 0), some (.inl (nI a)), some (.inl (nI b)), some (.inl x)] [] (mw n c tb tl se on dd ch fs fo cm ce li ke be) (some (.inl (-3)), (mw n c tb tl se on dd ch fs fo cm ce li ke be)) := by
    refine Ev.to 999 rfl ?_
    exact Ev.iret rfl rfl rfl rfl
  refine Ev.to 999 rfl ?_
  refine Ev.callV (rest := []) rfl rfl (m_stands hn hm) ?_
  refine Ev.to 999 rfl ?_
  refine Ev.if_ (fun h6 => ?_) (fun _ => no)
  refine Ev.to 999 rfl ?_
  refine Ev.aldE (8 * a + b) (ni8' a b) rfl rfl (by omega) (by decide) ?_
  refine Ev.to 999 rfl ?_
  refine Ev.if_ (fun _ => no) (fun h5 => ?_)
  rcases h with h | h
  · exact absurd h h5
  · exact absurd h6 h
theorem m_link {n : Nat} {c : Int32} {tb : Nat → Int32} {tl : Nat} {se on : Nat → Int32} {dd : Int32} {ch : Nat → Int32} {fs fo : Int32} {cm : Nat} {ce li ke be : Nat → Int32} (hn : n ≤ 8) {mm : Nat → Nat} (hm : ∀ i, i < n → ch i = nI (mm i) ∧ mm i < 2 ^ 31) {a b : Nat} {x r : Int32} (ha : a < 8) (hb : b < 8) (h1 : inw (nI a) 0 (nI n - 1) = true) (h2 : inw (nI b) 0 (nI n - 1) = true) (h3 : ¬ nI a = nI b) (h4 : inw x 0 1 = true) (h5 : ¬ tb (8 * a + b) = 0) (h6 : h_ff n tb ch dd mm = 0) (hl : Cl m_X5_linkOf [.inr 0, .inl (nI (min a b)), .inl (nI (max a b)), .inl x] (mw n c tb tl se on dd ch fs fo cm ce li ke be) (some (.inl r)) (mw n c tb tl se on dd ch fs fo cm ce li ke be)) : Cl m_X5_link [.inr 0, .inl (nI a), .inl (nI b), .inl x] (mw n c tb tl se on dd ch fs fo cm ce li ke be) (some (.inl r)) (mw n c tb tl se on dd ch fs fo cm ce li ke be) := by
  refine m_link_go h1 h2 h3 h4 ?_
  refine Ev.to 999 rfl ?_
  refine Ev.callV (rest := []) rfl rfl (m_stands hn hm) ?_
  refine Ev.to 999 rfl ?_
  refine Ev.tt h6 ?_
  refine Ev.to 999 rfl ?_
  refine Ev.aldE (8 * a + b) (ni8' a b) rfl rfl (by omega) (by decide) ?_
  refine Ev.to 999 rfl ?_
  refine Ev.ff h5 ?_
  refine Ev.to 999 rfl ?_
  refine Ev.if_ (fun h => ?_) (fun h => ?_)
  · have hab : b ≤ a := (nI_leI (by omega) (by omega)).mp h
    rw [Nat.min_eq_right hab, Nat.max_eq_left hab] at hl
    refine Ev.to 999 rfl ?_
    refine Ev.tt h ?_
    refine Ev.to 999 rfl ?_
    refine Ev.callV (rest := []) rfl rfl hl ?_
    exact Ev.iret rfl rfl rfl rfl
  · have hab : ¬ b ≤ a := fun z => h ((nI_leI (by omega) (by omega)).mpr z)
    rw [Nat.min_eq_left (by omega), Nat.max_eq_right (by omega)] at hl
    refine Ev.to 999 rfl ?_
    refine Ev.ff h ?_
    refine Ev.to 999 rfl ?_
    refine Ev.callV (rest := []) rfl rfl hl ?_
    exact Ev.iret rfl rfl rfl rfl
/-! readBack -/
theorem m_readBack_bad {n : Nat} {c : Int32} {tb : Nat → Int32} {tl : Nat} {se on : Nat → Int32} {dd : Int32} {ch : Nat → Int32} {fs fo : Int32} {cm : Nat} {ce li ke be : Nat → Int32} (hn : n ≤ 8) {x : Int32} (h : ¬ x &&& (fd (g_all ch) 0 n ^^^ (-1)) = 0) : Cl m_X5_readBack [.inr 0, .inl x] (mw n c tb tl se on dd ch fs fo cm ce li ke be) (some (.inl (-2))) (mw n c tb tl se on dd ch fs fo cm ce li ke be) := by
  refine Ev.to 999 rfl ?_
  refine Ev.callV rfl rfl (m_all hn) ?_
  refine Ev.to 999 rfl ?_
  refine Ev.ff h ?_
  refine Ev.to 999 rfl ?_
  exact Ev.iret rfl rfl rfl rfl
theorem m_readBack_not {n : Nat} {c : Int32} {tb : Nat → Int32} {tl : Nat} {se on : Nat → Int32} {dd : Int32} {ch : Nat → Int32} {fs fo : Int32} {cm : Nat} {ce li ke be : Nat → Int32} (hn : n ≤ 8) {mm : Nat → Nat} (hm : ∀ i, i < n → ch i = nI (mm i) ∧ mm i < 2 ^ 31) {x : Int32} (h : x &&& (fd (g_all ch) 0 n ^^^ (-1)) = 0) (h2 : ¬ h_ff n tb ch dd mm = 0) : Cl m_X5_readBack [.inr 0, .inl x] (mw n c tb tl se on dd ch fs fo cm ce li ke be) (some (.inl (-3))) (mw n c tb tl se on dd ch fs fo cm ce li ke be) := by
  refine Ev.to 999 rfl ?_
  refine Ev.callV rfl rfl (m_all hn) ?_
  refine Ev.to 999 rfl ?_
  refine Ev.tt h ?_
  refine Ev.to 999 rfl ?_
  refine Ev.callV (rest := []) rfl rfl (m_stands hn hm) ?_
  refine Ev.to 999 rfl ?_
  refine Ev.ff h2 ?_
  refine Ev.to 999 rfl ?_
  exact Ev.iret rfl rfl rfl rfl
def h_ri (y x : Int32) (m : Nat) : Bool := decide (0 < 2 * io (x &&& y) - io y ∨ (2 * io (x &&& y) - io y = 0 ∧ bb x (lowb m) = true))
def h_rb (ch : Nat → Int32) (mm : Nat → Nat) (x : Int32) (i : Nat) (a : Int32) : Int32 := a ||| (if h_ri (ch i) x (mm i) = true then (1 : Int32) <<< (nI i &&& 31) else 0)
theorem m_readBack {n : Nat} {c : Int32} {tb : Nat → Int32} {tl : Nat} {se on : Nat → Int32} {dd : Int32} {ch : Nat → Int32} {fs fo : Int32} {cm : Nat} {ce li ke be : Nat → Int32} (hn : n ≤ 8) {mm : Nat → Nat} (hm : ∀ i, i < n → ch i = nI (mm i) ∧ mm i < 2 ^ 31) (hpos : ∀ i, i < n → 0 < mm i) {x : Int32} (h : x &&& (fd (g_all ch) 0 n ^^^ (-1)) = 0) (h2 : h_ff n tb ch dd mm = 0) : Cl m_X5_readBack [.inr 0, .inl x] (mw n c tb tl se on dd ch fs fo cm ce li ke be) (some (.inl (fd (h_rb ch mm x) 0 n))) (mw n c tb tl se on dd ch fs fo cm ce li ke be) := by
  refine Ev.to 999 rfl ?_
  refine Ev.callV rfl rfl (m_all hn) ?_
  refine Ev.to 999 rfl ?_
  refine Ev.tt h ?_
  refine Ev.to 999 rfl ?_
  refine Ev.callV (rest := []) rfl rfl (m_stands hn hm) ?_
  refine Ev.to 999 rfl ?_
  refine Ev.tt h2 ?_
  refine Ev.to 28 (L1 := [_, _, _, _, _, _, _]) (st1 := []) rfl ?_
  refine Ev.loop (fun i => [some (.inr 0), some (.inl x), some (.inl (fd (h_rb ch mm x) 0 i)), some (.inl (nI i)), none, none, none]) (fun _ => (mw n c tb tl se on dd ch fs fo cm ce li ke be)) (fun _ => True) 0 n (Nat.zero_le n) trivial (fun i _ hi _ kk => ?_) (fun _ => ?_)
  · have kk := kk trivial
    obtain ⟨c1, c2⟩ := hm i hi
    have c3 := hpos i hi
    have c4 := (low_dec c3 c2).1
    rw [nI_succ, fd, h_rb, h_ri] at kk
    generalize fd (h_rb ch mm x) 0 i = a at kk ⊢
    generalize (some (Sum.inl (fd (h_rb ch mm x) 0 n)) : Option ix_V) = res at kk ⊢
    refine Ev.to 999 rfl ?_
    refine Ev.ff (nI_ng hi (by omega)) ?_
    refine Ev.to 999 rfl ?_
    refine Ev.ald rfl rfl (by omega) (by decide) ?_
    refine Ev.to 999 rfl ?_
    refine Ev.callS rfl rfl (m_ones _ _) ?_
    refine Ev.to 999 (L1 := [_, _, _, _, _, _, _]) rfl ?_
    refine Ev.ald rfl rfl (by omega) (by decide) ?_
    refine Ev.callS rfl rfl (m_ones _ _) ?_
    refine Ev.to 65 (L1 := [_, _, _, _, some (.inl (io (x &&& ch i))), some (.inl (2 * io (x &&& ch i) - io (ch i))), _]) (st1 := []) rfl ?_
    generalize 2 * io (x &&& ch i) - io (ch i) = y at kk ⊢
    have J : ∀ b : Bool, decide (0 < y ∨ (y = 0 ∧ bb x (lowb (mm i)) = true)) = b → Ev m_X5_readBack 97 [some (.inr 0), some (.inl x), some (.inl a), some (.inl (nI i)), some (.inl (io (x &&& ch i))), some (.inl y), none] [.inl (bz b)] (mw n c tb tl se on dd ch fs fo cm ce li ke be) (res, (mw n c tb tl se on dd ch fs fo cm ce li ke be)) := by
      intro b hb
      rw [hb] at kk
      refine Ev.to 999 (L1 := [_, _, _, _, _, _, _]) rfl ?_
      refine Ev.on (fun h => ?_) (fun h => ?_)
      · rw [if_neg (by rw [h]; decide)] at kk
        exact Ev.to 28 (L1 := [_, _, _, _, _, _, _]) rfl (Ev.fg kk (le_cc (le_cc (le_cc (le_cc (le_nc (le_nc (le_nc le_nil))))))))
      · rw [if_pos h] at kk
        exact Ev.to 28 (L1 := [_, _, _, _, _, _, _]) rfl (Ev.fg kk (le_cc (le_cc (le_cc (le_cc (le_nc (le_nc (le_nc le_nil))))))))
    refine Ev.to 999 rfl ?_
    refine Ev.if_ (fun h => ?_) (fun h => ?_)
    · exact Ev.to 97 rfl (J true (decide_eq_true (Or.inl h)))
    · refine Ev.to 999 rfl ?_
      refine Ev.if_ (fun h5 => ?_) (fun h5 => ?_)
      · refine Ev.to 999 rfl ?_
        refine Ev.ald rfl rfl (by omega) (by decide) ?_
        refine Ev.callS rfl rfl (Cl.eq (m_firstOf c3 c2 _) (by rw [← c1]; rfl) rfl) ?_
        refine Ev.to 999 rfl ?_
        refine Ev.if_ (fun h6 => ?_) (fun h6 => ?_)
        · exact Ev.to 97 rfl (J true (decide_eq_true (Or.inr ⟨h5, (bb1 (by omega)).mp h6⟩)))
        · exact Ev.to 97 rfl (J false (decide_eq_false (fun q => q.elim h (fun z => h6 ((bb1 (by omega)).mpr z.2)))))
      · exact Ev.to 97 rfl (J false (decide_eq_false (fun q => q.elim h (fun z => h5 z.1))))
  · refine Ev.to 999 rfl ?_
    refine Ev.tt (nI_gg (by omega)) ?_
    refine Ev.to 999 rfl ?_
    exact Ev.iret rfl rfl rfl rfl
/-! strong -/
def h_sp (ce : Nat → Int32) (s : Int32) (k : Nat) (a : Int32) : Int32 := a ||| (bz (bb s k) <<< (ce k &&& 31))
theorem m_spread {n : Nat} {c : Int32} {tb : Nat → Int32} {tl : Nat} {se on : Nat → Int32} {dd : Int32} {ch : Nat → Int32} {fs fo : Int32} {cm : Nat} {ce li ke be : Nat → Int32} (hc : cm ≤ 14) (s : Int32) : Cl m_X5_spread [.inr 0, .inl s] (mw n c tb tl se on dd ch fs fo cm ce li ke be) (some (.inl (fd (h_sp ce s) 0 cm))) (mw n c tb tl se on dd ch fs fo cm ce li ke be) := by
  refine Ev.to 4 (L1 := [_, _, _, _]) (st1 := []) rfl ?_
  refine Ev.loop (fun k => [some (.inr 0), some (.inl s), some (.inl (fd (h_sp ce s) 0 k)), some (.inl (nI k))]) (fun _ => (mw n c tb tl se on dd ch fs fo cm ce li ke be)) (fun _ => True) 0 cm (Nat.zero_le cm) trivial (fun k _ hk _ kk => ?_) (fun _ => ?_)
  · have kk := kk trivial
    rw [nI_succ, fd, h_sp, ← bbv (by omega)] at kk
    refine Ev.to 999 rfl ?_
    refine Ev.ff (nI_ng hk (by omega)) ?_
    refine Ev.to 999 rfl ?_
    refine Ev.ald rfl rfl (by omega) (by decide) ?_
    exact Ev.to 4 (L1 := [_, _, _, _]) rfl kk
  · refine Ev.to 999 rfl ?_
    refine Ev.tt (nI_gg (by omega)) ?_
    refine Ev.to 999 rfl ?_
    exact Ev.iret rfl rfl rfl rfl
def h_ov (tb li : Nat → Int32) (x : Int32) (i j : Nat) : Int32 := if ¬ li (8 * i + j) = 0 ∧ x &&& li (8 * i + j) = li (8 * i + j) then tb (8 * i + j) else 0
def h_oi (tb li : Nat → Int32) (x : Int32) (i j : Nat) (a : Int32) : Int32 := a + h_ov tb li x i j
def h_or (tb li : Nat → Int32) (x : Int32) (i : Nat) (a : Int32) : Int32 := fd (h_oi tb li x i) a (i + 1)
def h_on (n : Nat) (c : Int32) (tb li : Nat → Int32) (x : Int32) : Int32 := fd (h_or tb li x) c n
theorem m_energyOn {n : Nat} {c : Int32} {tb : Nat → Int32} {tl : Nat} {se on : Nat → Int32} {dd : Int32} {ch : Nat → Int32} {fs fo : Int32} {cm : Nat} {ce li ke be : Nat → Int32} (hn : n ≤ 8) (x : Int32) : Cl m_X5_energyOn [.inr 0, .inl x] (mw n c tb tl se on dd ch fs fo cm ce li ke be) (some (.inl (h_on n c tb li x))) (mw n c tb tl se on dd ch fs fo cm ce li ke be) := by
  refine Ev.to 7 (L1 := [_, _, _, _, _, _]) (st1 := []) rfl ?_
  refine Ev.loop (fun i => [some (.inr 0), some (.inl x), some (.inl (fd (h_or tb li x) c i)), some (.inl (nI i)), none, none]) (fun _ => (mw n c tb tl se on dd ch fs fo cm ce li ke be)) (fun _ => True) 0 n (Nat.zero_le n) trivial (fun i _ hi _ kk => ?_) (fun _ => ?_)
  · have kk := kk trivial
    rw [nI_succ, fd, h_or] at kk
    generalize fd (h_or tb li x) c i = a0 at kk ⊢
    generalize (some (Sum.inl (h_on n c tb li x)) : Option ix_V) = res at kk ⊢
    refine Ev.to 999 rfl ?_
    refine Ev.ff (nI_ng hi (by omega)) ?_
    refine Ev.to 18 (L1 := [_, _, _, _, _, _]) (st1 := []) rfl ?_
    refine Ev.loop (fun j => [some (.inr 0), some (.inl x), some (.inl (fd (h_oi tb li x i) a0 j)), some (.inl (nI i)), some (.inl (nI j)), none]) (fun _ => (mw n c tb tl se on dd ch fs fo cm ce li ke be)) (fun _ => True) 0 (i + 1) (Nat.zero_le _) trivial (fun j _ hj _ k2 => ?_) (fun _ => ?_)
    · have k2 := k2 trivial
      rw [nI_succ, fd, h_oi] at k2
      generalize fd (h_oi tb li x i) a0 j = a at k2 ⊢
      have J : ∀ v, h_ov tb li x i j = v → Ev m_X5_energyOn 69 [some (.inr 0), some (.inl x), some (.inl a), some (.inl (nI i)), some (.inl (nI j)), some (.inl (li (8 * i + j)))] [.inl v, .inl a] (mw n c tb tl se on dd ch fs fo cm ce li ke be) (res, (mw n c tb tl se on dd ch fs fo cm ce li ke be)) := by
        intro v hv
        rw [hv] at k2
        exact Ev.to 18 (L1 := [_, _, _, _, _, _]) rfl (Ev.fg k2 (le_cc (le_cc (le_cc (le_cc (le_cc (le_nc le_nil)))))))
      refine Ev.to 999 rfl ?_
      refine Ev.ff (nI_ngt (by omega) (by omega)) ?_
      refine Ev.to 999 rfl ?_
      refine Ev.aldE (8 * i + j) (ni8' i j) rfl rfl (by omega) (by decide) ?_
      refine Ev.to 999 (L1 := [_, _, _, _, _, _]) rfl ?_
      refine Ev.if_ (fun h => ?_) (fun h => ?_)
      · exact Ev.to 69 rfl (J _ (by rw [h_ov, if_neg (fun q => q.1 h)]))
      · refine Ev.to 999 rfl ?_
        refine Ev.if_ (fun h2 => ?_) (fun h2 => ?_)
        · refine Ev.to 999 rfl ?_
          refine Ev.aldE (8 * i + j) (ni8' i j) rfl rfl (by omega) (by decide) ?_
          exact Ev.to 69 rfl (J _ (by rw [h_ov, if_pos ⟨h, h2⟩]))
        · exact Ev.to 69 rfl (J _ (by rw [h_ov, if_neg (fun q => h2 q.2)]))
    · refine Ev.to 999 rfl ?_
      refine Ev.tt (nI_gt1 (by omega)) ?_
      exact Ev.to 7 (L1 := [_, _, _, _, _, _]) rfl (Ev.fg kk (le_cc (le_cc (le_cc (le_cc (le_nc (le_nc le_nil)))))))
  · refine Ev.to 999 rfl ?_
    refine Ev.tt (nI_gg (by omega)) ?_
    refine Ev.to 999 rfl ?_
    exact Ev.iret rfl rfl rfl rfl
def h_ui (o z : Int32) (c : Nat) (a : Int32) : Int32 := a + (if bb o c = true then io (h_be ((1 : Int32) <<< (nI c &&& 31)) &&& z) else 0)
def h_ur (ch : Nat → Int32) (x : Int32) (i : Nat) (a : Int32) : Int32 := if x &&& ch i = 0 ∨ ch i &&& (x ^^^ (-1)) = 0 then a else fd (h_ui (x &&& ch i) (ch i &&& (x ^^^ (-1)))) a 20
theorem m_unlike {n : Nat} {c : Int32} {tb : Nat → Int32} {tl : Nat} {se on : Nat → Int32} {dd : Int32} {ch : Nat → Int32} {fs fo : Int32} {cm : Nat} {ce li ke be : Nat → Int32} (hn : n ≤ 8) (x : Int32) : Cl m_X5_unlike [.inr 0, .inl x] (mw n c tb tl se on dd ch fs fo cm ce li ke be) (some (.inl (fd (h_ur ch x) 0 n))) (mw n c tb tl se on dd ch fs fo cm ce li ke be) := by
  refine Ev.to 4 (L1 := [_, _, _, _, _, _, _]) (st1 := []) rfl ?_
  refine Ev.loop (fun i => [some (.inr 0), some (.inl x), some (.inl (fd (h_ur ch x) 0 i)), some (.inl (nI i)), none, none, none]) (fun _ => (mw n c tb tl se on dd ch fs fo cm ce li ke be)) (fun _ => True) 0 n (Nat.zero_le n) trivial (fun i _ hi _ kk => ?_) (fun _ => ?_)
  · have kk := kk trivial
    rw [nI_succ, fd, h_ur] at kk
    generalize fd (h_ur ch x) 0 i = a0 at kk ⊢
    generalize (some (Sum.inl (fd (h_ur ch x) 0 n)) : Option ix_V) = res at kk ⊢
    refine Ev.to 999 rfl ?_
    refine Ev.ff (nI_ng hi (by omega)) ?_
    refine Ev.to 999 rfl ?_
    refine Ev.ald rfl rfl (by omega) (by decide) ?_
    refine Ev.to 999 (L1 := [_, _, _, _, _, _, _]) rfl ?_
    refine Ev.ald rfl rfl (by omega) (by decide) ?_
    refine Ev.to 37 (L1 := [_, _, _, _, some (.inl (x &&& ch i)), some (.inl (ch i &&& (x ^^^ (-1)))), _]) (st1 := []) rfl ?_
    generalize x &&& ch i = o at kk ⊢
    generalize ch i &&& (x ^^^ (-1)) = z at kk ⊢
    by_cases h1 : o = 0
    · rw [if_pos (Or.inl h1)] at kk
      refine Ev.to 999 (pc1 := 44) rfl ?_
      refine Ev.to 999 rfl ?_
      refine Ev.tt h1 ?_
      exact Ev.to 4 (L1 := [_, _, _, _, _, _, _]) rfl (Ev.fg kk (le_cc (le_cc (le_cc (le_cc (le_nc (le_nc (le_nc le_nil))))))))
    by_cases h2 : z = 0
    · rw [if_pos (Or.inr h2)] at kk
      refine Ev.to 999 (pc1 := 44) rfl ?_
      refine Ev.to 999 rfl ?_
      refine Ev.ff h1 ?_
      refine Ev.to 999 rfl ?_
      refine Ev.tt h2 ?_
      exact Ev.to 4 (L1 := [_, _, _, _, _, _, _]) rfl (Ev.fg kk (le_cc (le_cc (le_cc (le_cc (le_nc (le_nc (le_nc le_nil))))))))
    · rw [if_neg (fun q => q.elim h1 h2)] at kk
      refine Ev.loop (fun c => [some (.inr 0), some (.inl x), some (.inl (fd (h_ui o z) a0 c)), some (.inl (nI i)), some (.inl o), some (.inl z), some (.inl (nI c))]) (fun _ => (mw n c tb tl se on dd ch fs fo cm ce li ke be)) (fun _ => True) 0 20 (by omega) trivial (fun c _ hc _ k2 => ?_) (fun _ => ?_)
      · have k2 := k2 trivial
        rw [nI_succ, fd, h_ui] at k2
        generalize fd (h_ui o z) a0 c = a at k2 ⊢
        refine Ev.to 999 rfl ?_
        refine Ev.ff (nI_ng (n := 20) hc (by omega)) ?_
        refine Ev.to 999 rfl ?_
        refine Ev.ff h1 ?_
        refine Ev.to 999 rfl ?_
        refine Ev.ff h2 ?_
        refine Ev.to 999 rfl ?_
        refine Ev.if_ (fun h => ?_) (fun h => ?_)
        · rw [if_pos ((bb1 (by omega)).mp h)] at k2
          refine Ev.to 999 rfl ?_
          refine Ev.callS rfl rfl (m_beside _ _) ?_
          refine Ev.to 999 rfl ?_
          refine Ev.callS rfl rfl (m_ones _ _) ?_
          exact Ev.to 37 (L1 := [_, _, _, _, _, _, _]) rfl k2
        · rw [if_neg (fun q => h ((bb1 (by omega)).mpr q))] at k2
          exact Ev.to 37 (L1 := [_, _, _, _, _, _, _]) rfl k2
      · refine Ev.to 999 (pc1 := 91) rfl ?_
        exact Ev.to 4 (L1 := [_, _, _, _, _, _, _]) rfl (Ev.fg kk (le_cc (le_cc (le_cc (le_cc (le_nc (le_nc (le_nc le_nil))))))))
  · refine Ev.to 999 rfl ?_
    refine Ev.tt (nI_gg (by omega)) ?_
    refine Ev.to 999 rfl ?_
    exact Ev.iret rfl rfl rfl rfl
def h_lc (x : Int32) (j : Nat) (p : (Nat → Int32) × Nat) : (Nat → Int32) × Nat := if bb x j = true then (upd p.1 p.2 (nI j), p.2 + 1) else p
theorem h_lc_mono (x : Int32) (f : (Nat → Int32) × Nat) (i d : Nat) : (fd (h_lc x) f i).2 ≤ (fd (h_lc x) f (i + d)).2 := by
  induction d with
  | zero => exact Nat.le_refl _
  | succ d ih =>
    rw [show i + (d + 1) = (i + d) + 1 by omega, fd, h_lc]
    split
    · exact Nat.le_trans ih (Nat.le_succ _)
    · exact ih
def h_lv (tb : Nat → Int32) (l0 : Nat → Nat) (lf lt : Nat → Nat → Nat) (i j : Nat) : Int32 := if i = j then (1 : Int32) <<< (nI (l0 i) &&& 31) else if tb (8 * i + j) = 0 then 0 else ((1 : Int32) <<< (nI (lf j i) &&& 31)) ||| ((1 : Int32) <<< (nI (lt j i) &&& 31))
def h_li (tb : Nat → Int32) (l0 : Nat → Nat) (lf lt : Nat → Nat → Nat) (i j : Nat) (f : Nat → Int32) : Nat → Int32 := upd f (8 * i + j) (h_lv tb l0 lf lt i j)
def h_lr (tb : Nat → Int32) (l0 : Nat → Nat) (lf lt : Nat → Nat → Nat) (i : Nat) (f : Nat → Int32) : Nat → Int32 := fd (h_li tb l0 lf lt i) f (i + 1)
theorem m_layGrid {n : Nat} {c : Int32} {tb : Nat → Int32} {tl : Nat} {se on : Nat → Int32} {dd : Int32} {ch : Nat → Int32} {fs fo : Int32} {cm : Nat} {ce li ke be : Nat → Int32} (hn : n ≤ 8) (h14 : (fd (h_lc (fd (g_all ch) 0 n)) (ce, 0) 20).2 ≤ 14) {l0 : Nat → Nat} {lf lt : Nat → Nat → Nat} (h0 : ∀ i, i < n → ∀ w, Cl m_X5_firstOf [.inl (ch i)] w (some (.inl (nI (l0 i)))) w)
    (h1 : ∀ i j, j < i → i < n → ¬ tb (8 * i + j) = 0 → ∀ (cm2 : Nat) (ce2 li2 : Nat → Int32), Cl m_X5_linkOf [.inr 0, .inl (nI j), .inl (nI i), .inl 0] (mw n c tb tl se on dd ch fs fo (cm2) (ce2) (li2) ke be) (some (.inl (nI (lf j i)))) (mw n c tb tl se on dd ch fs fo (cm2) (ce2) (li2) ke be) ∧ Cl m_X5_linkOf [.inr 0, .inl (nI j), .inl (nI i), .inl 1] (mw n c tb tl se on dd ch fs fo (cm2) (ce2) (li2) ke be) (some (.inl (nI (lt j i)))) (mw n c tb tl se on dd ch fs fo (cm2) (ce2) (li2) ke be)) :
    Cl m_X5_layGrid [.inr 0] (mw n c tb tl se on dd ch fs fo cm ce li ke be) none (mw n c tb tl se on dd ch fs fo ((fd (h_lc (fd (g_all ch) 0 n)) (ce, 0) 20).2) ((fd (h_lc (fd (g_all ch) 0 n)) (ce, 0) 20).1) (fd (h_lr tb l0 lf lt) li n) ke be) := by
  refine Ev.to 999 (w1 := (mw n c tb tl se on dd ch fs fo (0) ce li ke be)) rfl ?_
  refine Ev.callV (rest := []) rfl rfl (m_all hn) ?_
  generalize fd (g_all ch) 0 n = x at h14 ⊢
  refine Ev.to 12 (L1 := [_, _, _, _, _]) (st1 := []) rfl ?_
  refine Ev.loop (fun j => [some (.inr 0), some (.inl x), some (.inl (nI j)), none, none]) (fun j => (mw n c tb tl se on dd ch fs fo ((fd (h_lc x) (ce, 0) j).2) ((fd (h_lc x) (ce, 0) j).1) li ke be)) (fun _ => True) 0 20 (by omega) trivial (fun j _ hj _ kk => ?_) (fun _ => ?_)
  · have kk := kk trivial
    have hm1 := h_lc_mono x (ce, 0) (j + 1) (20 - (j + 1))
    rw [show j + 1 + (20 - (j + 1)) = 20 by omega, fd, h_lc] at hm1
    rw [nI_succ, fd, h_lc] at kk
    generalize fd (h_lc x) (ce, 0) 20 = p20 at h14 hm1 kk ⊢
    generalize fd (h_lc x) (ce, 0) j = p at kk hm1 ⊢
    obtain ⟨F, m⟩ := p
    dsimp only at kk hm1 ⊢
    refine Ev.to 999 rfl ?_
    refine Ev.ff (nI_ng (n := 20) hj (by omega)) ?_
    refine Ev.to 999 rfl ?_
    refine Ev.if_ (fun h => ?_) (fun h => ?_)
    · have hb := (bb1 (by omega)).mp h
      rw [if_pos hb] at kk hm1
      dsimp only at kk hm1
      have e : (mw n c tb tl se on dd ch fs fo (m + 1) (upd F m (nI j)) li ke be) = List.set (mw n c tb tl se on dd ch fs fo (m) (upd F m (nI j)) li ke be) 0 (.inr (5, [.inl (nI n), .inl c, .inr 1, .inl (nI tl), .inr 2, .inr 3, .inl dd, .inr 4, .inl fs, .inl fo, .inl (nI m + 1), .inr 5, .inr 6, .inr 7, .inr 8])) := by rw [← nI_succ]; rfl
      rw [e] at kk
      refine Ev.to 999 rfl ?_
      refine Ev.ast rfl rfl (by omega) (by decide) ?_
      exact Ev.to 12 (L1 := [_, _, _, _, _]) rfl kk
    · rw [if_neg (fun q => h ((bb1 (by omega)).mpr q))] at kk
      exact Ev.to 12 (L1 := [_, _, _, _, _]) rfl kk
  · generalize fd (h_lc x) (ce, 0) 20 = p
    obtain ⟨F, m⟩ := p
    dsimp only
    refine Ev.to 999 (pc1 := 53) rfl ?_
    refine Ev.to 55 (L1 := [_, _, _, _, _]) (st1 := []) rfl ?_
    refine Ev.loop (fun i => [some (.inr 0), some (.inl x), some (.inl (nI i)), none, none]) (fun i => (mw n c tb tl se on dd ch fs fo (m) (F) (fd (h_lr tb l0 lf lt) li i) ke be)) (fun _ => True) 0 n (Nat.zero_le n) trivial (fun i _ hi _ kk => ?_) (fun _ => ?_)
    · have kk := kk trivial
      rw [nI_succ, fd, h_lr] at kk
      generalize fd (h_lr tb l0 lf lt) li i = L0 at kk ⊢
      generalize fd (h_lr tb l0 lf lt) li n = LN at kk ⊢
      refine Ev.to 999 rfl ?_
      refine Ev.ff (nI_ng hi (by omega)) ?_
      refine Ev.to 65 (L1 := [_, _, _, _, _]) (st1 := []) rfl ?_
      refine Ev.loop (fun j => [some (.inr 0), some (.inl x), some (.inl (nI i)), some (.inl (nI j)), none]) (fun j => (mw n c tb tl se on dd ch fs fo (m) (F) (fd (h_li tb l0 lf lt i) L0 j) ke be)) (fun _ => True) 0 (i + 1) (Nat.zero_le _) trivial (fun j _ hj _ k2 => ?_) (fun _ => ?_)
      · have k2 := k2 trivial
        rw [nI_succ, fd, h_li] at k2
        generalize fd (h_li tb l0 lf lt i) L0 j = L1 at k2 ⊢
        have J : ∀ v, h_lv tb l0 lf lt i j = v → Ev m_X5_layGrid 140 [some (.inr 0), some (.inl x), some (.inl (nI i)), some (.inl (nI j)), some (.inl (tb (8 * i + j)))] [.inl v, .inl (8 * nI i + nI j), .inr 6] (mw n c tb tl se on dd ch fs fo (m) (F) (L1) ke be) (none, (mw n c tb tl se on dd ch fs fo (m) (F) (LN) ke be)) := by
          intro v hv
          rw [hv] at k2
          refine Ev.astE (8 * i + j) (ni8' i j) rfl rfl (by omega) (by decide) ?_
          exact Ev.to 65 (L1 := [_, _, _, _, _]) rfl (Ev.fg k2 (le_cc (le_cc (le_cc (le_cc (le_nc le_nil))))))
        refine Ev.to 999 rfl ?_
        refine Ev.ff (nI_ngt (by omega) (by omega)) ?_
        refine Ev.to 999 rfl ?_
        refine Ev.aldE (8 * i + j) (ni8' i j) rfl rfl (by omega) (by decide) ?_
        refine Ev.to 999 (L1 := [_, _, _, _, _]) rfl ?_
        refine Ev.if_ (fun h => ?_) (fun h => ?_)
        · have hij := (nI_eq (by omega) (by omega)).mp h
          refine Ev.to 999 rfl ?_
          refine Ev.ald rfl rfl (by omega) (by decide) ?_
          refine Ev.callS rfl rfl (h0 i hi _) ?_
          exact Ev.to 140 rfl (J _ (by rw [h_lv, if_pos hij]))
        · have hij : ¬ i = j := fun z => h (by rw [z])
          refine Ev.to 999 rfl ?_
          refine Ev.if_ (fun h5 => ?_) (fun h5 => ?_)
          · exact Ev.to 140 rfl (J _ (by rw [h_lv, if_neg hij, if_pos h5]))
          · obtain ⟨d1, d2⟩ := h1 i j (by omega) hi h5 m F L1
            refine Ev.to 999 rfl ?_
            refine Ev.callV rfl rfl d1 ?_
            refine Ev.to 999 rfl ?_
            refine Ev.callV rfl rfl d2 ?_
            exact Ev.to 140 rfl (J _ (by rw [h_lv, if_neg hij, if_neg h5]))
      · refine Ev.to 999 rfl ?_
        refine Ev.tt (nI_gt1 (by omega)) ?_
        exact Ev.to 55 (L1 := [_, _, _, _, _]) rfl (Ev.fg kk (le_cc (le_cc (le_cc (le_nc (le_nc le_nil))))))
    · refine Ev.to 999 rfl ?_
      refine Ev.tt (nI_gg (by omega)) ?_
      exact Ev.vret rfl rfl rfl
def h_sx (ce : Nat → Int32) (cm : Nat) (s : Nat) : Int32 := fd (h_sp ce (nI s)) 0 cm
def h_sm (n : Nat) (c : Int32) (tb li ch : Nat → Int32) (ce : Nat → Int32) (cm : Nat) (best : Int32) (s : Nat) (a : Int32) : Int32 := if 0 ≤ best - h_on n c tb li (h_sx ce cm s) ∧ 0 < fd (h_ur ch (h_sx ce cm s)) 0 n then (if (best - h_on n c tb li (h_sx ce cm s)) / fd (h_ur ch (h_sx ce cm s)) 0 n + 1 ≤ a then a else (best - h_on n c tb li (h_sx ce cm s)) / fd (h_ur ch (h_sx ce cm s)) 0 n + 1) else a
theorem m_strong_no {n : Nat} {c : Int32} {tb : Nat → Int32} {tl : Nat} {se on : Nat → Int32} {dd : Int32} {ch : Nat → Int32} {fs fo : Int32} {cm : Nat} {ce li ke be : Nat → Int32} (hn : n ≤ 8) {mm : Nat → Nat} (hm : ∀ i, i < n → ch i = nI (mm i) ∧ mm i < 2 ^ 31) (h : ¬ h_ff n tb ch dd mm = 0) : Cl m_X5_strong [.inr 0] (mw n c tb tl se on dd ch fs fo cm ce li ke be) (some (.inl (-3))) (mw n c tb tl se on dd ch fs fo cm ce li ke be) := by
  refine Ev.to 999 rfl ?_
  refine Ev.callV (rest := []) rfl rfl (m_stands hn hm) ?_
  refine Ev.to 999 rfl ?_
  refine Ev.ff h ?_
  refine Ev.to 999 rfl ?_
  exact Ev.iret rfl rfl rfl rfl
theorem m_strong {n : Nat} {c : Int32} {tb : Nat → Int32} {tl : Nat} {se on : Nat → Int32} {dd : Int32} {ch : Nat → Int32} {fs fo : Int32} {cm : Nat} {ce li ke be : Nat → Int32} (hn : n ≤ 8) {mm : Nat → Nat} (hm : ∀ i, i < n → ch i = nI (mm i) ∧ mm i < 2 ^ 31) (h : h_ff n tb ch dd mm = 0) {cm2 : Nat} {ce2 li2 : Nat → Int32} (hc : cm2 ≤ 14) (hl : Cl m_X5_layGrid [.inr 0] (mw n c tb tl se on dd ch fs fo cm ce li ke be) none (mw n c tb tl se on dd ch fs fo (cm2) (ce2) (li2) ke be)) : Cl m_X5_strong [.inr 0] (mw n c tb tl se on dd ch fs fo cm ce li ke be) (some (.inl (fd (h_sm n c tb li2 ch ce2 cm2 (g_low n (h_E n c tb))) 0 (2 ^ cm2)))) (mw n c tb tl se on dd ch fs fo (cm2) (ce2) (li2) ke be) := by
  obtain ⟨hp1, hp2⟩ := pw_le hn
  have hq2 : 1 ≤ 2 ^ cm2 := Nat.two_pow_pos cm2
  have hq1 : 2 ^ cm2 ≤ 16384 := Nat.le_trans (Nat.pow_le_pow_right (by omega) hc) (by decide)
  refine Ev.to 999 rfl ?_
  refine Ev.callV (rest := []) rfl rfl (m_stands hn hm) ?_
  refine Ev.to 999 rfl ?_
  refine Ev.tt h ?_
  refine Ev.to 999 rfl ?_
  refine Ev.callV (rest := []) rfl rfl hl ?_
  refine Ev.to 999 rfl ?_
  refine Ev.callV (rest := []) rfl rfl (m_energyOf hn 0) ?_
  refine Ev.to 22 (L1 := [_, _, _, _, _, _, _]) (st1 := []) rfl ?_
  refine Ev.loop (fun t => [some (.inr 0), some (.inl (fd (g_mn (h_E n c tb)) (h_E n c tb 0) t)), some (.inl (nI (t + 1))), none, none, none, none]) (fun _ => (mw n c tb tl se on dd ch fs fo (cm2) (ce2) (li2) ke be)) (fun _ => True) 0 (2 ^ n - 1) (Nat.zero_le _) trivial (fun t _ ht2 _ kk => ?_) (fun _ => ?_)
  · have kk := kk trivial
    rw [nI_succ (t + 1), fd, g_mn, imin] at kk
    generalize fd (g_mn (h_E n c tb)) (h_E n c tb 0) t = a at kk ⊢
    refine Ev.to 999 rfl ?_
    refine Ev.ff (m_pw hn (by omega)) ?_
    refine Ev.to 999 rfl ?_
    refine Ev.callV (rest := []) rfl rfl (m_energyOf hn _) ?_
    refine Ev.to 999 rfl ?_
    refine Ev.if_ (fun h => ?_) (fun h => ?_)
    · rw [if_neg (i32_nlt.mpr h)] at kk
      exact Ev.to 22 (L1 := [_, _, _, _, _, _, _]) rfl kk
    · rw [if_pos (i32_nle.mp h)] at kk
      refine Ev.to 999 rfl ?_
      refine Ev.callV (rest := []) rfl rfl (m_energyOf hn _) ?_
      exact Ev.to 22 (L1 := [_, _, _, _, _, _, _]) rfl kk
  · refine Ev.to 999 rfl ?_
    rw [show 2 ^ n - 1 + 1 = 2 ^ n by omega]
    refine Ev.tt (m_pw' hn) ?_
    change Ev _ _ [_, some (.inl (g_low n (h_E n c tb))), _, _, _, _, _] _ _ _
    generalize g_low n (h_E n c tb) = best
    refine Ev.to 61 (L1 := [_, _, _, _, _, _, _]) (st1 := []) rfl ?_
    refine Ev.loop (fun s => [some (.inr 0), some (.inl best), some (.inl (fd (h_sm n c tb li2 ch ce2 cm2 best) 0 s)), some (.inl (nI s)), none, none, none]) (fun _ => (mw n c tb tl se on dd ch fs fo (cm2) (ce2) (li2) ke be)) (fun _ => True) 0 (2 ^ cm2) (Nat.zero_le _) trivial (fun s _ hs _ kk => ?_) (fun _ => ?_)
    · have kk := kk trivial
      rw [nI_succ, fd, h_sm] at kk
      generalize fd (h_sm n c tb li2 ch ce2 cm2 best) 0 s = a at kk ⊢
      generalize (some (Sum.inl (fd (h_sm n c tb li2 ch ce2 cm2 best) 0 (2 ^ cm2))) : Option ix_V) = res at kk ⊢
      refine Ev.to 999 rfl ?_
      refine Ev.ff (by show ¬ (1 : Int32) <<< (nI cm2 &&& 31) ≤ nI s; rw [pw_n14 hc]; exact nI_ng hs (by omega)) ?_
      refine Ev.to 999 rfl ?_
      refine Ev.callV (rest := []) rfl rfl (m_spread hc _) ?_
      change Ev _ _ _ (.inl (h_sx ce2 cm2 s) :: _) _ _
      generalize h_sx ce2 cm2 s = x at kk ⊢
      refine Ev.to 999 (L1 := [_, _, _, _, _, _, _]) rfl ?_
      refine Ev.callV (rest := [_]) rfl rfl (m_energyOn hn _) ?_
      refine Ev.to 88 (L1 := [_, _, _, _, _, some (.inl (best - h_on n c tb li2 x)), _]) (st1 := []) rfl ?_
      generalize best - h_on n c tb li2 x = y at kk ⊢
      have J : ∀ v, (0 ≤ y ∧ 0 < fd (h_ur ch x) 0 n ↔ 0 < v) → (0 < v → fd (h_ur ch x) 0 n = v) → Ev m_X5_strong 103 [some (.inr 0), some (.inl best), some (.inl a), some (.inl (nI s)), some (.inl x), some (.inl y), none] [.inl v] (mw n c tb tl se on dd ch fs fo (cm2) (ce2) (li2) ke be) (res, (mw n c tb tl se on dd ch fs fo (cm2) (ce2) (li2) ke be)) := by
        intro v hv1 hv2
        refine Ev.to 999 (L1 := [_, _, _, _, _, _, _]) rfl ?_
        refine Ev.if_ (fun h1 => ?_) (fun h1 => ?_)
        · rw [if_neg (fun z => i32_nlt.mpr h1 (hv1.mp z))] at kk
          exact Ev.to 61 (L1 := [_, _, _, _, _, _, _]) rfl (Ev.fg kk (le_cc (le_cc (le_cc (le_cc (le_nc (le_nc (le_nc le_nil))))))))
        · have h1 := i32_nle.mp h1
          rw [if_pos (hv1.mpr h1), hv2 h1] at kk
          refine Ev.to 999 rfl ?_
          refine Ev.dv rfl (fun z => by rw [z] at h1; exact absurd h1 (by decide)) ?_
          refine Ev.to 999 rfl ?_
          refine Ev.if_ (fun h3 => ?_) (fun h3 => ?_)
          · rw [if_pos h3] at kk
            exact Ev.to 61 (L1 := [_, _, _, _, _, _, _]) rfl (Ev.fg kk (le_cc (le_cc (le_cc (le_cc (le_nc (le_nc (le_nc le_nil))))))))
          · rw [if_neg h3] at kk
            refine Ev.to 999 rfl ?_
            refine Ev.dv rfl (fun z => by rw [z] at h1; exact absurd h1 (by decide)) ?_
            exact Ev.to 61 (L1 := [_, _, _, _, _, _, _]) rfl (Ev.fg kk (le_cc (le_cc (le_cc (le_cc (le_nc (le_nc (le_nc le_nil))))))))
      refine Ev.to 999 rfl ?_
      refine Ev.if_ (fun h1 => ?_) (fun h1 => ?_)
      · exact Ev.to 103 rfl (J 0 ⟨fun z => absurd h1 (i32_nlt.mpr z.1), fun z => absurd z (by decide)⟩ (fun z => absurd z (by decide)))
      · refine Ev.to 999 rfl ?_
        refine Ev.callV (rest := []) rfl rfl (m_unlike hn _) ?_
        exact Ev.to 103 rfl (J _ ⟨fun z => z.2, fun z => ⟨i32_nlt.mp h1, z⟩⟩ (fun _ => rfl))
    · refine Ev.to 999 rfl ?_
      refine Ev.tt (by show (1 : Int32) <<< (nI cm2 &&& 31) ≤ nI (2 ^ cm2); rw [pw_n14 hc]; exact nI_gg (by omega)) ?_
      refine Ev.to 999 rfl ?_
      exact Ev.iret rfl rfl rfl rfl
end
section
/-! the reference: turn, cut, walk, count -/
def h_t1a (i j : Nat) (T : Nat → Int32) : Nat → Int32 := upd T (8 * j + j) (T (8 * j + j) + T (8 * i + j))
def h_t1 (i j : Nat) (T : Nat → Int32) : Nat → Int32 := if j = i then T else upd (upd (h_t1a i j T) (8 * i + j) (-(h_t1a i j T (8 * i + j)))) (8 * j + i) (-(h_t1a i j T (8 * i + j)))
def h_t0 (n i : Nat) (T : Nat → Int32) : Nat → Int32 := fd (h_t1 i) (upd T (8 * i + i) (-(T (8 * i + i)))) n
theorem m_turnOne {n : Nat} {c : Int32} {tb : Nat → Int32} {tl : Nat} {se on : Nat → Int32} {dd : Int32} {ch : Nat → Int32} {fs fo : Int32} {cm : Nat} {ce li ke be : Nat → Int32} (hn : n ≤ 8) {i : Nat} (hi : i < 8) : Cl m_X5_turnOne [.inr 0, .inl (nI i)] (mw n c tb tl se on dd ch fs fo cm ce li ke be) none (mw n (c + tb (8 * i + i)) (h_t0 n i tb) tl se on dd ch fs fo cm ce li ke be) := by
  rw [h_t0]
  refine Ev.to 999 rfl ?_
  refine Ev.aldE (8 * i + i) (ni8' i i) rfl rfl (by omega) (by decide) ?_
  refine Ev.to 999 (w1 := (mw n (c + tb (8 * i + i)) tb tl se on dd ch fs fo cm ce li ke be)) rfl ?_
  refine Ev.aldE (8 * i + i) (ni8' i i) rfl rfl (by omega) (by decide) ?_
  refine Ev.to 999 rfl ?_
  refine Ev.astE (8 * i + i) (ni8' i i) rfl rfl (by omega) (by decide) ?_
  generalize c + tb (8 * i + i) = C
  refine Ev.to 45 (L1 := [_, _, _]) (st1 := []) (w1 := (mw n (C) (upd tb (8 * i + i) (-(tb (8 * i + i)))) tl se on dd ch fs fo cm ce li ke be)) rfl ?_
  generalize upd tb (8 * i + i) (-(tb (8 * i + i))) = T0
  refine Ev.loop (fun j => [some (.inr 0), some (.inl (nI i)), some (.inl (nI j))]) (fun j => (mw n (C) (fd (h_t1 i) T0 j) tl se on dd ch fs fo cm ce li ke be)) (fun _ => True) 0 n (Nat.zero_le n) trivial (fun j _ hj _ kk => ?_) (fun _ => ?_)
  · have kk := kk trivial
    rw [nI_succ, fd, h_t1] at kk
    generalize fd (h_t1 i) T0 j = T at kk ⊢
    generalize fd (h_t1 i) T0 n = TN at kk ⊢
    refine Ev.to 999 rfl ?_
    refine Ev.ff (nI_ng hj (by omega)) ?_
    refine Ev.to 999 rfl ?_
    refine Ev.if_ (fun h => ?_) (fun h => ?_)
    · rw [if_pos ((nI_eq (by omega) (by omega)).mp h)] at kk
      exact Ev.to 45 (L1 := [_, _, _]) rfl kk
    · have hji : ¬ j = i := fun z => h (by rw [z])
      rw [if_neg hji] at kk
      refine Ev.to 999 rfl ?_
      refine Ev.aldE (8 * j + j) (ni8' j j) rfl rfl (by omega) (by decide) ?_
      refine Ev.to 999 rfl ?_
      refine Ev.aldE (8 * i + j) (ni8' i j) rfl rfl (by omega) (by decide) ?_
      refine Ev.to 999 rfl ?_
      refine Ev.astE (8 * j + j) (ni8' j j) rfl rfl (by omega) (by decide) ?_
      refine Ev.to 999 (w1 := (mw n (C) (h_t1a i j T) tl se on dd ch fs fo cm ce li ke be)) rfl ?_
      refine Ev.aldE (8 * i + j) (ni8' i j) rfl rfl (by omega) (by decide) ?_
      refine Ev.to 999 rfl ?_
      refine Ev.callV (rest := []) rfl rfl (m_putWeight hi (by omega) _) ?_
      exact Ev.to 45 (L1 := [_, _, _]) rfl kk
  · refine Ev.to 999 rfl ?_
    refine Ev.tt (nI_gg (by omega)) ?_
    exact Ev.vret rfl rfl rfl
theorem m_turn_bad {n : Nat} {c : Int32} {tb : Nat → Int32} {tl : Nat} {se on : Nat → Int32} {dd : Int32} {ch : Nat → Int32} {fs fo : Int32} {cm : Nat} {ce li ke be : Nat → Int32} (hn : n ≤ 8) {s : Int32} (h : inw s 0 (nI (2 ^ n) - 1) = false) : Cl m_X5_turn [.inr 0, .inl s] (mw n c tb tl se on dd ch fs fo cm ce li ke be) (some (.inl (-2147483648))) (mw n c tb tl se on dd ch fs fo cm ce li ke be) := by
  refine Ev.to 999 rfl ?_
  refine Ev.callV (rest := []) rfl rfl (m_isState hn _) ?_
  refine Ev.to 999 rfl ?_
  refine Ev.tt (bz_f h) ?_
  refine Ev.to 999 rfl ?_
  exact Ev.iret rfl rfl rfl rfl
def h_cp (g : Nat → Int32) (k : Nat) (f : Nat → Int32) : Nat → Int32 := upd f k (g k)
def h_tt (n : Nat) (s : Int32) (i : Nat) (p : Int32 × (Nat → Int32)) : Int32 × (Nat → Int32) := if bb s i = true then (p.1 + p.2 (8 * i + i), h_t0 n i p.2) else p
def h_far (T : Nat → Int32) (k : Nat) : Bool := decide (60 < iabs (T k))
theorem m_turn_go {n : Nat} {c : Int32} {tb : Nat → Int32} {tl : Nat} {se on : Nat → Int32} {dd : Int32} {ch : Nat → Int32} {fs fo : Int32} {cm : Nat} {ce li ke be : Nat → Int32} (hn : n ≤ 8) {s : Int32} (h : inw s 0 (nI (2 ^ n) - 1) = true) {x : Option ix_V × ix_W} (kk : Ev m_X5_turn 115 [some (.inr 0), some (.inl s), some (.inl c), some (.inl (bz (anyB (h_far (fd (h_tt n s) (c, tb) n).2) 64))), some (.inl (nI 64))] [] (mw n ((fd (h_tt n s) (c, tb) n).1) ((fd (h_tt n s) (c, tb) n).2) tl se on dd ch fs fo cm ce li (fd (h_cp tb) ke 64) be) x) : Ev m_X5_turn 0 (ix_en m_X5_turn [.inr 0, .inl s]) [] (mw n c tb tl se on dd ch fs fo cm ce li ke be) x := by
  refine Ev.to 999 rfl ?_
  refine Ev.callV (rest := []) rfl rfl (m_isState hn _) ?_
  refine Ev.to 999 rfl ?_
  refine Ev.ff (by rw [bz_t h]; decide) ?_
  refine Ev.to 18 (L1 := [_, _, _, _, _]) (st1 := []) rfl ?_
  refine Ev.loop (fun k => [some (.inr 0), some (.inl s), some (.inl c), some (.inl (nI k)), none]) (fun k => (mw n c tb tl se on dd ch fs fo cm ce li (fd (h_cp tb) ke k) be)) (fun _ => True) 0 64 (by omega) trivial (fun k _ hk _ k2 => ?_) (fun _ => ?_)
  · have k2 := k2 trivial
    rw [nI_succ, fd, h_cp] at k2
    refine Ev.to 999 rfl ?_
    refine Ev.ff (nI_ng (n := 64) hk (by omega)) ?_
    refine Ev.to 999 rfl ?_
    refine Ev.ald rfl rfl hk (by decide) ?_
    refine Ev.ast rfl rfl hk (by decide) ?_
    exact Ev.to 18 (L1 := [_, _, _, _, _]) rfl k2
  · generalize fd (h_cp tb) ke 64 = K at kk ⊢
    refine Ev.to 999 (pc1 := 42) rfl ?_
    refine Ev.to 44 (L1 := [_, _, _, _, _]) (st1 := []) rfl ?_
    refine Ev.loop (fun i => [some (.inr 0), some (.inl s), some (.inl c), some (.inl (nI i)), none]) (fun i => (mw n ((fd (h_tt n s) (c, tb) i).1) ((fd (h_tt n s) (c, tb) i).2) tl se on dd ch fs fo cm ce li (K) be)) (fun _ => True) 0 n (Nat.zero_le n) trivial (fun i _ hi _ k2 => ?_) (fun _ => ?_)
    · have k2 := k2 trivial
      rw [nI_succ, fd, h_tt] at k2
      generalize fd (h_tt n s) (c, tb) i = p at k2 ⊢
      obtain ⟨C, T⟩ := p
      dsimp only at k2 ⊢
      refine Ev.to 999 rfl ?_
      refine Ev.ff (nI_ng hi (by omega)) ?_
      refine Ev.to 999 rfl ?_
      refine Ev.if_ (fun h1 => ?_) (fun h1 => ?_)
      · rw [if_pos ((bb1 (by omega)).mp h1)] at k2
        dsimp only at k2
        refine Ev.to 999 rfl ?_
        refine Ev.callV (rest := []) rfl rfl (m_turnOne hn (by omega)) ?_
        exact Ev.to 44 (L1 := [_, _, _, _, _]) rfl k2
      · rw [if_neg (fun q => h1 ((bb1 (by omega)).mpr q))] at k2
        exact Ev.to 44 (L1 := [_, _, _, _, _]) rfl k2
    · generalize fd (h_tt n s) (c, tb) n = p at kk ⊢
      obtain ⟨C, T⟩ := p
      dsimp only at kk ⊢
      refine Ev.to 999 rfl ?_
      refine Ev.tt (nI_gg (by omega)) ?_
      refine Ev.to 77 (L1 := [_, _, _, _, _]) (st1 := []) rfl ?_
      refine Ev.loop (fun k => [some (.inr 0), some (.inl s), some (.inl c), some (.inl (bz (anyB (h_far T) k))), some (.inl (nI k))]) (fun _ => (mw n (C) (T) tl se on dd ch fs fo cm ce li (K) be)) (fun _ => True) 0 64 (by omega) trivial (fun k _ hk _ k2 => ?_) (fun _ => ?_)
      · have k2 := k2 trivial
        rw [nI_succ, anyB_s] at k2
        generalize anyB (h_far T) k = b at k2 ⊢
        have J : ∀ v, (b || h_far T k) = v → Ev m_X5_turn 108 [some (.inr 0), some (.inl s), some (.inl c), some (.inl (bz b)), some (.inl (nI k))] [.inl (bz v)] (mw n (C) (T) tl se on dd ch fs fo cm ce li (K) be) x := by
          intro v hv
          rw [hv] at k2
          exact Ev.to 77 (L1 := [_, _, _, _, _]) rfl k2
        refine Ev.to 999 rfl ?_
        refine Ev.ff (nI_ng (n := 64) hk (by omega)) ?_
        refine Ev.to 999 rfl ?_
        refine Ev.on (fun hb => ?_) (fun hb => ?_)
        · subst hb
          refine Ev.to 999 rfl ?_
          refine Ev.ald rfl rfl hk (by decide) ?_
          refine Ev.callS rfl rfl (m_size _ _) ?_
          refine Ev.to 999 rfl ?_
          refine Ev.if_ (fun h1 => ?_) (fun h1 => ?_)
          · exact Ev.to 108 rfl (J false (by rw [h_far, decide_eq_false (i32_nlt.mpr h1)]; rfl))
          · exact Ev.to 108 rfl (J true (by rw [h_far, decide_eq_true (i32_nle.mp h1)]; rfl))
        · subst hb
          exact Ev.to 108 rfl (J true rfl)
      · refine Ev.to 999 (pc1 := 115) rfl ?_
        exact kk
theorem m_turn_not {n : Nat} {c : Int32} {tb : Nat → Int32} {tl : Nat} {se on : Nat → Int32} {dd : Int32} {ch : Nat → Int32} {fs fo : Int32} {cm : Nat} {ce li ke be : Nat → Int32} (hn : n ≤ 8) {s : Int32} (h : inw s 0 (nI (2 ^ n) - 1) = true) (hf : anyB (h_far (fd (h_tt n s) (c, tb) n).2) 64 = true) : Cl m_X5_turn [.inr 0, .inl s] (mw n c tb tl se on dd ch fs fo cm ce li ke be) (some (.inl (-3))) (mw n c (fd (h_cp (fd (h_cp tb) ke 64)) (fd (h_tt n s) (c, tb) n).2 64) tl se on dd ch fs fo cm ce li (fd (h_cp tb) ke 64) be) := by
  refine m_turn_go hn h ?_
  rw [hf]
  generalize fd (h_cp tb) ke 64 = K
  generalize fd (h_tt n s) (c, tb) n = p
  obtain ⟨C, T⟩ := p
  dsimp only
  refine Ev.to 999 (pc1 := 119) rfl ?_
  refine Ev.to 127 (L1 := [_, _, _, _, _]) (st1 := []) (w1 := (mw n c (T) tl se on dd ch fs fo cm ce li (K) be)) rfl ?_
  refine Ev.loop (fun k => [some (.inr 0), some (.inl s), some (.inl c), some (.inl (bz true)), some (.inl (nI k))]) (fun k => (mw n c (fd (h_cp K) T k) tl se on dd ch fs fo cm ce li (K) be)) (fun _ => True) 0 64 (by omega) trivial (fun k _ hk _ k2 => ?_) (fun _ => ?_)
  · have k2 := k2 trivial
    rw [nI_succ, fd, h_cp] at k2
    refine Ev.to 999 rfl ?_
    refine Ev.ff (nI_ng (n := 64) hk (by omega)) ?_
    refine Ev.to 999 rfl ?_
    refine Ev.ald rfl rfl hk (by decide) ?_
    refine Ev.ast rfl rfl hk (by decide) ?_
    exact Ev.to 127 (L1 := [_, _, _, _, _]) rfl k2
  · refine Ev.to 999 (pc1 := 154) rfl ?_
    refine Ev.to 999 rfl ?_
    exact Ev.iret rfl rfl rfl rfl
theorem m_turn {n : Nat} {c : Int32} {tb : Nat → Int32} {tl : Nat} {se on : Nat → Int32} {dd : Int32} {ch : Nat → Int32} {fs fo : Int32} {cm : Nat} {ce li ke be : Nat → Int32} (hn : n ≤ 8) {s : Int32} (h : inw s 0 (nI (2 ^ n) - 1) = true) (hf : anyB (h_far (fd (h_tt n s) (c, tb) n).2) 64 = false) : Cl m_X5_turn [.inr 0, .inl s] (mw n c tb tl se on dd ch fs fo cm ce li ke be) (some (.inl (fd (h_tt n s) (c, tb) n).1)) (mw n ((fd (h_tt n s) (c, tb) n).1) ((fd (h_tt n s) (c, tb) n).2) tl se on dd ch fs fo cm ce li (fd (h_cp tb) ke 64) be) := by
  refine m_turn_go hn h ?_
  rw [hf]
  refine Ev.to 999 (pc1 := 157) rfl ?_
  refine Ev.to 999 rfl ?_
  exact Ev.iret rfl rfl rfl rfl
/-! cut -/
def h_cq (x s : Int32) : Int32 := iabs x / s + (if 2 * (iabs x - iabs x / s * s) ≤ s then 0 else 1)
def h_cu (x s : Int32) : Int32 := if 0 ≤ x then h_cq x s * s else -(h_cq x s) * s
theorem m_cutOf (x : Int32) {s : Int32} (hs : s ≠ 0) (w : ix_W) : Cl m_X5_cutOf [.inl x, .inl s] w (some (.inl (h_cu x s))) w := by
  rw [h_cu]
  refine Ev.to 999 rfl ?_
  refine Ev.callS rfl rfl (m_size _ _) ?_
  refine Ev.to 999 rfl ?_
  refine Ev.dv rfl hs ?_
  refine Ev.to 999 (L1 := [_, _, _]) rfl ?_
  refine Ev.callS rfl rfl (m_size _ _) ?_
  refine Ev.to 999 rfl ?_
  refine Ev.rm rfl hs ?_
  have J : ∀ q, h_cq x s = q → Ev m_X5_cutOf 27 [some (.inl x), some (.inl s), some (.inl q)] [] w (some (.inl (if 0 ≤ x then h_cq x s * s else -(h_cq x s) * s)), w) := by
    intro q hq
    rw [hq]
    refine Ev.to 999 rfl ?_
    refine Ev.if_ (fun h => ?_) (fun h => ?_)
    · rw [if_pos h]
      refine Ev.to 999 rfl ?_
      exact Ev.iret rfl rfl rfl rfl
    · rw [if_neg h]
      refine Ev.to 999 rfl ?_
      exact Ev.iret rfl rfl rfl rfl
  refine Ev.to 999 rfl ?_
  refine Ev.if_ (fun h => ?_) (fun h => ?_)
  · exact Ev.to 27 (L1 := [_, _, _]) rfl (J _ (by rw [h_cq, if_pos (show 2 * (iabs x - iabs x / s * s) ≤ s from h)]))
  · exact Ev.to 27 (L1 := [_, _, _]) rfl (J _ (by rw [h_cq, if_neg (show ¬ 2 * (iabs x - iabs x / s * s) ≤ s from h)]))
theorem m_cut_no {n : Nat} {c : Int32} {tb : Nat → Int32} {tl : Nat} {se on : Nat → Int32} {dd : Int32} {ch : Nat → Int32} {fs fo : Int32} {cm : Nat} {ce li ke be : Nat → Int32} {s : Int32} (h : inw s 1 20 = false) : Cl m_X5_cut [.inr 0, .inl s] (mw n c tb tl se on dd ch fs fo cm ce li ke be) (some (.inl (-2))) (mw n c tb tl se on dd ch fs fo cm ce li ke be) := by
  refine Ev.to 999 rfl ?_
  refine Ev.callS (rest := []) rfl rfl (m_in _ _ _ _) ?_
  refine Ev.to 999 rfl ?_
  refine Ev.tt (bz_f h) ?_
  refine Ev.to 999 rfl ?_
  exact Ev.iret rfl rfl rfl rfl
def h_cb (E : Nat → Int32) (x : Nat) (f : Nat → Int32) : Nat → Int32 := upd f x (E x)
def h_cc (s : Int32) (k : Nat) (f : Nat → Int32) : Nat → Int32 := upd f k (h_cu (f k) s)
def h_cl (E B : Nat → Int32) (x : Nat) (a : Int32) : Int32 := if iabs (E x - B x) ≤ a then a else iabs (E x - B x)
theorem m_cut {n : Nat} {c : Int32} {tb : Nat → Int32} {tl : Nat} {se on : Nat → Int32} {dd : Int32} {ch : Nat → Int32} {fs fo : Int32} {cm : Nat} {ce li ke be : Nat → Int32} (hn : n ≤ 8) {s : Int32} (h : inw s 1 20 = true) (hs : s ≠ 0) : Cl m_X5_cut [.inr 0, .inl s] (mw n c tb tl se on dd ch fs fo cm ce li ke be) (some (.inl (fd (h_cl (h_E n c (fd (h_cc s) tb 64)) (fd (h_cb (h_E n c tb)) be (2 ^ n))) 0 (2 ^ n)))) (mw n c (fd (h_cc s) tb 64) tl se on dd ch fs fo cm ce li ke (fd (h_cb (h_E n c tb)) be (2 ^ n))) := by
  obtain ⟨hp1, hp2⟩ := pw_le hn
  refine Ev.to 999 rfl ?_
  refine Ev.callS (rest := []) rfl rfl (m_in _ _ _ _) ?_
  refine Ev.to 999 rfl ?_
  refine Ev.ff (by rw [bz_t h]; decide) ?_
  refine Ev.to 15 (L1 := [_, _, _, _, _]) (st1 := []) rfl ?_
  refine Ev.loop (fun x => [some (.inr 0), some (.inl s), some (.inl (nI x)), none, none]) (fun x => (mw n c tb tl se on dd ch fs fo cm ce li ke (fd (h_cb (h_E n c tb)) be x))) (fun _ => True) 0 (2 ^ n) (Nat.zero_le _) trivial (fun x _ hx _ kk => ?_) (fun _ => ?_)
  · have kk := kk trivial
    rw [nI_succ, fd, h_cb] at kk
    refine Ev.to 999 rfl ?_
    refine Ev.ff (m_pw hn hx) ?_
    refine Ev.to 999 rfl ?_
    refine Ev.callV (rest := [_, _]) rfl rfl (m_energyOf hn _) ?_
    refine Ev.ast rfl rfl (by omega) (by decide) ?_
    exact Ev.to 15 (L1 := [_, _, _, _, _]) rfl kk
  · generalize fd (h_cb (h_E n c tb)) be (2 ^ n) = B
    refine Ev.to 999 rfl ?_
    refine Ev.tt (m_pw' hn) ?_
    refine Ev.to 44 (L1 := [_, _, _, _, _]) (st1 := []) rfl ?_
    refine Ev.loop (fun k => [some (.inr 0), some (.inl s), some (.inl (nI k)), none, none]) (fun k => (mw n c (fd (h_cc s) tb k) tl se on dd ch fs fo cm ce li ke (B))) (fun _ => True) 0 64 (by omega) trivial (fun k _ hk _ kk => ?_) (fun _ => ?_)
    · have kk := kk trivial
      rw [nI_succ, fd, h_cc] at kk
      generalize fd (h_cc s) tb k = F at kk ⊢
      generalize fd (h_cc s) tb 64 = F64 at kk ⊢
      refine Ev.to 999 rfl ?_
      refine Ev.ff (nI_ng (n := 64) hk (by omega)) ?_
      refine Ev.to 999 rfl ?_
      refine Ev.ald rfl rfl hk (by decide) ?_
      refine Ev.to 999 rfl ?_
      refine Ev.callS (rest := [_, _]) rfl rfl (m_cutOf _ hs _) ?_
      refine Ev.ast rfl rfl hk (by decide) ?_
      exact Ev.to 44 (L1 := [_, _, _, _, _]) rfl kk
    · generalize fd (h_cc s) tb 64 = T
      refine Ev.to 999 (pc1 := 72) rfl ?_
      refine Ev.to 76 (L1 := [_, _, _, _, _]) (st1 := []) rfl ?_
      refine Ev.loop (fun x => [some (.inr 0), some (.inl s), some (.inl (fd (h_cl (h_E n c T) B) 0 x)), some (.inl (nI x)), none]) (fun _ => (mw n c (T) tl se on dd ch fs fo cm ce li ke (B))) (fun _ => True) 0 (2 ^ n) (Nat.zero_le _) trivial (fun x _ hx _ kk => ?_) (fun _ => ?_)
      · have kk := kk trivial
        rw [nI_succ, fd, h_cl] at kk
        generalize fd (h_cl (h_E n c T) B) 0 x = a at kk ⊢
        generalize (some (Sum.inl (fd (h_cl (h_E n c T) B) 0 (2 ^ n))) : Option ix_V) = res at kk ⊢
        refine Ev.to 999 rfl ?_
        refine Ev.ff (m_pw hn hx) ?_
        refine Ev.to 999 rfl ?_
        refine Ev.callV (rest := []) rfl rfl (m_energyOf hn _) ?_
        refine Ev.to 999 rfl ?_
        refine Ev.ald rfl rfl (by omega) (by decide) ?_
        refine Ev.to 999 rfl ?_
        refine Ev.callS (rest := []) rfl rfl (m_size _ _) ?_
        change Ev _ _ _ (.inl (iabs (h_E n c T x - B x)) :: _) _ _
        generalize iabs (h_E n c T x - B x) = y at kk ⊢
        refine Ev.to 999 (L1 := [_, _, _, _, _]) rfl ?_
        refine Ev.if_ (fun h1 => ?_) (fun h1 => ?_)
        · rw [if_pos h1] at kk
          exact Ev.to 76 (L1 := [_, _, _, _, _]) rfl (Ev.fg kk (le_cc (le_cc (le_cc (le_cc (le_nc le_nil))))))
        · rw [if_neg h1] at kk
          exact Ev.to 76 (L1 := [_, _, _, _, _]) rfl (Ev.fg kk (le_cc (le_cc (le_cc (le_cc (le_nc le_nil))))))
      · refine Ev.to 999 rfl ?_
        refine Ev.tt (m_pw' hn) ?_
        refine Ev.to 999 rfl ?_
        exact Ev.iret rfl rfl rfl rfl
/-! walk -/
theorem m_walk_no {n : Nat} {c : Int32} {tb : Nat → Int32} {tl : Nat} {se on : Nat → Int32} {dd : Int32} {ch : Nat → Int32} {fs fo : Int32} {cm : Nat} {ce li ke be : Nat → Int32} (hn : n ≤ 8) {s d h m x : Int32} (hk : g_wok n s h m x = false) : Cl m_X5_walk [.inr 0, .inl s, .inl d, .inl h, .inl m, .inl x] (mw n c tb tl se on dd ch fs fo cm ce li ke be) (some (.inl (-2147483648))) (mw n c tb tl se on dd ch fs fo cm ce li ke be) := by
  have no : Ev m_X5_walk 40 [some (.inr 0), some (.inl s), some (.inl d), some (.inl h), some (.inl m), some (.inl x), none, none, none, none, none, none, none, none] [] (mw n c tb tl se on dd ch fs fo cm ce li ke be) (some (.inl (-2147483648)), (mw n c tb tl se on dd ch fs fo cm ce li ke be)) := by
    refine Ev.to 999 rfl ?_
    exact Ev.iret rfl rfl rfl rfl
  refine Ev.to 999 rfl ?_
  refine Ev.callV (rest := []) rfl rfl (m_isState hn _) ?_
  refine Ev.to 999 rfl ?_
  refine Ev.on (fun _ => no) (fun h1 => ?_)
  refine Ev.to 999 rfl ?_
  refine Ev.callS (rest := []) rfl rfl (m_in _ _ _ _) ?_
  refine Ev.to 999 rfl ?_
  refine Ev.on (fun _ => no) (fun h2 => ?_)
  refine Ev.to 999 rfl ?_
  refine Ev.callS (rest := []) rfl rfl (m_in _ _ _ _) ?_
  refine Ev.to 999 rfl ?_
  refine Ev.on (fun _ => no) (fun h3 => ?_)
  refine Ev.to 999 rfl ?_
  refine Ev.callS (rest := []) rfl rfl (m_in _ _ _ _) ?_
  refine Ev.to 999 rfl ?_
  refine Ev.on (fun _ => no) (fun h4 => ?_)
  rw [g_wok, h1, h2, h3, h4] at hk
  exact absurd hk (by decide)
theorem m_walk_end {n : Nat} {c : Int32} {tb : Nat → Int32} {tl : Nat} {se on : Nat → Int32} {dd : Int32} {ch : Nat → Int32} {fs fo : Int32} {cm : Nat} {ce li ke be : Nat → Int32} {z1 z2 z3 z4 z6 z7 z9 z11 z12 z13 : Option ix_V} (x h l : Int32) : Ev m_X5_walk 185 [some (.inr 0), z1, z2, z3, z4, some (.inl x), z6, z7, some (.inl h), z9, some (.inl l), z11, z12, z13] [] (mw n c tb tl se on dd ch fs fo cm ce li ke be) (some (.inl (if x = 0 then h else l)), (mw n c tb tl se on dd ch fs fo cm ce li ke be)) := by
  refine Ev.to 999 rfl ?_
  refine Ev.if_ (fun h => ?_) (fun h => ?_)
  · refine Ev.to 999 rfl ?_
    exact Ev.iret rfl rfl (by rw [if_pos h]) rfl
  · refine Ev.to 999 rfl ?_
    exact Ev.iret rfl rfl (by rw [if_neg h]) rfl
def h_wo (n : Nat) (z h : Int32) : Int32 := h ^^^ ((1 : Int32) <<< (nI (w_l n z) &&& 31))
def h_wm (a l : Int32) : Int32 := if l ≤ a then l else a
def h_wk (n : Nat) (c : Int32) (tb : Nat → Int32) (j : Nat) (p : w_S) : w_S := if h_en n c tb (h_wo n p.1 p.2.2.1) - p.2.2.2.1 ≤ w_t p.1 p.2.1 then (w_z p.1, w_n j p.2.1, h_wo n p.1 p.2.2.1, h_en n c tb (h_wo n p.1 p.2.2.1), h_wm (h_en n c tb (h_wo n p.1 p.2.2.1)) p.2.2.2.2) else (w_z p.1, w_n j p.2.1, p.2.2.1, p.2.2.2.1, h_wm p.2.2.2.1 p.2.2.2.2)
theorem h_wk_le (n : Nat) (c : Int32) (tb : Nat → Int32) (p : w_S) (j : Nat) : (fd (h_wk n c tb) p j).2.1 ≤ p.2.1 := by
  induction j with
  | zero => exact Nat.le_refl _
  | succ j ih =>
    rw [fd, h_wk]
    split
    · exact Nat.le_trans (w_n_le _ _) ih
    · exact Nat.le_trans (w_n_le _ _) ih
theorem m_walk {n : Nat} {c : Int32} {tb : Nat → Int32} {tl : Nat} {se on : Nat → Int32} {dd : Int32} {ch : Nat → Int32} {fs fo : Int32} {cm : Nat} {ce li ke be : Nat → Int32} (hn : n ≤ 8) (hn1 : 1 ≤ n) {s d x : Int32} {ht m : Nat} (hh : ht ≤ 100) (hm : m ≤ 200) (hk : g_wok n s (nI ht) (nI m) x = true) : Cl m_X5_walk [.inr 0, .inl s, .inl d, .inl (nI ht), .inl (nI m), .inl x] (mw n c tb tl se on dd ch fs fo cm ce li ke be) (some (.inl (if x = 0 then (fd (h_wk n c tb) (d, ht, s, h_en n c tb s, h_en n c tb s) m).2.2.1 else (fd (h_wk n c tb) (d, ht, s, h_en n c tb s, h_en n c tb s) m).2.2.2.2))) (mw n c tb tl se on dd ch fs fo cm ce li ke be) := by
  rw [g_wok, Bool.and_eq_true, Bool.and_eq_true, Bool.and_eq_true] at hk
  obtain ⟨k1, k2, k3, k4⟩ := hk
  refine Ev.to 999 rfl ?_
  refine Ev.callV (rest := []) rfl rfl (m_isState hn _) ?_
  refine Ev.to 999 rfl ?_
  refine Ev.ff (by rw [bz_t k1]; decide) ?_
  refine Ev.to 999 rfl ?_
  refine Ev.callS (rest := []) rfl rfl (m_in _ _ _ _) ?_
  refine Ev.to 999 rfl ?_
  refine Ev.ff (by rw [bz_t k2]; decide) ?_
  refine Ev.to 999 rfl ?_
  refine Ev.callS (rest := []) rfl rfl (m_in _ _ _ _) ?_
  refine Ev.to 999 rfl ?_
  refine Ev.ff (by rw [bz_t k3]; decide) ?_
  refine Ev.to 999 rfl ?_
  refine Ev.callS (rest := []) rfl rfl (m_in _ _ _ _) ?_
  refine Ev.to 999 rfl ?_
  refine Ev.ff (by rw [bz_t k4]; decide) ?_
  refine Ev.to 999 (L1 := [_, _, _, _, _, _, _, _, _, _, _, _, _, _]) rfl ?_
  refine Ev.callV (rest := []) rfl rfl (m_energyOf hn _) ?_
  generalize h_en n c tb s = e0
  refine Ev.to 67 (L1 := [_, _, _, _, _, _, _, _, _, _, _, _, _, _]) (st1 := []) rfl ?_
  refine Ev.loop (fun j => [some (.inr 0), some (.inl s), some (.inl d), some (.inl (nI ht)), some (.inl (nI m)), some (.inl x), some (.inl (fd (h_wk n c tb) (d, ht, s, e0, e0) j).1), some (.inl (nI (fd (h_wk n c tb) (d, ht, s, e0, e0) j).2.1)), some (.inl (fd (h_wk n c tb) (d, ht, s, e0, e0) j).2.2.1), some (.inl (fd (h_wk n c tb) (d, ht, s, e0, e0) j).2.2.2.1), some (.inl (fd (h_wk n c tb) (d, ht, s, e0, e0) j).2.2.2.2), some (.inl (nI (j + 1))), none, none]) (fun _ => (mw n c tb tl se on dd ch fs fo cm ce li ke be)) (fun _ => True) 0 m (Nat.zero_le m) trivial (fun j _ hj _ kk => ?_) (fun _ => ?_)
  · have kk := kk trivial
    have hle := h_wk_le n c tb (d, ht, s, e0, e0) j
    rw [nI_succ (j + 1), fd, h_wk] at kk
    generalize fd (h_wk n c tb) (d, ht, s, e0, e0) j = p at kk hle ⊢
    generalize (some (Sum.inl (if x = 0 then (fd (h_wk n c tb) (d, ht, s, e0, e0) m).2.2.1 else (fd (h_wk n c tb) (d, ht, s, e0, e0) m).2.2.2.2)) : Option ix_V) = res at kk ⊢
    obtain ⟨z, t, h, e, l⟩ := p
    dsimp only at kk hle ⊢
    obtain ⟨hz1, hz2⟩ := w_zq z
    have hlt : w_l n z < n := Nat.mod_lt _ (by omega)
    refine Ev.to 999 rfl ?_
    refine Ev.ff (nI_ngt (by omega) (by omega)) ?_
    refine Ev.to 88 (L1 := [_, _, _, _, _, _, some (.inl (w_z z)), _, _, _, _, _, _, _]) (st1 := []) rfl ?_
    rw [hz1] at kk ⊢
    refine Ev.to 999 rfl ?_
    refine Ev.dv rfl (by decide) ?_
    rw [show nI (w_q z) / 65536 = nI (w_q z / 65536) from pk_div (d := 65536) hz2 (by omega) (by omega)]
    refine Ev.to 999 rfl ?_
    refine Ev.rm rfl (ne_nat (by omega) (by omega)) ?_
    rw [pk_rem (d := n) (Nat.lt_of_le_of_lt (Nat.div_le_self _ _) hz2) (by omega) (by omega)]
    change Ev _ _ _ (.inl (nI (w_l n z)) :: _) _ _
    refine Ev.to 105 (L1 := [_, _, _, _, _, _, _, _, _, _, _, _, some (.inl (h_wo n z h)), _]) (st1 := []) rfl ?_
    refine Ev.to 999 rfl ?_
    refine Ev.callV (rest := []) rfl rfl (m_energyOf hn _) ?_
    generalize h_en n c tb (h_wo n z h) = v at kk ⊢
    generalize h_wo n z h = o at kk ⊢
    refine Ev.to 999 (L1 := [_, _, _, _, _, _, _, _, _, _, _, _, _, _]) rfl ?_
    refine Ev.dv rfl (by decide) ?_
    rw [show nI (w_q z) / 256 = nI (w_q z / 256) from pk_div (d := 256) hz2 (by omega) (by omega)]
    refine Ev.to 999 rfl ?_
    refine Ev.rm rfl (by show nI t + 1 ≠ 0; rw [nI_1]; exact ne_nat (by omega) (by omega)) ?_
    have et : (nI (w_q z / 256) - nI (w_q z / 256) / (nI t + 1) * (nI t + 1)) = w_t z t := by
      rw [nI_1]; exact pk_rem (d := t + 1) (Nat.lt_of_le_of_lt (Nat.div_le_self _ _) hz2) (by omega) (by omega)
    change Ev _ _ _ (.inl (nI (w_q z / 256) - nI (w_q z / 256) / (nI t + 1) * (nI t + 1)) :: _) _ _
    rw [et]
    generalize w_t z t = T at kk ⊢
    -- the tail: every tenth move
    have tail : ∀ (h2 e2 l2 : Int32) (z12 z13 : Option ix_V), Ev m_X5_walk 67 [some (.inr 0), some (.inl s), some (.inl d), some (.inl (nI ht)), some (.inl (nI m)), some (.inl x), some (.inl (nI (w_q z))), some (.inl (nI (w_n j t))), some (.inl h2), some (.inl e2), some (.inl l2), some (.inl (nI (j + 1) + 1)), none, none] [] (mw n c tb tl se on dd ch fs fo cm ce li ke be) (res, (mw n c tb tl se on dd ch fs fo cm ce li ke be)) → Ev m_X5_walk 156 [some (.inr 0), some (.inl s), some (.inl d), some (.inl (nI ht)), some (.inl (nI m)), some (.inl x), some (.inl (nI (w_q z))), some (.inl (nI t)), some (.inl h2), some (.inl e2), some (.inl l2), some (.inl (nI (j + 1))), z12, z13] [] (mw n c tb tl se on dd ch fs fo cm ce li ke be) (res, (mw n c tb tl se on dd ch fs fo cm ce li ke be)) := by
      intro h2 e2 l2 z12 z13 k2
      refine Ev.to 999 rfl ?_
      refine Ev.rm rfl (by decide) ?_
      rw [show nI (j + 1) - nI (j + 1) / 10 * 10 = nI ((j + 1) % 10) from pk_rem (d := 10) (by omega) (by omega) (by omega)]
      refine Ev.to 999 rfl ?_
      refine Ev.if_ (fun h5 => ?_) (fun h5 => ?_)
      · have h6 : (j + 1) % 10 = 0 := (nI_eq (b := 0) (by omega) (by omega)).mp h5
        rw [w_n, if_pos h6] at k2
        refine Ev.to 999 rfl ?_
        refine Ev.dv rfl (by decide) ?_
        have e9 : nI t * 9 / 10 = nI (t * 9 / 10) := by
          rw [show nI t * 9 = nI (t * 9) from pk_mul t 9]
          exact pk_div (d := 10) (by omega) (by omega) (by omega)
        refine Ev.to 67 (L1 := [_, _, _, _, _, _, _, some (.inl (nI t * 9 / 10)), _, _, _, _, _, _]) (st1 := []) rfl ?_
        rw [e9]
        exact Ev.fg k2 (le_cc (le_cc (le_cc (le_cc (le_cc (le_cc (le_cc (le_cc (le_cc (le_cc (le_cc (le_cc (le_nc (le_nc le_nil))))))))))))))
      · have h6 : ¬ (j + 1) % 10 = 0 := fun q => h5 ((nI_eq (b := 0) (by omega) (by omega)).mpr q)
        rw [w_n, if_neg h6] at k2
        exact Ev.to 67 (L1 := [_, _, _, _, _, _, _, _, _, _, _, _, _, _]) rfl (Ev.fg k2 (le_cc (le_cc (le_cc (le_cc (le_cc (le_cc (le_cc (le_cc (le_cc (le_cc (le_cc (le_cc (le_nc (le_nc le_nil)))))))))))))))
    have least : ∀ (h2 e2 : Int32) (z12 z13 : Option ix_V), Ev m_X5_walk 67 [some (.inr 0), some (.inl s), some (.inl d), some (.inl (nI ht)), some (.inl (nI m)), some (.inl x), some (.inl (nI (w_q z))), some (.inl (nI (w_n j t))), some (.inl h2), some (.inl e2), some (.inl (h_wm e2 l)), some (.inl (nI (j + 1) + 1)), none, none] [] (mw n c tb tl se on dd ch fs fo cm ce li ke be) (res, (mw n c tb tl se on dd ch fs fo cm ce li ke be)) → Ev m_X5_walk 140 [some (.inr 0), some (.inl s), some (.inl d), some (.inl (nI ht)), some (.inl (nI m)), some (.inl x), some (.inl (nI (w_q z))), some (.inl (nI t)), some (.inl h2), some (.inl e2), some (.inl l), some (.inl (nI (j + 1))), z12, z13] [] (mw n c tb tl se on dd ch fs fo cm ce li ke be) (res, (mw n c tb tl se on dd ch fs fo cm ce li ke be)) := by
      intro h2 e2 z12 z13 k2
      refine Ev.to 999 rfl ?_
      refine Ev.if_ (fun h5 => ?_) (fun h5 => ?_)
      · rw [h_wm, if_pos h5] at k2
        exact Ev.to 156 (L1 := [_, _, _, _, _, _, _, _, _, _, _, _, _, _]) rfl (tail _ _ _ _ _ k2)
      · rw [h_wm, if_neg h5] at k2
        exact Ev.to 156 (L1 := [_, _, _, _, _, _, _, _, _, _, _, _, _, _]) rfl (tail _ _ _ _ _ k2)
    refine Ev.to 999 rfl ?_
    refine Ev.if_ (fun h5 => ?_) (fun h5 => ?_)
    · rw [if_neg (fun z => i32_nlt.mpr z h5)] at kk
      exact least _ _ _ _ kk
    · rw [if_pos (i32_nlt.mp h5)] at kk
      exact Ev.to 140 (L1 := [_, _, _, _, _, _, _, _, _, _, _, _, _, _]) rfl (least _ _ _ _ kk)
  · refine Ev.to 999 rfl ?_
    refine Ev.tt (nI_gt1 (by omega)) ?_
    exact m_walk_end _ _ _
/-! count -/
theorem m_count_no {n : Nat} {c : Int32} {tb : Nat → Int32} {tl : Nat} {se on : Nat → Int32} {dd : Int32} {ch : Nat → Int32} {fs fo : Int32} {cm : Nat} {ce li ke be : Nat → Int32} {x : Int32} (h : x.toInt < 0 ∨ 5 < x.toInt) : Cl m_X5_count [.inr 0, .inl x] (mw n c tb tl se on dd ch fs fo cm ce li ke be) (some (.inl (-2147483648))) (mw n c tb tl se on dd ch fs fo cm ce li ke be) := by
  refine Ev.to 999 (L1 := [_, _, _, _, _]) rfl ?_
  refine Ev.tsO rfl h (tgt := 124) (by decide) ?_
  refine Ev.to 999 rfl ?_
  exact Ev.iret rfl rfl rfl rfl
theorem m_count0 {n : Nat} {c : Int32} {tb : Nat → Int32} {tl : Nat} {se on : Nat → Int32} {dd : Int32} {ch : Nat → Int32} {fs fo : Int32} {cm : Nat} {ce li ke be : Nat → Int32} : Cl m_X5_count [.inr 0, .inl 0] (mw n c tb tl se on dd ch fs fo cm ce li ke be) (some (.inl (nI n))) (mw n c tb tl se on dd ch fs fo cm ce li ke be) := by
  refine Ev.to 999 (L1 := [_, _, _, _, _]) rfl ?_
  refine Ev.st1 (pc1 := 40) rfl rfl rfl ?_
  refine Ev.to 999 rfl ?_
  exact Ev.iret rfl rfl rfl rfl
def h_wp (tb : Nat → Int32) (i j : Nat) (a : Int32) : Int32 := a + (if tb (8 * i + j) = 0 then 0 else 1)
def h_wpr (tb : Nat → Int32) (i : Nat) (a : Int32) : Int32 := fd (h_wp tb i) a i
theorem m_count1 {n : Nat} {c : Int32} {tb : Nat → Int32} {tl : Nat} {se on : Nat → Int32} {dd : Int32} {ch : Nat → Int32} {fs fo : Int32} {cm : Nat} {ce li ke be : Nat → Int32} (hn : n ≤ 8) : Cl m_X5_count [.inr 0, .inl 1] (mw n c tb tl se on dd ch fs fo cm ce li ke be) (some (.inl (fd (h_wpr tb) 0 n))) (mw n c tb tl se on dd ch fs fo cm ce li ke be) := by
  refine Ev.to 999 (L1 := [_, _, _, _, _]) rfl ?_
  refine Ev.st1 (pc1 := 45) rfl rfl rfl ?_
  refine Ev.to 47 (L1 := [_, _, _, _, _]) (st1 := []) rfl ?_
  refine Ev.loop (fun i => [some (.inr 0), some (.inl 1), some (.inl (fd (h_wpr tb) 0 i)), some (.inl (nI i)), none]) (fun _ => (mw n c tb tl se on dd ch fs fo cm ce li ke be)) (fun _ => True) 0 n (Nat.zero_le n) trivial (fun i _ hi _ kk => ?_) (fun _ => ?_)
  · have kk := kk trivial
    rw [nI_succ, fd, h_wpr] at kk
    refine Ev.to 999 rfl ?_
    refine Ev.ff (nI_ng hi (by omega)) ?_
    generalize fd (h_wpr tb) 0 i = a0 at kk ⊢
    refine Ev.to 58 (L1 := [_, _, _, _, _]) (st1 := []) rfl ?_
    refine Ev.loop (fun j => [some (.inr 0), some (.inl 1), some (.inl (fd (h_wp tb i) a0 j)), some (.inl (nI i)), some (.inl (nI j))]) (fun _ => (mw n c tb tl se on dd ch fs fo cm ce li ke be)) (fun _ => True) 0 i (Nat.zero_le i) trivial (fun j _ hj _ k2 => ?_) (fun _ => ?_)
    · have k2 := k2 trivial
      rw [nI_succ, fd, h_wp] at k2
      refine Ev.to 999 rfl ?_
      refine Ev.ff (nI_ng hj (by omega)) ?_
      refine Ev.to 999 rfl ?_
      refine Ev.aldE (8 * i + j) (ni8' i j) rfl rfl (by omega) (by decide) ?_
      refine Ev.to 999 rfl ?_
      refine Ev.if_ (fun h => ?_) (fun h => ?_)
      · rw [if_pos h] at k2
        exact Ev.to 58 (L1 := [_, _, _, _, _]) rfl k2
      · rw [if_neg h] at k2
        exact Ev.to 58 (L1 := [_, _, _, _, _]) rfl k2
    · refine Ev.to 999 rfl ?_
      refine Ev.tt (nI_gg (by omega)) ?_
      exact Ev.to 47 (L1 := [_, _, _, _, _]) rfl (Ev.fg kk (le_cc (le_cc (le_cc (le_cc (le_nc le_nil))))))
  · refine Ev.to 999 rfl ?_
    refine Ev.tt (nI_gg (by omega)) ?_
    refine Ev.to 999 rfl ?_
    exact Ev.iret rfl rfl rfl rfl
theorem m_count2 {n : Nat} {c : Int32} {tb : Nat → Int32} {tl : Nat} {se on : Nat → Int32} {dd : Int32} {ch : Nat → Int32} {fs fo : Int32} {cm : Nat} {ce li ke be : Nat → Int32} : Cl m_X5_count [.inr 0, .inl 2] (mw n c tb tl se on dd ch fs fo cm ce li ke be) (some (.inl (nI tl))) (mw n c tb tl se on dd ch fs fo cm ce li ke be) := by
  refine Ev.to 999 (L1 := [_, _, _, _, _]) rfl ?_
  refine Ev.st1 (pc1 := 101) rfl rfl rfl ?_
  refine Ev.to 999 rfl ?_
  exact Ev.iret rfl rfl rfl rfl
theorem m_count3 {n : Nat} {c : Int32} {tb : Nat → Int32} {tl : Nat} {se on : Nat → Int32} {dd : Int32} {ch : Nat → Int32} {fs fo : Int32} {cm : Nat} {ce li ke be : Nat → Int32} : Cl m_X5_count [.inr 0, .inl 3] (mw n c tb tl se on dd ch fs fo cm ce li ke be) (some (.inl (io dd))) (mw n c tb tl se on dd ch fs fo cm ce li ke be) := by
  refine Ev.to 999 (L1 := [_, _, _, _, _]) rfl ?_
  refine Ev.st1 (pc1 := 106) rfl rfl rfl ?_
  refine Ev.to 999 rfl ?_
  refine Ev.callS rfl rfl (m_ones _ _) ?_
  exact Ev.iret rfl rfl rfl rfl
theorem m_count4 {n : Nat} {c : Int32} {tb : Nat → Int32} {tl : Nat} {se on : Nat → Int32} {dd : Int32} {ch : Nat → Int32} {fs fo : Int32} {cm : Nat} {ce li ke be : Nat → Int32} (hn : n ≤ 8) : Cl m_X5_count [.inr 0, .inl 4] (mw n c tb tl se on dd ch fs fo cm ce li ke be) (some (.inl (fd (h_tog ch) 0 n))) (mw n c tb tl se on dd ch fs fo cm ce li ke be) := by
  refine Ev.to 999 (L1 := [_, _, _, _, _]) rfl ?_
  refine Ev.st1 (pc1 := 114) rfl rfl rfl ?_
  refine Ev.to 999 rfl ?_
  refine Ev.callV rfl rfl (m_together hn) ?_
  exact Ev.iret rfl rfl rfl rfl
theorem m_count5 {n : Nat} {c : Int32} {tb : Nat → Int32} {tl : Nat} {se on : Nat → Int32} {dd : Int32} {ch : Nat → Int32} {fs fo : Int32} {cm : Nat} {ce li ke be : Nat → Int32} : Cl m_X5_count [.inr 0, .inl 5] (mw n c tb tl se on dd ch fs fo cm ce li ke be) (some (.inl c)) (mw n c tb tl se on dd ch fs fo cm ce li ke be) := by
  refine Ev.to 999 (L1 := [_, _, _, _, _]) rfl ?_
  refine Ev.st1 (pc1 := 119) rfl rfl rfl ?_
  refine Ev.to 999 rfl ?_
  exact Ev.iret rfl rfl rfl rfl
end
section
/-! counting bits -/
def nb1 (x : Nat) : Nat := x - (x / 2 &&& 1431655765)
def nb2 (x : Nat) : Nat := (x &&& 858993459) + (x / 4 &&& 858993459)
def nb3 (x : Nat) : Nat := (x + x / 16) &&& 252645135
theorem and_cat (k u p v q : Nat) (hu : u < 2 ^ k) (hp : p < 2 ^ k) : (2 ^ k * v + u) &&& (2 ^ k * q + p) = 2 ^ k * (v &&& q) + (u &&& p) := by
  apply Nat.eq_of_testBit_eq
  intro i
  rw [Nat.testBit_and, Nat.testBit_two_pow_mul_add v hu, Nat.testBit_two_pow_mul_add q hp, Nat.testBit_two_pow_mul_add _ (Nat.and_lt_two_pow u hp)]
  split
  · rw [Nat.testBit_and]
  · rw [Nat.testBit_and]
theorem and_low {k u q p : Nat} (hu : u < 2 ^ k) (hp : p < 2 ^ k) : u &&& (2 ^ k * q + p) = u &&& p := by
  have := and_cat k u p 0 q hu hp
  simpa using this
theorem nb1_cat {a b : Nat} (ha : a < 256) (hb : b < 2 ^ 24) : nb1 (256 * b + a) = 256 * nb1 b + nb1 a := by
  have t1 : ∀ a, a < 256 → ∀ e, e < 2 → (128 * e + a / 2) &&& 85 = a / 2 &&& 1431655765 := by decide +kernel
  unfold nb1
  have e1 : (256 * b + a) / 2 = 2 ^ 8 * (b / 2) + (128 * (b % 2) + a / 2) := by omega
  have e2 : (1431655765 : Nat) = 2 ^ 8 * 5592405 + 85 := by decide
  have h1 : (256 * b + a) / 2 &&& 1431655765 = 2 ^ 8 * (b / 2 &&& 5592405) + (a / 2 &&& 1431655765) := by
    rw [e1, e2, and_cat 8 _ _ _ _ (by omega) (by decide), t1 a ha (b % 2) (Nat.mod_lt _ (by decide)), ← e2]
  have h2 : b / 2 &&& 1431655765 = b / 2 &&& 5592405 := by
    rw [show (1431655765 : Nat) = 2 ^ 24 * 85 + 5592405 by decide]
    exact and_low (by omega) (by decide)
  rw [h1, h2]
  have h3 : (b / 2 &&& 5592405) ≤ b := Nat.le_trans Nat.and_le_left (Nat.div_le_self _ _)
  have h4 : (a / 2 &&& 1431655765) ≤ a := Nat.le_trans Nat.and_le_left (Nat.div_le_self _ _)
  omega
theorem nb2_cat {a b : Nat} (ha : a < 256) (hb : b < 2 ^ 24) : nb2 (256 * b + a) = 256 * nb2 b + nb2 a := by
  have t1 : ∀ a, a < 256 → ∀ e, e < 4 → (64 * e + a / 4) &&& 51 = a / 4 &&& 858993459 := by decide +kernel
  have t2 : ∀ a, a < 256 → a &&& 51 = a &&& 858993459 := by decide +kernel
  unfold nb2
  have e1 : (256 * b + a) / 4 = 2 ^ 8 * (b / 4) + (64 * (b % 4) + a / 4) := by omega
  have e2 : (858993459 : Nat) = 2 ^ 8 * 3355443 + 51 := by decide
  have h1 : (256 * b + a) / 4 &&& 858993459 = 2 ^ 8 * (b / 4 &&& 3355443) + (a / 4 &&& 858993459) := by
    rw [e1, e2, and_cat 8 _ _ _ _ (by omega) (by decide), t1 a ha (b % 4) (Nat.mod_lt _ (by decide)), ← e2]
  have h1' : (256 * b + a) &&& 858993459 = 2 ^ 8 * (b &&& 3355443) + (a &&& 858993459) := by
    rw [show 256 * b + a = 2 ^ 8 * b + a by omega]
    rw [e2, and_cat 8 _ _ _ _ (by omega) (by decide), t2 a ha, ← e2]
  have e3 : (858993459 : Nat) = 2 ^ 24 * 51 + 3355443 := by decide
  have h2 : b / 4 &&& 858993459 = b / 4 &&& 3355443 := by
    rw [e3]; exact and_low (by omega) (by decide)
  have h2' : b &&& 858993459 = b &&& 3355443 := by
    rw [e3]; exact and_low (by omega) (by decide)
  rw [h1, h1', h2, h2']
  omega
theorem nb3_cat {a b : Nat} (ha : a ≤ 68) (hb : b < 2 ^ 24) (hb2 : b + b / 16 < 2 ^ 24) (he : b % 16 ≤ 4) : nb3 (256 * b + a) = 256 * nb3 b + nb3 a := by
  have t1 : ∀ a, a < 69 → ∀ e, e < 5 → (a + a / 16 + 16 * e) &&& 15 = (a + a / 16) &&& 252645135 := by decide +kernel
  unfold nb3
  have e1 : 256 * b + a + (256 * b + a) / 16 = 2 ^ 8 * (b + b / 16) + (a + a / 16 + 16 * (b % 16)) := by omega
  have e2 : (252645135 : Nat) = 2 ^ 8 * 986895 + 15 := by decide
  rw [e1]
  have h1 : (2 ^ 8 * (b + b / 16) + (a + a / 16 + 16 * (b % 16))) &&& 252645135 = 2 ^ 8 * ((b + b / 16) &&& 986895) + ((a + a / 16) &&& 252645135) := by
    rw [e2, and_cat 8 _ _ _ _ (by omega) (by decide), t1 a (by omega) (b % 16) (by omega), ← e2]
  have h2 : (b + b / 16) &&& 252645135 = (b + b / 16) &&& 986895 := by
    rw [show (252645135 : Nat) = 2 ^ 24 * 15 + 986895 by decide]
    exact and_low hb2 (by decide)
  rw [h1, h2]
def bc1 (m N : Nat) : Nat := fb_ct (fun i => m.testBit i) N
theorem nb_tab : ∀ a, a < 256 → nb1 a < 256 ∧ nb2 (nb1 a) ≤ 68 ∧ nb2 (nb1 a) % 16 ≤ 4 ∧ nb3 (nb2 (nb1 a)) = bc1 a 8 ∧ bc1 a 8 ≤ 8 := by decide +kernel
theorem bc1_cat {a b : Nat} (ha : a < 256) (N : Nat) : bc1 (256 * b + a) (8 + N) = bc1 a 8 + bc1 b N := by
  unfold bc1
  rw [fb_ct_split]
  congr 1
  · apply fb_ct_cong
    intro k hk
    rw [show 256 * b + a = 2 ^ 8 * b + a by omega, Nat.testBit_two_pow_mul_add b (by omega : a < 2 ^ 8), if_pos hk]
  · apply fb_ct_cong
    intro k hk
    rw [show 256 * b + a = 2 ^ 8 * b + a by omega, Nat.testBit_two_pow_mul_add b (by omega : a < 2 ^ 8), if_neg (by omega), show 8 + k - 8 = k by omega]
theorem nb_all {m : Nat} (hm : m < 2 ^ 20) : ∃ p q r : Nat, p ≤ 8 ∧ q ≤ 8 ∧ r ≤ 8 ∧ nb3 (nb2 (nb1 m)) = 65536 * r + 256 * q + p ∧ bc1 m 20 = p + q + r := by
  obtain ⟨a, b, c, ha, hb, hc, rfl⟩ : ∃ a b c : Nat, a < 256 ∧ b < 256 ∧ c < 16 ∧ m = 256 * (256 * c + b) + a := ⟨m % 256, m / 256 % 256, m / 65536, by omega, by omega, by omega, by omega⟩
  obtain ⟨a1, a2, a3, a4, a5⟩ := nb_tab a ha
  obtain ⟨b1, b2, b3, b4, b5⟩ := nb_tab b hb
  obtain ⟨c1, c2, c3, c4, c5⟩ := nb_tab c (by omega)
  refine ⟨bc1 a 8, bc1 b 8, bc1 c 8, a5, b5, c5, ?_, ?_⟩
  · rw [nb1_cat ha (by omega), nb1_cat hb (by omega), nb2_cat a1 (by omega), nb2_cat b1 (by omega), nb3_cat a2 (by omega) (by omega) (by omega), nb3_cat b2 (by omega) (by omega) (by omega), a4, b4, c4]
    omega
  · rw [show (20 : Nat) = 8 + (8 + 4) from rfl, bc1_cat ha, bc1_cat hb]
    have hc8 : ∀ c, c < 16 → bc1 c 4 = bc1 c 8 := by decide +kernel
    rw [hc8 c hc]; omega
theorem ius_n {n k : Nat} (hk : k < 32) (hn : n < 2 ^ 32) : ius (nI n) (nI k) = nI (n / 2 ^ k) := pk_ushrN hn (nI k) k (s_u k hk)
theorem ibc_n {m : Nat} (hm : m < 2 ^ 20) : ibc (nI m) = nI (bc1 m 20) := by
  obtain ⟨p, q, r, hp, hq, hr, h1, h2⟩ := nb_all hm
  have e1 : ibc1 (nI m) = nI (nb1 m) := by
    unfold ibc1 nb1
    rw [show (1 : Int32) = nI 1 from rfl, ius_n (by omega) (by omega), show (1431655765 : Int32) = nI 1431655765 from rfl, fa_and, pk_sub (Nat.le_trans Nat.and_le_left (Nat.div_le_self _ _))]
  have l1 : nb1 m ≤ m := Nat.sub_le _ _
  have e2 : ibc2 (nI (nb1 m)) = nI (nb2 (nb1 m)) := by
    unfold ibc2 nb2
    rw [show (2 : Int32) = nI 2 from rfl, ius_n (by omega) (by omega), show (858993459 : Int32) = nI 858993459 from rfl, fa_and, fa_and, nI_add]
  have l2 : nb2 (nb1 m) < 2 ^ 31 := by
    have h3 : (nb1 m &&& 858993459) ≤ nb1 m := Nat.and_le_left
    have h4 : (nb1 m / 4 &&& 858993459) ≤ nb1 m := Nat.le_trans Nat.and_le_left (Nat.div_le_self _ _)
    unfold nb2; omega
  have e3 : ibc3 (nI (nb2 (nb1 m))) = nI (nb3 (nb2 (nb1 m))) := by
    unfold ibc3 nb3
    rw [show (4 : Int32) = nI 4 from rfl, ius_n (by omega) (by omega), show (252645135 : Int32) = nI 252645135 from rfl, nI_add, fa_and]
  unfold ibc
  rw [e1, e2, e3, h1, h2]
  unfold ibc4
  rw [show (8 : Int32) = nI 8 from rfl, ius_n (by omega) (by omega), nI_add]
  unfold ibc5
  rw [show (16 : Int32) = nI 16 from rfl, ius_n (by omega) (by omega), nI_add, show (63 : Int32) = nI (2 ^ 6 - 1) from rfl, fa_mask]
  congr 1
  have d1 : (65536 * r + 256 * q + p) / 2 ^ 8 = 256 * r + q := by omega
  rw [d1]
  have d2 : (65536 * r + 256 * q + p + (256 * r + q)) / 2 ^ 16 = r := by omega
  rw [d2]
  omega
theorem io_n (m : Nat) : io (nI m) = nI (bc1 m 20) := by
  have key : ∀ N, N ≤ 32 → fd (h_os (nI m)) 0 N = nI (bc1 m N) := by
    intro N
    induction N with
    | zero => intro _; rfl
    | succ N ih =>
      intro hN
      rw [fd, ih (by omega), h_os, bb_nI (by omega), show bc1 m (N + 1) = bc1 m N + (if m.testBit N = true then 1 else 0) from fb_ct_succ _ _, ← nI_add]
      congr 1
      cases m.testBit N <;> rfl
  exact key 20 (by omega)
/-- both count the same -/
theorem ibc_io {m : Nat} (hm : m < 2 ^ 20) : ibc (nI m) = io (nI m) := by rw [ibc_n hm, io_n]
theorem bc1_le (m N : Nat) : bc1 m N ≤ N := fb_ct_le _ _
theorem and_nI (m : Nat) (y : Int32) : ∃ q, q ≤ m ∧ nI m &&& y = nI q := by
  obtain ⟨z, hz⟩ : ∃ z, y = nI z := ⟨y.toBitVec.toNat, by
    apply Int32.toBitVec_inj.1
    show y.toBitVec = BitVec.ofNat 32 y.toBitVec.toNat
    rw [BitVec.ofNat_toNat, BitVec.setWidth_eq]⟩
  rw [hz, fa_and]
  exact ⟨m &&& z, Nat.and_le_left, rfl⟩
theorem ibc_and {m : Nat} (hm : m < 2 ^ 20) (y : Int32) : ibc (nI m &&& y) = io (nI m &&& y) := by
  obtain ⟨q, hq, e⟩ := and_nI m y
  rw [e]; exact ibc_io (by omega)
/-- folds that agree step by step -/
theorem fd_congr {α : Type} {g h : Nat → α → α} {s : α} : ∀ {n : Nat}, (∀ i a, i < n → g i a = h i a) → fd g s n = fd h s n
  | 0, _ => rfl
  | n + 1, H => by rw [fd, fd, fd_congr (fun i a hi => H i a (by omega)), H n _ (by omega)]
theorem mis_eq (tl : Nat) (se on : Nat → Int32) {s : Nat} (hs : s < 2 ^ 20) : g_mis tl se on (nI s) = h_mis tl se on (nI s) := by
  unfold g_mis h_mis
  apply fd_congr
  intro l a _
  rw [g_ms, h_ms, ibc_and hs]
end
section
/-! energies: sums of ints, by their order and parts -/
def sm (f : Nat → Int32) : Nat → Int32
  | 0 => 0
  | n + 1 => sm f n + f n
theorem sm_congr {f g : Nat → Int32} : ∀ {n : Nat}, (∀ i, i < n → f i = g i) → sm f n = sm g n
  | 0, _ => rfl
  | n + 1, H => by rw [sm, sm, sm_congr (fun i hi => H i (by omega)), H n (by omega)]
theorem fd_sm (f : Nat → Int32) (s : Int32) : ∀ n, fd (fun i a => a + f i) s n = s + sm f n
  | 0 => by rw [fd, sm, Int32.add_zero]
  | n + 1 => by rw [fd, fd_sm f s n, sm, Int32.add_assoc]
theorem sm_add (f g : Nat → Int32) : ∀ n, sm (fun i => f i + g i) n = sm f n + sm g n
  | 0 => by rw [sm, sm, sm, Int32.add_zero]
  | n + 1 => by
    rw [sm, sm, sm, sm_add f g n]
    rw [Int32.add_assoc, Int32.add_assoc, ← Int32.add_assoc (sm g n), Int32.add_comm (sm g n) (f n), Int32.add_assoc]
theorem sm_zero {f : Nat → Int32} : ∀ {n : Nat}, (∀ i, i < n → f i = 0) → sm f n = 0
  | 0, _ => rfl
  | n + 1, H => by rw [sm, sm_zero (fun i hi => H i (by omega)), H n (by omega), Int32.add_zero]
theorem sm_split (f : Nat → Int32) (a : Nat) : ∀ d, sm f (a + d) = sm f a + sm (fun k => f (a + k)) d
  | 0 => by rw [sm, Int32.add_zero]; rfl
  | d + 1 => by rw [show a + (d + 1) = (a + d) + 1 by omega, sm, sm_split f a d, sm, Int32.add_assoc]
/-- one place counts more -/
theorem sm_at {f g : Nat → Int32} {i : Nat} {x : Int32} (hg : ∀ j, j ≠ i → g j = f j) (hi : g i = f i + x) : ∀ {n : Nat}, i < n → sm g n = sm f n + x
  | 0, h => absurd h (by omega)
  | n + 1, h => by
    rw [sm, sm]
    rcases Nat.lt_or_ge i n with q | q
    · rw [sm_at hg hi q, hg n (by omega), Int32.add_assoc, Int32.add_comm x, ← Int32.add_assoc]
    · have e : i = n := by omega
      subst e
      rw [sm_congr (f := g) (g := f) (fun j hj => hg j (by omega)), hi, Int32.add_assoc]
/-- what letter i adds beside the set o -/
theorem gain_sm (n : Nat) (tb : Nat → Int32) (i : Nat) (o : Int32) : g_gain n tb i o = tb (8 * i + i) + sm (fun j => if j ≠ i ∧ bb o j = true then tb (8 * i + j) else 0) n := by
  unfold g_gain
  rw [← fd_sm]
  apply fd_congr
  intro j a _
  rw [g_gs]
  split
  · rfl
  · rw [Int32.add_zero]
theorem hen_sm (n : Nat) (c : Int32) (tb : Nat → Int32) (s : Int32) : h_en n c tb s = c + sm (fun i => sm (h_ev tb s i) (i + 1)) n := by
  unfold h_en
  rw [← fd_sm]
  apply fd_congr
  intro i a _
  rw [h_er, ← fd_sm]
  rfl
theorem msk_n {i : Nat} (hi : i < 9) : ((1 : Int32) <<< (nI i &&& 31)) - 1 = nI (2 ^ i - 1) := by
  have : ∀ i, i < 9 → ((1 : Int32) <<< (nI i &&& 31)) - 1 = nI (2 ^ i - 1) := by decide +kernel
  exact this i hi
/-- bits below i -/
theorem low_bits {s : Nat} {i j : Nat} (hi : i ≤ 8) (hj : j < 32) : bb (nI s &&& (((1 : Int32) <<< (nI i &&& 31)) - 1)) j = (s.testBit j && decide (j < i)) := by
  rw [msk_n (by omega), fa_and, bb_nI hj, Nat.testBit_and, Nat.testBit_two_pow_sub_one]
theorem en_eq {n : Nat} (hn : n ≤ 8) (c : Int32) (tb : Nat → Int32) (s : Nat) : g_en n c tb (nI s) = h_en n c tb (nI s) := by
  rw [hen_sm]
  unfold g_en
  rw [← fd_sm]
  apply fd_congr
  intro i a hi
  rw [g_es, bb_nI (by omega)]
  by_cases hb : s.testBit i = true
  · rw [if_pos hb, gain_sm]
    congr 1
    rw [sm]
    have e0 : h_ev tb (nI s) i i = tb (8 * i + i) := by rw [h_ev, bb_nI (by omega), if_pos ⟨hb, hb⟩]
    rw [e0, Int32.add_comm]
    congr 1
    obtain ⟨d, rfl⟩ : ∃ d, n = i + d := ⟨n - i, by omega⟩
    rw [sm_split]
    rw [sm_zero (f := fun k => if i + k ≠ i ∧ bb (nI s &&& (((1 : Int32) <<< (nI i &&& 31)) - 1)) (i + k) = true then tb (8 * i + (i + k)) else 0), Int32.add_zero]
    · apply sm_congr
      intro j hj
      rw [low_bits (by omega) (by omega), h_ev, bb_nI (by omega), bb_nI (by omega), hb, decide_eq_true hj]
      by_cases hj2 : s.testBit j = true
      · rw [if_pos ⟨by omega, by rw [hj2]; rfl⟩, if_pos ⟨rfl, hj2⟩]
      · rw [if_neg (fun q => hj2 (by simpa using q.2)), if_neg (fun q => hj2 q.2)]
    · intro k hk
      rw [low_bits (by omega) (by omega), decide_eq_false (by omega), if_neg (fun q => by simp at q)]
  · rw [if_neg hb]
    have : sm (h_ev tb (nI s) i) (i + 1) = 0 := sm_zero (fun j hj => by rw [h_ev, bb_nI (by omega), if_neg (fun q => hb q.1)])
    rw [this, Int32.add_zero]
/-- the energy of a set as a function of its bits -/
def enr (tb : Nat → Int32) (p : Nat → Bool) (i : Nat) : Int32 := sm (fun j => if p i = true ∧ p j = true then tb (8 * i + j) else 0) (i + 1)
def enb (n : Nat) (tb : Nat → Int32) (p : Nat → Bool) : Int32 := sm (enr tb p) n
theorem hen_b {n : Nat} (hn : n ≤ 8) (c : Int32) (tb : Nat → Int32) (s : Nat) : h_en n c tb (nI s) = c + enb n tb (fun i => s.testBit i) := by
  rw [hen_sm]
  congr 1
  apply sm_congr
  intro i hi
  apply sm_congr
  intro j hj
  rw [h_ev, bb_nI (by omega), bb_nI (by omega)]
/-- a letter k that comes in: its weight, and those of its pairs with all that are in -/
theorem enb_in {n : Nat} {tb : Nat → Int32} (hsym : ∀ i j, i < 8 → j < 8 → tb (8 * i + j) = tb (8 * j + i)) (hn : n ≤ 8) {k : Nat} {p q : Nat → Bool} (hp : p k = false) (hq : q k = true) (hpq : ∀ j, j ≠ k → q j = p j) (hk : k < n) :
    enb n tb q = enb n tb p + (tb (8 * k + k) + sm (fun j => if j ≠ k ∧ p j = true then tb (8 * k + j) else 0) n) := by
  have key : ∀ N, N ≤ n → enb N tb q = enb N tb p + (if k < N then tb (8 * k + k) + sm (fun j => if j ≠ k ∧ p j = true then tb (8 * k + j) else 0) N else 0) := by
    intro N
    induction N with
    | zero => intro _; rw [if_neg (by omega)]; rfl
    | succ N ih =>
      intro hN
      have ih := ih (by omega)
      unfold enb at ih ⊢
      rw [sm, sm, ih]
      rcases Nat.lt_trichotomy k N with h | h | h
      · -- k < N: row N gets the pair (N, k)
        rw [if_pos h, if_pos (by omega)]
        have hr : enr tb q N = enr tb p N + (if p N = true then tb (8 * k + N) else 0) := by
          unfold enr
          rw [hpq N (by omega)]
          refine sm_at (i := k) (fun j hj => by rw [hpq j hj]) ?_ (by omega)
          rw [hq, hp]
          by_cases hpN : p N = true
          · rw [if_pos ⟨hpN, rfl⟩, if_neg (fun z => by cases z.2), if_pos hpN, Int32.zero_add]
            exact hsym N k (by omega) (by omega)
          · rw [if_neg (fun z => hpN z.1), if_neg (fun z => hpN z.1), if_neg hpN, Int32.zero_add]
        rw [hr, sm]
        have e2 : (if N ≠ k ∧ p N = true then tb (8 * k + N) else 0) = (if p N = true then tb (8 * k + N) else 0) := by
          by_cases hpN : p N = true
          · rw [if_pos ⟨by omega, hpN⟩, if_pos hpN]
          · rw [if_neg (fun z => hpN z.2), if_neg hpN]
        rw [e2]
        generalize (if p N = true then tb (8 * k + N) else 0) = y
        generalize enr tb p N = r
        generalize sm (fun j => if j ≠ k ∧ p j = true then tb (8 * k + j) else 0) N = z
        generalize sm (enr tb p) N = u
        generalize tb (8 * k + k) = v
        rw [Int32.add_assoc u, Int32.add_assoc u, ← Int32.add_assoc (v + z), Int32.add_comm (v + z) r, Int32.add_assoc r, Int32.add_assoc v]
      · -- the row of k itself
        subst h
        rw [if_neg (by omega), if_pos (by omega), Int32.add_zero, Int32.add_assoc]
        congr 1
        have z1 : enr tb p k = 0 := sm_zero (fun j _ => by rw [if_neg (fun z => by rw [hp] at z; cases z.1)])
        rw [z1, Int32.zero_add, enr, sm, sm, if_pos ⟨hq, hq⟩, if_neg (fun z => z.1 rfl), Int32.add_zero, Int32.add_comm]
        congr 1
        apply sm_congr
        intro j hj
        rw [hq, hpq j (by omega)]
        by_cases hpj : p j = true
        · rw [if_pos ⟨rfl, hpj⟩, if_pos ⟨by omega, hpj⟩]
        · rw [if_neg (fun z => hpj z.2), if_neg (fun z => hpj z.2)]
      · -- k beyond N
        rw [if_neg (by omega), if_neg (by omega), Int32.add_zero, Int32.add_zero]
        congr 1
        unfold enr
        apply sm_congr
        intro j hj
        rw [hpq N (by omega), hpq j (by omega)]
  have := key n (Nat.le_refl n)
  rw [if_pos hk] at this
  exact this
/-- the same, of states -/
theorem en_in {n : Nat} {tb : Nat → Int32} (hsym : ∀ i j, i < 8 → j < 8 → tb (8 * i + j) = tb (8 * j + i)) (hn : n ≤ 8) (c : Int32) {k s r : Nat} (hk : k < n) (hs : s.testBit k = true) (hr : r.testBit k = false) (hsr : ∀ j, j ≠ k → s.testBit j = r.testBit j) : h_en n c tb (nI s) = h_en n c tb (nI r) + g_gain n tb k (nI r) := by
  rw [hen_b hn, hen_b hn, enb_in hsym hn hr hs hsr hk, gain_sm, ← Int32.add_assoc]
  congr 2
  apply sm_congr
  intro j hj
  rw [bb_nI (by omega)]
theorem gain_self (n : Nat) (tb : Nat → Int32) {k s r : Nat} (hn : n ≤ 8) (hsr : ∀ j, j ≠ k → s.testBit j = r.testBit j) : g_gain n tb k (nI s) = g_gain n tb k (nI r) := by
  rw [gain_sm, gain_sm]
  congr 1
  apply sm_congr
  intro j hj
  rw [bb_nI (by omega), bb_nI (by omega)]
  by_cases h : j = k
  · rw [if_neg (fun z => z.1 h), if_neg (fun z => z.1 h)]
  · rw [hsr j h]
theorem and_pred_bit (t j : Nat) (ht : t + 1 < 2 ^ 31) : ((t + 1) &&& t).testBit j = ((t + 1).testBit j && !decide (j = lowb (t + 1))) := by
  obtain ⟨hk, q, hq⟩ := low_dec (by omega : 0 < t + 1) ht
  generalize lowb (t + 1) = k at hk hq
  have hp : 0 < 2 ^ k := Nat.two_pow_pos k
  have e2 : t = 2 ^ k * (2 * q) + (2 ^ k - 1) := by
    have : t + 1 = 2 ^ k * (2 * q) + 2 ^ k := by rw [hq, Nat.mul_add]; omega
    omega
  rw [Nat.testBit_and]
  conv => lhs; rhs; rw [e2]
  rw [show t + 1 = 2 ^ k * (2 * q + 1) + 0 by omega, Nat.testBit_two_pow_mul_add (2 * q) (by omega : 2 ^ k - 1 < 2 ^ k), Nat.testBit_two_pow_mul_add (2 * q + 1) hp]
  by_cases hik : j < k
  · rw [if_pos hik]; simp
  · rw [if_neg hik, if_neg hik]
    by_cases e : j = k
    · subst e
      simp
    · obtain ⟨i, hi⟩ : ∃ i, j - k = i + 1 := ⟨j - k - 1, by omega⟩
      rw [hi]
      simp only [Nat.testBit_succ]
      rw [show (2 * q + 1) / 2 = q by omega, show (2 * q) / 2 = q by omega]
      simp [e]
/-- the class's row holds the energies -/
theorem fill_eq {n : Nat} {tb : Nat → Int32} (hsym : ∀ i j, i < 8 → j < 8 → tb (8 * i + j) = tb (8 * j + i)) (hn : n ≤ 8) (c : Int32) (f : Nat → Int32) {s : Nat} (hs : s < 2 ^ n) : g_fill n c tb f s = h_en n c tb (nI s) := by
  have hp := (pw_le hn).1
  have key : ∀ t, t ≤ 2 ^ n - 1 → ∀ s, s ≤ t → fd (g_fs n tb) (upd f 0 c) t s = h_en n c tb (nI s) := by
    intro t
    induction t with
    | zero =>
      intro _ s hs
      have : s = 0 := by omega
      subst this
      rw [fd, pk_us, hen_b hn]
      have : enb n tb (fun i => (0 : Nat).testBit i) = 0 := sm_zero (fun i _ => sm_zero (fun j _ => by rw [if_neg (fun z => by simp at z)]))
      rw [this, Int32.add_zero]
    | succ t ih =>
      intro ht s hs
      have ih := ih (by omega)
      rw [fd, g_fs]
      rcases Nat.lt_or_ge s (t + 1) with q | q
      · rw [pk_un (by omega)]; exact ih s (by omega)
      · have e : s = t + 1 := by omega
        subst e
        rw [pk_us, ih _ (Nat.and_le_right)]
        have hb : (t + 1).testBit (lowb (t + 1)) = true := lowb_bit (by omega) (by omega)
        have hl : lowb (t + 1) < n := lowb_lt (by omega) (by omega) (by omega)
        rw [en_in hsym hn c (k := lowb (t + 1)) (s := t + 1) (r := (t + 1) &&& t) hl hb (by rw [and_pred_bit t _ (by omega), hb]; simp) (fun j hj => by rw [and_pred_bit t _ (by omega), decide_eq_false hj]; simp)]
  exact key (2 ^ n - 1) (Nat.le_refl _) s (by omega)
end
section
/-! class and reference side by side -/
def Inv (k n : Nat) (c : Int32) (tb : Nat → Int32) (tl : Nat) (on : Nat → Int32) (dd : Int32) (ch : Nat → Int32) : Prop :=
  (1 ≤ n ∧ n ≤ 8 ∧ tl ≤ 6) ∧ (∀ i j, i < 8 → j < 8 → tb (8 * i + j) = tb (8 * j + i)) ∧ (∀ i j, i < 8 → j < 8 → (n ≤ i ∨ n ≤ j) → tb (8 * i + j) = 0) ∧ (∀ q, q < 64 → -(60 + 10 * (k : Int)) ≤ (tb q).toInt ∧ (tb q).toInt ≤ 60 + 10 * (k : Int)) ∧ (-(186480 * (k : Int)) ≤ c.toInt ∧ c.toInt ≤ 186480 * (k : Int)) ∧ (∀ l, l < tl → 0 ≤ (on l).toInt ∧ (on l).toInt ≤ 8) ∧ (∃ d, d < 2 ^ 20 ∧ dd = nI d) ∧ (∃ mm : Nat → Nat, (∀ i, i < 8 → ch i = nI (mm i) ∧ mm i < 2 ^ 20) ∧ ∀ i, n ≤ i → i < 8 → mm i = 0)
def Rel (k : Nat) (wc wm : ix_W) : Prop := ∃ (n : Nat) (c : Int32) (tb : Nat → Int32) (tl : Nat) (se on : Nat → Int32) (dd : Int32) (ch tn ro ot ow tr tu ld : Nat → Int32) (lc : Nat) (cc br bw fs fo : Int32) (cm : Nat) (ce li ke be : Nat → Int32), wc = (cw n c tb tn tl se on dd ch ro ot ow tr tu ld lc cc br bw) ∧ wm = (mw n c tb tl se on dd ch fs fo cm ce li ke be) ∧ Inv k n c tb tl on dd ch
theorem Rel.mk' {k n : Nat} {c : Int32} {tb : Nat → Int32} {tl : Nat} {se on : Nat → Int32} {dd : Int32} {ch tn ro ot ow tr tu ld : Nat → Int32} {lc : Nat} {cc br bw fs fo : Int32} {cm : Nat} {ce li ke be : Nat → Int32} (I : Inv k n c tb tl on dd ch) : Rel k (cw n c tb tn tl se on dd ch ro ot ow tr tu ld lc cc br bw) (mw n c tb tl se on dd ch fs fo cm ce li ke be) := ⟨_, _, _, _, _, _, _, _, _, _, _, _, _, _, _, _, _, _, _, _, _, _, _, _, _, _, rfl, rfl, I⟩
def Both (k m1 m2 : Nat) (as : List ix_V) (wc wm : ix_W) : Prop := ∃ (r : Int32) (wc1 wm1 : ix_W), Cl m1 (.inr 0 :: as) wc (some (.inl r)) wc1 ∧ Cl m2 (.inr 0 :: as) wm (some (.inl r)) wm1 ∧ Rel (k + 1) wc1 wm1
theorem Inv.up {k n : Nat} {c : Int32} {tb : Nat → Int32} {tl : Nat} {on : Nat → Int32} {dd : Int32} {ch : Nat → Int32} (I : Inv k n c tb tl on dd ch) : Inv (k + 1) n c tb tl on dd ch := by
  obtain ⟨h1, h2, h3, h4, h5, h6, h7, h8⟩ := I
  refine ⟨h1, h2, h3, fun q hq => ?_, ?_, h6, h7, h8⟩
  · have := h4 q hq; omega
  · omega
theorem inw_rng {x : Int32} {a b : Nat} (hb : b < 2 ^ 31) (ha : a < 2 ^ 31) (h : inw x (nI a) (nI b) = true) : ∃ m : Nat, a ≤ m ∧ m ≤ b ∧ x = nI m := by
  obtain ⟨h1, h2⟩ := of_decide_eq_true h
  have h0 : ¬ x < 0 := fun q => by
    rw [fa_lt] at q
    rw [fa_le, nI_toInt ha] at h1
    have : (0 : Int32).toInt = 0 := rfl
    omega
  obtain ⟨m, hm, rfl⟩ := nI_of h0
  exact ⟨m, (nI_leI ha hm).mp h1, (nI_leI hm hb).mp h2, rfl⟩
theorem inw_no {x a b : Int32} (h : ¬ inw x a b = true) : inw x a b = false := by
  cases e : inw x a b with
  | true => exact absurd e h
  | false => rfl
theorem zero_fill (f : Nat → Int32) (N q : Nat) : fd (fun j f => upd f j 0) f N q = if q < N then 0 else f q := by
  induction N with
  | zero => rw [if_neg (by omega)]; rfl
  | succ N ih =>
    rw [fd]
    by_cases h : q = N
    · subst h; rw [pk_us, if_pos (by omega)]
    · rw [pk_un h, ih]
      by_cases h2 : q < N
      · rw [if_pos h2, if_pos (by omega)]
      · rw [if_neg h2, if_neg (by omega)]
theorem b_letters {k : Nat} {wc wm : ix_W} (R : Rel k wc wm) (x : Int32) : Both k m_X4_letters m_X5_letters [.inl x] wc wm := by
  obtain ⟨n, c, tb, tl, se, on, dd, ch, tn, ro, ot, ow, tr, tu, ld, lc, cc, br, bw, fs, fo, cm, ce, li, ke, be, rfl, rfl, I⟩ := R
  by_cases h : inw x 1 8 = true
  · obtain ⟨m, hm1, hm2, rfl⟩ := inw_rng (a := 1) (b := 8) (by omega) (by omega) h
    refine ⟨_, _, _, c_letters m h, m_letters m h, Rel.mk' ?_⟩
    obtain ⟨h1, h2, h3, h4, h5, h6, h7, h8⟩ := I
    refine ⟨⟨hm1, hm2, by omega⟩, ?_, ?_, ?_, ?_, fun l hl => absurd hl (by omega), h7, ?_⟩
    · intro i j hi hj
      rw [zero_fill, zero_fill, if_pos (by omega), if_pos (by omega)]
    · intro i j hi hj _
      rw [zero_fill, if_pos (by omega)]
    · intro q hq
      rw [zero_fill, if_pos hq]
      have : (0 : Int32).toInt = 0 := rfl
      omega
    · have : (0 : Int32).toInt = 0 := rfl
      omega
    · refine ⟨fun _ => 0, fun i hi => ?_, fun _ _ _ => rfl⟩
      rw [zero_fill, if_pos hi]
      exact ⟨rfl, Nat.two_pow_pos 20⟩
  · exact ⟨_, _, _, c_letters_no (inw_no h), m_letters_no (inw_no h), Rel.mk' I.up⟩
theorem put2_at (tb : Nat → Int32) (a b : Nat) (x : Int32) {i j : Nat} (ha : a < 8) (hb : b < 8) (hi : i < 8) (hj : j < 8) : upd (upd tb (8 * a + b) x) (8 * b + a) x (8 * i + j) = if (i = a ∧ j = b) ∨ (i = b ∧ j = a) then x else tb (8 * i + j) := by
  by_cases h1 : i = b ∧ j = a
  · rw [if_pos (Or.inr h1), h1.1, h1.2, pk_us]
  · rw [pk_un (by omega)]
    by_cases h2 : i = a ∧ j = b
    · rw [if_pos (Or.inl h2), h2.1, h2.2, pk_us]
    · rw [pk_un (by omega), if_neg (fun q => q.elim h2 h1)]
theorem b_weigh {k : Nat} {wc wm : ix_W} (R : Rel k wc wm) (x y z : Int32) : Both k m_X4_weigh m_X5_weigh [.inl x, .inl y, .inl z] wc wm := by
  obtain ⟨n, c, tb, tl, se, on, dd, ch, tn, ro, ot, ow, tr, tu, ld, lc, cc, br, bw, fs, fo, cm, ce, li, ke, be, rfl, rfl, I⟩ := R
  by_cases h1 : inw x 0 (nI n - 1) = true
  · by_cases h2 : inw y 0 (nI n - 1) = true
    · by_cases h3 : inw z (-60) 60 = true
      · have hn := I.1.2.1
        obtain ⟨a, ha, rfl⟩ := inw_of (by omega) h1
        obtain ⟨b, hb, rfl⟩ := inw_of (by omega) h2
        refine ⟨_, _, _, c_weigh (by omega) (by omega) h1 h2 h3, m_weigh (by omega) (by omega) h1 h2 h3, Rel.mk' ?_⟩
        obtain ⟨i1, i2, i3, i4, i5, i6, i7, i8⟩ := I
        obtain ⟨z1, z2⟩ := of_decide_eq_true h3
        rw [fa_le] at z1 z2
        have e1 : (-60 : Int32).toInt = -60 := rfl
        have e2 : (60 : Int32).toInt = 60 := rfl
        refine ⟨i1, ?_, ?_, ?_, by omega, i6, i7, i8⟩
        · intro i j hi hj
          rw [put2_at tb a b z (by omega) (by omega) hi hj, put2_at tb a b z (by omega) (by omega) hj hi, i2 i j hi hj]
          by_cases q : (i = a ∧ j = b) ∨ (i = b ∧ j = a)
          · rw [if_pos q, if_pos (by omega)]
          · rw [if_neg q, if_neg (by omega)]
        · intro i j hi hj hh
          rw [put2_at tb a b z (by omega) (by omega) hi hj, if_neg (by omega)]
          exact i3 i j hi hj hh
        · intro q hq
          have e : q = 8 * (q / 8) + q % 8 := by omega
          rw [e, put2_at tb a b z (by omega) (by omega) (by omega) (by omega)]
          split
          · omega
          · have := i4 _ (by omega : 8 * (q / 8) + q % 8 < 64); omega
      · exact ⟨_, _, _, c_weigh_no (Or.inr (Or.inr (inw_no h3))), m_weigh_no (Or.inr (Or.inr (inw_no h3))), Rel.mk' I.up⟩
    · exact ⟨_, _, _, c_weigh_no (Or.inr (Or.inl (inw_no h2))), m_weigh_no (Or.inr (Or.inl (inw_no h2))), Rel.mk' I.up⟩
  · exact ⟨_, _, _, c_weigh_no (Or.inl (inw_no h1)), m_weigh_no (Or.inl (inw_no h1)), Rel.mk' I.up⟩
theorem b_weight {k : Nat} {wc wm : ix_W} (R : Rel k wc wm) (x y : Int32) : Both k m_X4_weight m_X5_weight [.inl x, .inl y] wc wm := by
  obtain ⟨n, c, tb, tl, se, on, dd, ch, tn, ro, ot, ow, tr, tu, ld, lc, cc, br, bw, fs, fo, cm, ce, li, ke, be, rfl, rfl, I⟩ := R
  by_cases h1 : inw x 0 (nI n - 1) = true
  · by_cases h2 : inw y 0 (nI n - 1) = true
    · have hn := I.1.2.1
      obtain ⟨a, ha, rfl⟩ := inw_of (by omega) h1
      obtain ⟨b, hb, rfl⟩ := inw_of (by omega) h2
      exact ⟨_, _, _, c_weight (by omega) (by omega) h1 h2, m_weight (by omega) (by omega) h1 h2, Rel.mk' I.up⟩
    · exact ⟨_, _, _, c_weight_no (Or.inr (inw_no h2)), m_weight_no (Or.inr (inw_no h2)), Rel.mk' I.up⟩
  · exact ⟨_, _, _, c_weight_no (Or.inl (inw_no h1)), m_weight_no (Or.inl (inw_no h1)), Rel.mk' I.up⟩
theorem b_energy {k : Nat} {wc wm : ix_W} (R : Rel k wc wm) (x : Int32) : Both k m_X4_energy m_X5_energy [.inl x] wc wm := by
  obtain ⟨n, c, tb, tl, se, on, dd, ch, tn, ro, ot, ow, tr, tu, ld, lc, cc, br, bw, fs, fo, cm, ce, li, ke, be, rfl, rfl, I⟩ := R
  have hn := I.1.2.1
  have hp := (pw_le hn).1
  refine ⟨_, _, _, c_energy hn x, Cl.eq (m_energy hn x) rfl ?_, Rel.mk' I.up⟩
  by_cases h : inw x 0 (nI (2 ^ n) - 1) = true
  · obtain ⟨a, ha, rfl⟩ := inw_of (by omega) h
    rw [if_pos h, if_pos h, en_eq hn]
  · rw [if_neg h, if_neg h]
theorem lok_eq {n : Nat} (hn : n ≤ 8) (s k : Int32) : g_lok n s k = h_lok n s k := by
  have hp := (pw_le hn).1
  unfold g_lok h_lok
  by_cases h : inw s 0 (nI (2 ^ n) - 1) = true
  · obtain ⟨a, ha, rfl⟩ := inw_of (by omega) h
    rw [h, ibc_io (by omega)]
    by_cases h0 : a = 0
    · subst h0
      have e1 : inw (nI 0) 1 (nI (2 ^ n) - 1) = false := decide_eq_false (fun q => absurd q.1 (by decide))
      rw [e1, decide_eq_false (fun q => q rfl)]
      rfl
    · have e1 : inw (nI a) 1 (nI (2 ^ n) - 1) = true := by
        obtain ⟨q1, q2⟩ := of_decide_eq_true h
        exact decide_eq_true ⟨nI_le (a := 1) (by omega) (by omega), q2⟩
      rw [e1, decide_eq_true (nI_ne0 (by omega) (by omega))]; rfl
  · have e1 : inw s 1 (nI (2 ^ n) - 1) = false := decide_eq_false (fun q => h (decide_eq_true ⟨by
      have := q.1
      rw [fa_le] at this ⊢
      have e0 : (0 : Int32).toInt = 0 := rfl
      have e1 : (1 : Int32).toInt = 1 := rfl
      omega, q.2⟩))
    rw [inw_no h, e1]; rfl
theorem bc8 : ∀ a, a < 256 → bc1 a 20 ≤ 8 := by decide +kernel
theorem b_law {k : Nat} {wc wm : ix_W} (R : Rel k wc wm) (x y : Int32) : Both k m_X4_law m_X5_law [.inl x, .inl y] wc wm := by
  obtain ⟨n, c, tb, tl, se, on, dd, ch, tn, ro, ot, ow, tr, tu, ld, lc, cc, br, bw, fs, fo, cm, ce, li, ke, be, rfl, rfl, I⟩ := R
  obtain ⟨hn1, hn, ht⟩ := I.1
  have hp := (pw_le hn).1
  have hl := lok_eq hn x y
  cases h : g_lok n x y with
  | false => exact ⟨_, _, _, c_law_no hn h, m_law_no hn (hl ▸ h), Rel.mk' I.up⟩
  | true =>
    rcases Nat.lt_or_ge tl 6 with q | q
    · refine ⟨_, _, _, c_law hn h q, m_law hn (hl ▸ h) q, Rel.mk' ?_⟩
      obtain ⟨i1, i2, i3, i4, i5, i6, i7, i8⟩ := I.up
      refine ⟨⟨hn1, hn, by omega⟩, i2, i3, i4, i5, fun l hl2 => ?_, i7, i8⟩
      rcases Nat.lt_or_ge l tl with z | z
      · rw [pk_un (by omega)]; exact i6 l z
      · have : l = tl := by omega
        subst this
        rw [pk_us]
        rw [g_lok, Bool.and_eq_true, Bool.and_eq_true] at h
        obtain ⟨a, ha, rfl⟩ := inw_of (by omega) h.1
        rw [ibc_n (by omega)] at h
        obtain ⟨m, -, hm, rfl⟩ := inw_rng (a := 0) (b := bc1 a 20) (by have := bc1_le a 20; omega) (by omega) h.2.2
        have := bc8 a (by omega)
        rw [nI_toInt (by omega)]
        omega
    · have : tl = 6 := by omega
      exact ⟨_, _, _, c_law_full hn h this, m_law_full hn (hl ▸ h) this, Rel.mk' I.up⟩
theorem b_unlaw {k : Nat} {wc wm : ix_W} (R : Rel k wc wm) : Both k m_X4_unlaw m_X5_unlaw [] wc wm := by
  obtain ⟨n, c, tb, tl, se, on, dd, ch, tn, ro, ot, ow, tr, tu, ld, lc, cc, br, bw, fs, fo, cm, ce, li, ke, be, rfl, rfl, I⟩ := R
  cases tl with
  | zero => exact ⟨_, _, _, c_unlaw_no rfl, m_unlaw_no rfl, Rel.mk' I.up⟩
  | succ tl =>
    obtain ⟨⟨i0, i1, i1'⟩, i2, i3, i4, i5, i6, i7, i8⟩ := I.up
    exact ⟨_, _, _, c_unlaw (by omega), m_unlaw (by omega), Rel.mk' ⟨⟨i0, i1, by omega⟩, i2, i3, i4, i5, fun l hl => i6 l (by omega), i7, i8⟩⟩
theorem floor_eq (n : Nat) (c : Int32) (tb : Nat → Int32) : fd (g_lbr tb) c n = fd (h_lbr tb) c n := by
  apply fd_congr
  intro i a _
  rw [g_lbr, h_lbr]
  apply fd_congr
  intro j b _
  rw [g_lb, h_lb, imin]
  congr 1
  by_cases h : 0 ≤ tb (8 * i + j)
  · rw [if_pos h]
    by_cases h2 : 0 < tb (8 * i + j)
    · rw [if_pos h2]
    · rw [if_neg h2]
      rw [i32_nlt] at h2
      rw [fa_le] at h h2
      rw [fa_eq]; omega
  · rw [if_neg h, if_neg (fun q => h (by rw [fa_lt] at q; rw [fa_le]; omega))]
theorem b_floor {k : Nat} {wc wm : ix_W} (R : Rel k wc wm) : Both k m_X4_floor m_X5_floor [] wc wm := by
  obtain ⟨n, c, tb, tl, se, on, dd, ch, tn, ro, ot, ow, tr, tu, ld, lc, cc, br, bw, fs, fo, cm, ce, li, ke, be, rfl, rfl, I⟩ := R
  have hn := I.1.2.1
  exact ⟨_, _, _, c_floor hn, Cl.eq (m_floor hn) rfl (by rw [floor_eq]), Rel.mk' I.up⟩
theorem sh1_n {q : Nat} (hq : q < 20) : (1 : Int32) <<< (nI q &&& 31) = nI (2 ^ q) := by
  have : ∀ q, q < 20 → (1 : Int32) <<< (nI q &&& 31) = nI (2 ^ q) := by decide +kernel
  exact this q hq
theorem not_n {q : Nat} (hq : q < 20) : nI (2 ^ q) ^^^ (-1) = nI (2 ^ 32 - 1 - 2 ^ q) := by
  have : ∀ q, q < 20 → nI (2 ^ q) ^^^ (-1) = nI (2 ^ 32 - 1 - 2 ^ q) := by decide +kernel
  exact this q hq
theorem b_kill {k : Nat} {wc wm : ix_W} (R : Rel k wc wm) (x y : Int32) : Both k m_X4_kill m_X5_kill [.inl x, .inl y] wc wm := by
  obtain ⟨n, c, tb, tl, se, on, dd, ch, tn, ro, ot, ow, tr, tu, ld, lc, cc, br, bw, fs, fo, cm, ce, li, ke, be, rfl, rfl, I⟩ := R
  by_cases h : inw x 0 19 = true
  · obtain ⟨q, -, hq, rfl⟩ := inw_rng (a := 0) (b := 19) (by omega) (by omega) h
    refine ⟨_, _, _, c_kill y h, m_kill (by omega) y h, Rel.mk' ?_⟩
    obtain ⟨i1, i2, i3, i4, i5, i6, ⟨d, hd, rfl⟩, i8⟩ := I.up
    refine ⟨i1, i2, i3, i4, i5, i6, ?_, i8⟩
    unfold g_sd
    rw [sh1_n (by omega)]
    split
    · rw [not_n (by omega), fa_and]
      exact ⟨_, Nat.lt_of_le_of_lt Nat.and_le_left hd, rfl⟩
    · rw [fa_or]
      exact ⟨_, Nat.or_lt_two_pow hd (Nat.pow_lt_pow_right (by omega) (by omega)), rfl⟩
  · exact ⟨_, _, _, c_kill_no y (inw_no h), m_kill_no y (inw_no h), Rel.mk' I.up⟩
theorem b_chain {k : Nat} {wc wm : ix_W} (R : Rel k wc wm) (x y : Int32) : Both k m_X4_chain m_X5_chain [.inl x, .inl y] wc wm := by
  obtain ⟨n, c, tb, tl, se, on, dd, ch, tn, ro, ot, ow, tr, tu, ld, lc, cc, br, bw, fs, fo, cm, ce, li, ke, be, rfl, rfl, I⟩ := R
  have hn := I.1.2.1
  by_cases h1 : inw x 0 (nI n - 1) = true
  · by_cases h2 : inw y 0 1048575 = true
    · obtain ⟨a, ha, rfl⟩ := inw_of (by omega) h1
      obtain ⟨m, -, hm, rfl⟩ := inw_rng (a := 0) (b := 1048575) (by omega) (by omega) h2
      refine ⟨_, _, _, c_chain (by omega) h1 h2, Cl.eq (m_chain (by omega) h1 h2) rfl (by rw [ibc_io (by omega)]), Rel.mk' ?_⟩
      obtain ⟨i1, i2, i3, i4, i5, i6, i7, ⟨mm, hmm, hz⟩⟩ := I.up
      refine ⟨i1, i2, i3, i4, i5, i6, i7, fun i => if i = a then m else mm i, fun i hi => ?_, fun i h1 h2 => ?_⟩
      · by_cases e : i = a
        · subst e
          rw [pk_us]; simp only [if_pos]; exact ⟨trivial, by omega⟩
        · rw [pk_un e]; simp only [if_neg e]; exact hmm i hi
      · have e : ¬ i = a := by omega
        simp only [if_neg e]; exact hz i h1 h2
    · exact ⟨_, _, _, c_chain_no (Or.inr (inw_no h2)), m_chain_no (Or.inr (inw_no h2)), Rel.mk' I.up⟩
  · exact ⟨_, _, _, c_chain_no (Or.inl (inw_no h1)), m_chain_no (Or.inl (inw_no h1)), Rel.mk' I.up⟩
/-! counts -/
theorem fd_tail {α : Type} {g : Nat → α → α} {s : α} {n m : Nat} (h : ∀ i a, n ≤ i → i < m → g i a = a) (hm : n ≤ m) : fd g s m = fd g s n := by
  obtain ⟨d, rfl⟩ := Nat.exists_eq_add_of_le hm
  clear hm
  induction d with
  | zero => rfl
  | succ d ih => rw [show n + (d + 1) = (n + d) + 1 by omega, fd, h _ _ (by omega) (by omega), ih (fun i a h1 h2 => h i a h1 (by omega))]
theorem all_eq {n : Nat} {ch : Nat → Int32} (hn : n ≤ 8) (hz : ∀ i, n ≤ i → i < 8 → ch i = 0) : fd (g_all ch) 0 8 = fd (g_all ch) 0 n := by
  refine fd_tail (fun i a h1 h2 => ?_) hn
  rw [g_all, hz i h1 h2]
  apply b_ext
  intro j _
  rw [b_or, b_0, Bool.or_false]
theorem tog_eq {n : Nat} {ch : Nat → Int32} (hn : n ≤ 8) {mm : Nat → Nat} (hm : ∀ i, i < 8 → ch i = nI (mm i) ∧ mm i < 2 ^ 20) (hz : ∀ i, n ≤ i → i < 8 → mm i = 0) : fd (g_tog ch) 0 8 = fd (h_tog ch) 0 n := by
  rw [fd_tail (n := n) (m := 8) (fun i a h1 h2 => ?_) hn]
  · apply fd_congr
    intro i a hi
    obtain ⟨e, hlt⟩ := hm i (by omega)
    rw [g_tog, h_tog, e, ibc_io hlt]
  · rw [g_tog, (hm i h2).1, hz i h1 h2, show ibc (nI 0) = 0 by decide, Int32.add_zero]
theorem wp_eq (n : Nat) (tb : Nat → Int32) : fd (g_wpr tb) 0 n = fd (h_wpr tb) 0 n := by
  apply fd_congr
  intro i a _
  rw [g_wpr, h_wpr]
  apply fd_congr
  intro j b _
  rw [g_wp, h_wp]
  split
  · rw [Int32.add_zero]
  · rfl
theorem b_count {k : Nat} {wc wm : ix_W} (R : Rel k wc wm) (x : Int32) : Both k m_X4_count m_X5_count [.inl x] wc wm := by
  obtain ⟨n, c, tb, tl, se, on, dd, ch, tn, ro, ot, ow, tr, tu, ld, lc, cc, br, bw, fs, fo, cm, ce, li, ke, be, rfl, rfl, I⟩ := R
  have hn := I.1.2.1
  have I0 := I
  obtain ⟨i1, i2, i3, i4, i5, i6, ⟨d, hd, rfl⟩, ⟨mm, hmm, hz⟩⟩ := I
  by_cases h : x.toInt < 0 ∨ 5 < x.toInt
  · exact ⟨_, _, _, c_count_no h, m_count_no h, Rel.mk' I0.up⟩
  · obtain ⟨m, hm, rfl⟩ := nI_of (x := x) (fun q => h (Or.inl (by rw [fa_lt] at q; exact q)))
    rw [nI_toInt hm] at h
    have h5 : m ≤ 5 := by omega
    match m, h5 with
    | 0, _ => exact ⟨_, _, _, c_count0, m_count0, Rel.mk' I0.up⟩
    | 1, _ => exact ⟨_, _, _, c_count1 hn, Cl.eq (m_count1 hn) rfl (by rw [wp_eq]), Rel.mk' I0.up⟩
    | 2, _ => exact ⟨_, _, _, c_count2, m_count2, Rel.mk' I0.up⟩
    | 3, _ => exact ⟨_, _, _, c_count3, Cl.eq m_count3 rfl (by rw [ibc_io hd]), Rel.mk' I0.up⟩
    | 4, _ => exact ⟨_, _, _, c_count4, Cl.eq (m_count4 hn) rfl (by rw [tog_eq hn hmm hz]), Rel.mk' I0.up⟩
    | 5, _ => exact ⟨_, _, _, c_count5, m_count5, Rel.mk' I0.up⟩
    | m + 6, h => exact absurd h (by omega)
/-! best states -/
theorem fw_at (tl : Nat) (se on : Nat → Int32) (p : Int32) (F : Nat → Int32) (N s : Nat) : fd (g_fw tl se on p) F N s = if s < N then F s + p * g_mis tl se on (nI s) else F s := by
  induction N with
  | zero => rw [if_neg (by omega)]; rfl
  | succ N ih =>
    rw [fd, g_fw]
    by_cases h : s = N
    · subst h; rw [pk_us, ih, if_neg (by omega), if_pos (by omega)]
    · rw [pk_un h, ih]
      by_cases h2 : s < N
      · rw [if_pos h2, if_pos (by omega)]
      · rw [if_neg h2, if_neg (by omega)]
theorem row_eq {n : Nat} {tb : Nat → Int32} (hsym : ∀ i j, i < 8 → j < 8 → tb (8 * i + j) = tb (8 * j + i)) (hn : n ≤ 8) (c : Int32) (tl : Nat) (se on ro : Nat → Int32) (p : Int32) {s : Nat} (hs : s < 2 ^ n) : g_row n c tb tl se on ro p s = h_wd n c tb tl se on p s := by
  have hp := (pw_le hn).1
  rw [g_row, fw_at, if_pos hs, fill_eq hsym hn c ro hs, h_wd, mis_eq tl se on (by omega)]
theorem low_congr {n : Nat} {A B : Nat → Int32} (h : ∀ s, s < 2 ^ n → A s = B s) : g_low n A = g_low n B := by
  have hp := Nat.two_pow_pos n
  unfold g_low
  rw [h 0 hp]
  apply fd_congr
  intro t a ht
  rw [g_mn, g_mn, h (t + 1) (by omega)]
theorem li_cn {R V : Nat → Int32} {m : Int32} (f : Nat → Int32) : ∀ {N : Nat}, (∀ s, s < N → R s = V s) → (fd (g_li R m) (f, 0) N).2 = h_cn V m N ∧ ∀ j, j < h_cn V m N → ∃ s, s < N ∧ V s = m ∧ h_cn V m s = j ∧ (fd (g_li R m) (f, 0) N).1 j = nI s
  | 0, _ => ⟨rfl, fun j hj => absurd hj (by simp [h_cn, fb_ct])⟩
  | N + 1, H => by
    obtain ⟨h1, h2⟩ := li_cn (V := V) (m := m) f (N := N) (fun s hs => H s (by omega))
    rw [fd, g_li, H N (by omega), h_cn_s]
    by_cases h : V N = m
    · rw [if_pos h, if_pos h]
      refine ⟨by dsimp only; rw [h1], fun j hj => ?_⟩
      dsimp only
      rw [h1]
      rcases Nat.lt_or_ge j (h_cn V m N) with q | q
      · obtain ⟨s, s1, s2, s3, s4⟩ := h2 j q
        exact ⟨s, by omega, s2, s3, by rw [pk_un (by omega)]; exact s4⟩
      · have : j = h_cn V m N := by omega
        subst this
        exact ⟨N, by omega, h, rfl, pk_us⟩
    · rw [if_neg h, if_neg h]
      refine ⟨h1, fun j hj => ?_⟩
      obtain ⟨s, s1, s2, s3, s4⟩ := h2 j (by omega)
      exact ⟨s, by omega, s2, s3, s4⟩
theorem ct_cn (V : Nat → Int32) (m : Int32) : ∀ N, fd (h_ct V m) 0 N = nI (h_cn V m N)
  | 0 => rfl
  | N + 1 => by
    rw [fd, ct_cn V m N, h_ct, h_cn_s, ← nI_add]
    congr 1
    split <;> rfl
theorem b_best {k : Nat} {wc wm : ix_W} (R : Rel k wc wm) (x : Int32) : Both k m_X4_best m_X5_best [.inl x] wc wm := by
  obtain ⟨n, c, tb, tl, se, on, dd, ch, tn, ro, ot, ow, tr, tu, ld, lc, cc, br, bw, fs, fo, cm, ce, li, ke, be, rfl, rfl, I⟩ := R
  obtain ⟨hn1, hn, ht⟩ := I.1
  by_cases h : inw x 0 1000 = true
  · refine ⟨_, _, _, c_best hn ht h, Cl.eq (m_best hn ht x) rfl ?_, Rel.mk' I.up⟩
    rw [if_pos h, low_congr (fun s hs => row_eq I.2.1 hn c tl se on ro x hs)]
  · refine ⟨_, _, _, c_best_no (inw_no h), Cl.eq (m_best hn ht x) rfl ?_, Rel.mk' I.up⟩
    rw [if_neg h]
theorem b_many {k : Nat} {wc wm : ix_W} (R : Rel k wc wm) (x : Int32) : Both k m_X4_many m_X5_many [.inl x] wc wm := by
  obtain ⟨n, c, tb, tl, se, on, dd, ch, tn, ro, ot, ow, tr, tu, ld, lc, cc, br, bw, fs, fo, cm, ce, li, ke, be, rfl, rfl, I⟩ := R
  obtain ⟨hn1, hn, ht⟩ := I.1
  by_cases h : inw x 0 1000 = true
  · refine ⟨_, _, _, c_many hn ht h, Cl.eq (m_many hn ht h) rfl ?_, Rel.mk' I.up⟩
    have e := low_congr (fun s hs => row_eq I.2.1 hn c tl se on ro x hs)
    rw [g_lst, e, (li_cn (V := h_wd n c tb tl se on x) (m := g_low n (h_wd n c tb tl se on x)) ot (fun s hs => row_eq I.2.1 hn c tl se on ro x hs)).1, ct_cn]
  · exact ⟨_, _, _, c_many_no (inw_no h), m_many_no (inw_no h), Rel.mk' I.up⟩
theorem b_bestAt {k : Nat} {wc wm : ix_W} (R : Rel k wc wm) (x y : Int32) : Both k m_X4_bestAt m_X5_bestAt [.inl x, .inl y] wc wm := by
  obtain ⟨n, c, tb, tl, se, on, dd, ch, tn, ro, ot, ow, tr, tu, ld, lc, cc, br, bw, fs, fo, cm, ce, li, ke, be, rfl, rfl, I⟩ := R
  obtain ⟨hn1, hn, ht⟩ := I.1
  have hp := (pw_le hn).1
  by_cases h : inw x 0 1000 = true
  · have e := low_congr (fun s hs => row_eq I.2.1 hn c tl se on ro x hs)
    obtain ⟨l1, l2⟩ := li_cn (V := h_wd n c tb tl se on x) (m := g_low n (h_wd n c tb tl se on x)) ot (fun s hs => row_eq I.2.1 hn c tl se on ro x hs)
    have hC := c_bestAt (c := c) (tb := tb) (tn := tn) (se := se) (on := on) (dd := dd) (ch := ch) (ro := ro) (ot := ot) (ow := ow) (tr := tr) (tu := tu) (ld := ld) (lc := lc) (cc := cc) (br := br) (bw := bw) hn ht y h
    rw [g_lst, e, l1] at hC
    have hcn : h_cn (h_wd n c tb tl se on x) (g_low n (h_wd n c tb tl se on x)) (2 ^ n) ≤ 2 ^ n := fb_ct_le _ _
    by_cases h0 : 0 ≤ y
    · obtain ⟨a, ha, rfl⟩ := nI_of (x := y) (i32_nlt.mpr h0)
      rcases Nat.lt_or_ge a (h_cn (h_wd n c tb tl se on x) (g_low n (h_wd n c tb tl se on x)) (2 ^ n)) with q | q
      · obtain ⟨s, s1, s2, s3, s4⟩ := l2 a q
        rw [if_pos (inw_to (by omega) q), nI_clamp ha, s4] at hC
        exact ⟨_, _, _, hC, m_bestAt hn ht ha h s1 s2 s3, Rel.mk' I.up⟩
      · rw [if_neg (fun z => by
          obtain ⟨b, hb, e2⟩ := inw_of (by omega) z
          have := (nI_eq ha (by omega)).mp e2
          omega)] at hC
        exact ⟨_, _, _, hC, m_bestAt_miss hn ht ha h q, Rel.mk' I.up⟩
    · rw [if_neg (fun z => h0 (of_decide_eq_true z).1)] at hC
      exact ⟨_, _, _, hC, m_bestAt_no (Or.inr h0), Rel.mk' I.up⟩
  · exact ⟨_, _, _, c_bestAt_no y (inw_no h), m_bestAt_no (Or.inl (inw_no h)), Rel.mk' I.up⟩
end
section
/-! ints without overflow -/
theorem ti_add {a b : Int32} (h1 : -2147483648 ≤ a.toInt + b.toInt) (h2 : a.toInt + b.toInt < 2147483648) : (a + b).toInt = a.toInt + b.toInt := by
  rw [Int32.toInt_add]
  exact Int.bmod_eq_of_le (by omega) (by omega)
theorem ti_sub {a b : Int32} (h1 : -2147483648 ≤ a.toInt - b.toInt) (h2 : a.toInt - b.toInt < 2147483648) : (a - b).toInt = a.toInt - b.toInt := by
  rw [Int32.toInt_sub]
  exact Int.bmod_eq_of_le (by omega) (by omega)
theorem ti_mul {a b : Int32} (h1 : -2147483648 ≤ a.toInt * b.toInt) (h2 : a.toInt * b.toInt < 2147483648) : (a * b).toInt = a.toInt * b.toInt := by
  rw [Int32.toInt_mul]
  exact Int.bmod_eq_of_le (by omega) (by omega)
theorem ti_neg {a : Int32} (h1 : -2147483648 < a.toInt) : (-a).toInt = -a.toInt := by
  have := Int32.toInt_lt a
  rw [Int32.toInt_neg]
  exact Int.bmod_eq_of_le (by omega) (by omega)
theorem ti_0 : (0 : Int32).toInt = 0 := rfl
theorem ti_1 : (1 : Int32).toInt = 1 := rfl
theorem fa_xor (a b : Nat) : nI a ^^^ nI b = nI (a ^^^ b) := by
  apply b_ext
  intro i hi
  rw [b_xor, bt_nI a i hi, bt_nI b i hi, bt_nI _ i hi, Nat.testBit_xor]
theorem iabs_n {x : Int32} (h : -2147483648 < x.toInt) : iabs x = nI x.toInt.natAbs := by
  have := Int32.toInt_lt x
  rw [fa_eq, nI_toInt (by omega), iabs]
  split
  · rename_i h2; rw [fa_le, ti_0] at h2; omega
  · rename_i h2; rw [fa_le, ti_0] at h2; rw [ti_neg h]; omega
theorem cp_at (E f : Nat → Int32) (N q : Nat) : fd (fun x f => upd f x (E x)) f N q = if q < N then E q else f q := by
  induction N with
  | zero => rw [if_neg (by omega)]; rfl
  | succ N ih =>
    rw [fd]
    by_cases h : q = N
    · subst h; rw [pk_us, if_pos (by omega)]
    · rw [pk_un h, ih]
      by_cases h2 : q < N
      · rw [if_pos h2, if_pos (by omega)]
      · rw [if_neg h2, if_neg (by omega)]
theorem map_at (E : Int32 → Int32) (f : Nat → Int32) (N q : Nat) : fd (fun x f => upd f x (E (f x))) f N q = if q < N then E (f q) else f q := by
  induction N with
  | zero => rw [if_neg (by omega)]; rfl
  | succ N ih =>
    rw [fd]
    by_cases h : q = N
    · subst h; rw [pk_us, ih, if_neg (by omega), if_pos (by omega)]
    · rw [pk_un h, ih]
      by_cases h2 : q < N
      · rw [if_pos h2, if_pos (by omega)]
      · rw [if_neg h2, if_neg (by omega)]
/-! bounds of sums -/
theorem sm_bd {f : Nat → Int32} {B : Int} (hB : 0 ≤ B) : ∀ {n : Nat}, (∀ i, i < n → -B ≤ (f i).toInt ∧ (f i).toInt ≤ B) → (n : Int) * B < 2147483648 → -((n : Int) * B) ≤ (sm f n).toInt ∧ (sm f n).toInt ≤ (n : Int) * B
  | 0, _, _ => by rw [sm, ti_0]; omega
  | n + 1, h, hn => by
    have e : ((n + 1 : Nat) : Int) * B = (n : Int) * B + B := by rw [Int.natCast_add, Int.add_mul]; simp
    rw [e] at hn ⊢
    obtain ⟨h1, h2⟩ := sm_bd hB (n := n) (fun i hi => h i (by omega)) (by omega)
    obtain ⟨h3, h4⟩ := h n (by omega)
    rw [sm, ti_add (by omega) (by omega)]
    omega
theorem enr_bd {tb : Nat → Int32} {B : Int} (hB : 0 ≤ B) (hB2 : B ≤ 1000000) (hb : ∀ q, q < 64 → -B ≤ (tb q).toInt ∧ (tb q).toInt ≤ B) (p : Nat → Bool) {i : Nat} (hi : i < 8) : -(((i + 1 : Nat) : Int) * B) ≤ (enr tb p i).toInt ∧ (enr tb p i).toInt ≤ ((i + 1 : Nat) : Int) * B := by
  rw [enr]
  refine sm_bd hB (fun j hj => ?_) ?_
  · split
    · exact hb _ (by omega)
    · rw [ti_0]; omega
  · have : ((i + 1 : Nat) : Int) * B ≤ 8 * B := Int.mul_le_mul_of_nonneg_right (by omega) hB
    omega
theorem enb_bd {tb : Nat → Int32} {B : Int} (hB : 0 ≤ B) (hB2 : B ≤ 1000000) (hb : ∀ q, q < 64 → -B ≤ (tb q).toInt ∧ (tb q).toInt ≤ B) (p : Nat → Bool) {n : Nat} (hn : n ≤ 8) : -(36 * B) ≤ (enb n tb p).toInt ∧ (enb n tb p).toInt ≤ 36 * B := by
  have h : ∀ n, n ≤ 8 → -(((n * (n + 1) / 2 : Nat) : Int) * B) ≤ (enb n tb p).toInt ∧ (enb n tb p).toInt ≤ ((n * (n + 1) / 2 : Nat) : Int) * B := by
    intro n
    induction n with
    | zero => intro _; rw [enb, sm, ti_0]; simp
    | succ n ih =>
      intro hn
      obtain ⟨h1, h2⟩ := ih (by omega)
      obtain ⟨h3, h4⟩ := enr_bd hB hB2 hb p (i := n) (by omega)
      have e : (((n + 1) * (n + 1 + 1) / 2 : Nat) : Int) * B = ((n * (n + 1) / 2 : Nat) : Int) * B + ((n + 1 : Nat) : Int) * B := by
        rw [← Int.add_mul, ← Int.natCast_add]
        congr 2
        have : (n + 1) * (n + 1 + 1) = n * (n + 1) + 2 * (n + 1) := by grind
        omega
      have l1 : ((n * (n + 1) / 2 : Nat) : Int) * B ≤ 36 * B := Int.mul_le_mul_of_nonneg_right (by
        have : n * (n + 1) ≤ 7 * 8 := Nat.mul_le_mul (by omega) (by omega)
        omega) hB
      have l2 : ((n + 1 : Nat) : Int) * B ≤ 8 * B := Int.mul_le_mul_of_nonneg_right (by omega) hB
      rw [enb] at h1 h2
      rw [e, enb, sm, ti_add (by omega) (by omega)]
      omega
  obtain ⟨h1, h2⟩ := h n hn
  have l1 : ((n * (n + 1) / 2 : Nat) : Int) * B ≤ 36 * B := Int.mul_le_mul_of_nonneg_right (by
    have : n * (n + 1) ≤ 8 * 9 := Nat.mul_le_mul (by omega) (by omega)
    omega) hB
  omega
/-! cut -/
theorem nm_eq (x s : Int32) : g_nm x s = h_cu x s := by
  have h : g_nm2 (iabs x) s = h_cq x s * s := by
    rw [g_nm2, h_cq, g_nm1, Int32.mul_comm _ 2]
    generalize iabs x / s = q
    split
    · grind
    · grind
  rw [g_nm, h_cu, h]
  split
  · rfl
  · grind
theorem nm_zero : ∀ b, b < 21 → 1 ≤ b → g_nm 0 (nI b) = 0 := by decide +kernel
theorem nm_bd {x : Int32} {b : Nat} (hb : 1 ≤ b) (hb2 : b ≤ 20) {B : Int} (hB2 : B ≤ 1000000) (h1 : -B ≤ x.toInt) (h2 : x.toInt ≤ B) : -(B + 10) ≤ (g_nm x (nI b)).toInt ∧ (g_nm x (nI b)).toInt ≤ B + 10 := by
  have ha := iabs_n (x := x) (by omega)
  generalize hA : x.toInt.natAbs = a at ha
  have hr : g_nm1 (nI a) (nI b) = nI (a % b) := pk_rem (by omega) (by omega) (by omega)
  have hl : a % b < b := Nat.mod_lt _ (by omega)
  have hl2 : a % b ≤ a := Nat.mod_le _ _
  have h3 : 0 ≤ (g_nm2 (nI a) (nI b)).toInt ∧ (g_nm2 (nI a) (nI b)).toInt ≤ B + 10 := by
    rw [g_nm2, hr, show (2 : Int32) = nI 2 from rfl, pk_mul, pk_sub hl2]
    split
    · rw [nI_toInt (by omega)]; omega
    · rename_i h
      rw [nI_leI (by omega) (by omega)] at h
      rw [nI_add, nI_toInt (by omega)]; omega
  rw [g_nm, ha]
  split
  · omega
  · rw [ti_neg (by omega)]; omega
theorem b_cut {k : Nat} (hk : k ≤ 600) {wc wm : ix_W} (R : Rel k wc wm) (x : Int32) : Both k m_X4_cut m_X5_cut [.inl x] wc wm := by
  obtain ⟨n, c, tb, tl, se, on, dd, ch, tn, ro, ot, ow, tr, tu, ld, lc, cc, br, bw, fs, fo, cm, ce, li, ke, be, rfl, rfl, I⟩ := R
  by_cases h : inw x 1 20 = true
  · obtain ⟨b, hb1, hb2, rfl⟩ := inw_rng (a := 1) (b := 20) (by omega) (by omega) h
    obtain ⟨i1, i2, i3, i4, i5, i6, i7, i8⟩ := I
    have hn := i1.2.1
    have et : fd (h_cc (nI b)) tb 64 = fd (g_ct (nI b)) tb 64 := fd_congr (fun i f _ => by rw [h_cc, g_ct, nm_eq])
    have ea : ∀ q, q < 64 → fd (g_ct (nI b)) tb 64 q = g_nm (tb q) (nI b) := fun q hq => by
      rw [show g_ct (nI b) = fun x f => upd f x (g_nm (f x) (nI b)) from rfl, map_at (fun y => g_nm y (nI b)), if_pos hq]
    have es : ∀ i j, i < 8 → j < 8 → fd (g_ct (nI b)) tb 64 (8 * i + j) = fd (g_ct (nI b)) tb 64 (8 * j + i) := fun i j hi hj => by
      rw [ea _ (by omega), ea _ (by omega), i2 i j hi hj]
    have hC := c_cut (c := c) (tb := tb) (tn := tn) (tl := tl) (se := se) (on := on) (dd := dd) (ch := ch) (ro := ro) (ot := ot) (ow := ow) (tr := tr) (tu := tu) (ld := ld) (lc := lc) (cc := cc) (br := br) (bw := bw) hn h (nI_ne0 (by omega) (by omega))
    have hM := m_cut (c := c) (tb := tb) (tl := tl) (se := se) (on := on) (dd := dd) (ch := ch) (fs := fs) (fo := fo) (cm := cm) (ce := ce) (li := li) (ke := ke) (be := be) hn h (nI_ne0 (by omega) (by omega))
    rw [et] at hM
    generalize fd (g_ct (nI b)) tb 64 = T at hC hM ea es
    refine ⟨_, _, _, hC, Cl.eq hM rfl ?_, Rel.mk' ?_⟩
    · congr 2
      apply fd_congr
      intro s a hs
      have e1 : fd (h_cb (h_E n c tb)) be (2 ^ n) s = h_en n c tb (nI s) := by
        rw [show h_cb (h_E n c tb) = fun x f => upd f x (h_E n c tb x) from rfl, cp_at, if_pos hs]
      rw [g_ls, h_cl, e1, fill_eq es hn c ot hs, fill_eq i2 hn c ro hs, imax]
      generalize iabs _ = y
      by_cases q : a < y
      · rw [if_pos q, if_neg (i32_nle.mpr q)]
      · rw [if_neg q, if_pos (i32_nlt.mp q)]
    · refine ⟨i1, es, ?_, ?_, by omega, i6, i7, i8⟩
      · intro i j hi hj hh
        rw [ea _ (by omega), i3 i j hi hj hh, nm_zero b (by omega) hb1]
      · intro q hq
        rw [ea q hq]
        obtain ⟨z1, z2⟩ := i4 q hq
        have := nm_bd hb1 hb2 (B := 60 + 10 * (k : Int)) (by omega) z1 z2
        omega
  · exact ⟨_, _, _, c_cut_no (inw_no h), m_cut_no (inw_no h), Rel.mk' I.up⟩
/-! walk -/
theorem xor_bits (a k j : Nat) : (a ^^^ 2 ^ k).testBit j = (a.testBit j ^^ decide (k = j)) := by
  rw [Nat.testBit_xor, Nat.testBit_two_pow]
theorem sh1_8 {q : Nat} (hq : q < 8) : (1 : Int32) <<< (nI q &&& 31) = nI (2 ^ q) := sh1_n (by omega)
theorem cb_eq {n : Nat} {tb : Nat → Int32} (hsym : ∀ i j, i < 8 → j < 8 → tb (8 * i + j) = tb (8 * j + i)) (hn : n ≤ 8) (c : Int32) {k s : Nat} (hk : k < n) : h_en n c tb (nI (s ^^^ 2 ^ k)) = h_en n c tb (nI s) + g_cb n tb k (nI s) := by
  have hx : ∀ j, j ≠ k → (s ^^^ 2 ^ k).testBit j = s.testBit j := fun j hj => by
    rw [xor_bits, decide_eq_false (fun q => hj q.symm), Bool.xor_false]
  have hkk : (s ^^^ 2 ^ k).testBit k = !s.testBit k := by rw [xor_bits]; simp
  rw [g_cb, bb_nI (by omega)]
  cases h : s.testBit k with
  | true =>
    rw [if_pos rfl]
    have e := en_in hsym hn c hk h (by rw [hkk, h]; rfl) (fun j hj => (hx j hj).symm)
    rw [e, gain_self n tb hn (fun j hj => (hx j hj).symm)]
    grind
  | false =>
    rw [if_neg (by decide)]
    exact en_in hsym hn c hk (by rw [hkk, h]; rfl) h hx
theorem w_min (l a : Int32) : imin l a = h_wm a l := by
  rw [imin, h_wm]
  by_cases y : a < l
  · rw [if_pos y, if_neg (i32_nle.mpr y)]
  · rw [if_neg y, if_pos (i32_nlt.mp y)]
theorem w_mle (l a : Int32) : h_wm a l ≤ a := by
  rw [h_wm]
  split
  · assumption
  · exact Int32.le_refl _
theorem w_ll {n : Nat} (hn1 : 1 ≤ n) (z : Int32) : w_l n z < n := by
  unfold w_l
  exact Nat.mod_lt _ (by omega)
theorem walk_st {n : Nat} {tb : Nat → Int32} (hsym : ∀ i j, i < 8 → j < 8 → tb (8 * i + j) = tb (8 * j + i)) (hn1 : 1 ≤ n) (hn : n ≤ 8) (c z l : Int32) (m t1 : Nat) {h1 : Nat} (hh : h1 < 2 ^ n) (hl : l ≤ h_en n c tb (nI h1)) : g_w n tb m (z, t1, nI h1, h_en n c tb (nI h1), l) = h_wk n c tb m (z, t1, nI h1, h_en n c tb (nI h1), l) ∧ ∃ (z2 : Int32) (t2 h2 : Nat) (l2 : Int32), h_wk n c tb m (z, t1, nI h1, h_en n c tb (nI h1), l) = (z2, t2, nI h2, h_en n c tb (nI h2), l2) ∧ h2 < 2 ^ n ∧ l2 ≤ h_en n c tb (nI h2) := by
  have hL := w_ll hn1 z
  have ex : h_wo n z (nI h1) = nI (h1 ^^^ 2 ^ w_l n z) := by rw [h_wo, sh1_8 (by omega), fa_xor]
  have ec := cb_eq hsym hn c (s := h1) hL
  have hlt : h1 ^^^ 2 ^ w_l n z < 2 ^ n := Nat.xor_lt_two_pow hh (Nat.pow_lt_pow_right (by omega) hL)
  rw [g_w, h_wk]
  show _ ∧ _
  dsimp only
  rw [show nI h1 ^^^ ((1 : Int32) <<< (nI (w_l n z) &&& 31)) = h_wo n z (nI h1) from rfl, ex]
  generalize w_l n z = L at hL hlt ec ex ⊢
  generalize h1 ^^^ 2 ^ L = h2 at hlt ec ex ⊢
  have ed : h_en n c tb (nI h2) - h_en n c tb (nI h1) = g_cb n tb L (nI h1) := by
    rw [ec]
    generalize h_en n c tb (nI h1) = u
    generalize g_cb n tb L (nI h1) = v
    grind
  rw [ed]
  by_cases q : g_cb n tb L (nI h1) ≤ w_t z t1
  · rw [if_pos q, if_pos q, ← ec, w_min]
    exact ⟨rfl, _, _, _, _, rfl, hlt, w_mle _ _⟩
  · rw [if_neg q, if_neg q]
    have em : h_wm (h_en n c tb (nI h1)) l = l := by rw [h_wm, if_pos hl]
    rw [em]
    exact ⟨rfl, _, _, _, _, rfl, hh, hl⟩
theorem walk_eq {n : Nat} {tb : Nat → Int32} (hsym : ∀ i j, i < 8 → j < 8 → tb (8 * i + j) = tb (8 * j + i)) (hn1 : 1 ≤ n) (hn : n ≤ 8) (c d : Int32) (t : Nat) {s : Nat} (hs : s < 2 ^ n) (m : Nat) : fd (g_w n tb) (d, t, nI s, h_en n c tb (nI s), h_en n c tb (nI s)) m = fd (h_wk n c tb) (d, t, nI s, h_en n c tb (nI s), h_en n c tb (nI s)) m ∧ ∃ (z : Int32) (t1 h1 : Nat) (l : Int32), fd (h_wk n c tb) (d, t, nI s, h_en n c tb (nI s), h_en n c tb (nI s)) m = (z, t1, nI h1, h_en n c tb (nI h1), l) ∧ h1 < 2 ^ n ∧ l ≤ h_en n c tb (nI h1) := by
  induction m with
  | zero =>
    rw [fd, fd]
    exact ⟨rfl, d, t, s, _, rfl, hs, Int32.le_refl _⟩
  | succ m ih =>
    obtain ⟨e, z, t1, h1, l, e2, hh, hl⟩ := ih
    rw [fd, fd, e, e2]
    exact walk_st hsym hn1 hn c z l m t1 hh hl
theorem b_walk {k : Nat} {wc wm : ix_W} (R : Rel k wc wm) (s d h m x : Int32) : Both k m_X4_walk m_X5_walk [.inl s, .inl d, .inl h, .inl m, .inl x] wc wm := by
  obtain ⟨n, c, tb, tl, se, on, dd, ch, tn, ro, ot, ow, tr, tu, ld, lc, cc, br, bw, fs, fo, cm, ce, li, ke, be, rfl, rfl, I⟩ := R
  obtain ⟨hn1, hn, ht⟩ := I.1
  have hp := (pw_le hn).1
  cases hk : g_wok n s h m x with
  | false => exact ⟨_, _, _, c_walk_no hn hk, m_walk_no hn hk, Rel.mk' I.up⟩
  | true =>
    have hk2 := hk
    rw [g_wok, Bool.and_eq_true, Bool.and_eq_true, Bool.and_eq_true] at hk2
    obtain ⟨k1, k2, k3, k4⟩ := hk2
    obtain ⟨a, ha, rfl⟩ := inw_of (by omega) k1
    obtain ⟨t, -, ht2, rfl⟩ := inw_rng (a := 0) (b := 100) (by omega) (by omega) k2
    obtain ⟨mm, -, hm2, rfl⟩ := inw_rng (a := 1) (b := 200) (by omega) (by omega) k3
    refine ⟨_, _, _, c_walk hn hn1 ht2 hm2 hk, Cl.eq (m_walk hn hn1 ht2 hm2 hk) rfl ?_, Rel.mk' I.up⟩
    rw [en_eq hn, (walk_eq I.2.1 hn1 hn c d t ha mm).1]
end
section
/-! turn -/
theorem upd_ij (f : Nat → Int32) (x : Int32) {a b i j : Nat} (hb : b < 8) (hj : j < 8) : upd f (8 * a + b) x (8 * i + j) = if i = a ∧ j = b then x else f (8 * i + j) := by
  by_cases h : i = a ∧ j = b
  · rw [if_pos h, h.1, h.2, pk_us]
  · rw [if_neg h, pk_un (by omega)]
def tq (m N : Nat) (T : Nat → Int32) (a b : Nat) : Int32 := if a = b then (if a < N ∧ a ≠ m then T (8 * a + b) + T (8 * m + a) else T (8 * a + b)) else if a = m ∧ b < N then -T (8 * m + b) else if b = m ∧ a < N then -T (8 * m + a) else T (8 * a + b)
theorem t1_at (T0 : Nat → Int32) {m : Nat} (hm : m < 8) : ∀ {N : Nat}, N ≤ 8 → ∀ a b, b < 8 → fd (h_t1 m) T0 N (8 * a + b) = tq m N T0 a b
  | 0, _, a, b, hb => by
    rw [fd, tq]
    repeat' split
    all_goals first | rfl | (exfalso; omega)
  | N + 1, hN, a, b, hb => by
    have ih := t1_at T0 hm (N := N) (by omega)
    rw [fd, h_t1]
    by_cases hNm : N = m
    · rw [if_pos hNm, ih a b hb, tq, tq]
      repeat' split
      all_goals first | rfl | (exfalso; omega)
    · rw [if_neg hNm, upd_ij _ _ hm hb, upd_ij _ _ (by omega) hb, h_t1a, upd_ij _ _ (by omega) hb, upd_ij _ _ (by omega) (by omega), ih a b hb, ih N N (by omega), ih m N (by omega)]
      have e1 : tq m N T0 N N = T0 (8 * N + N) := by rw [tq, if_pos rfl, if_neg (by omega)]
      have e2 : tq m N T0 m N = T0 (8 * m + N) := by rw [tq, if_neg (by omega), if_neg (by omega), if_neg (by omega)]
      rw [e1, e2, if_neg (show ¬ (m = N ∧ N = N) by omega)]
      unfold tq
      by_cases c1 : a = N ∧ b = m
      · rw [if_pos c1, if_neg (by omega), if_neg (by omega), if_pos (by omega), c1.1]
      · rw [if_neg c1]
        by_cases c2 : a = m ∧ b = N
        · rw [if_pos c2, if_neg (by omega), if_pos (by omega), c2.2]
        · rw [if_neg c2]
          by_cases c3 : a = N ∧ b = N
          · rw [if_pos c3, if_pos (by omega), if_pos (by omega), c3.1, c3.2]
          · rw [if_neg c3]
            repeat' split
            all_goals first | rfl | (exfalso; omega)
theorem gain_tb (n : Nat) (tb : Nat → Int32) (hn : n ≤ 8) (i s : Nat) : g_gain n tb i (nI s) = tb (8 * i + i) + sm (fun j => if j ≠ i ∧ s.testBit j = true then tb (8 * i + j) else 0) n := by
  rw [gain_sm]
  congr 1
  apply sm_congr
  intro j hj
  rw [bb_nI (by omega)]
theorem gain_up {n : Nat} {tb : Nat → Int32} (hn : n ≤ 8) {i m s r : Nat} (hm : m < n) (him : m ≠ i) (hs : s.testBit m = true) (hr : r.testBit m = false) (hsr : ∀ j, j ≠ m → s.testBit j = r.testBit j) : g_gain n tb i (nI s) = g_gain n tb i (nI r) + tb (8 * i + m) := by
  rw [gain_tb n tb hn, gain_tb n tb hn, sm_at (f := fun j => if j ≠ i ∧ r.testBit j = true then tb (8 * i + j) else 0) (g := fun j => if j ≠ i ∧ s.testBit j = true then tb (8 * i + j) else 0) (i := m) (x := tb (8 * i + m)) ?_ ?_ hm]
  · grind
  · intro j hj
    simp only [hsr j hj]
  · simp only [hs, hr]
    rw [if_pos ⟨him, trivial⟩, if_neg (by simp)]
    grind
def tvn (n : Nat) (tb : Nat → Int32) (s : Nat) (i j : Nat) : Int32 := if i < n ∧ j < n then g_tv n tb (nI s) i j else tb (8 * i + j)
theorem tv_step {n : Nat} {tb : Nat → Int32} (hsym : ∀ i j, i < 8 → j < 8 → tb (8 * i + j) = tb (8 * j + i)) (hn : n ≤ 8) {m s r : Nat} (hm : m < n) (hs : s.testBit m = true) (hr : r.testBit m = false) (hsr : ∀ j, j ≠ m → s.testBit j = r.testBit j) {T : Nat → Int32} (hT : ∀ i j, j < 8 → T (8 * i + j) = tvn n tb r i j) (a b : Nat) (hb : b < 8) : h_t0 n m T (8 * a + b) = tvn n tb s a b := by
  have hself : g_gain n tb m (nI s) = g_gain n tb m (nI r) := gain_self n tb hn hsr
  have e0 : ∀ i j, j < 8 → upd T (8 * m + m) (-(T (8 * m + m))) (8 * i + j) = if i = m ∧ j = m then g_gain n tb m (nI s) * (-1) else tvn n tb r i j := fun i j hj => by
    rw [upd_ij _ _ (by omega) hj, hT m m (by omega), hT i j hj]
    by_cases h : i = m ∧ j = m
    · rw [if_pos h, if_pos h, tvn, if_pos ⟨hm, hm⟩, g_tv, if_pos rfl, g_cb, bb_nI (by omega), hr, if_neg (by decide), hself]
      grind
    · rw [if_neg h, if_neg h]
  rw [h_t0, t1_at _ (by omega) hn a b hb, tq, e0 a b hb]
  rcases Nat.lt_or_ge a 8 with ha | ha
  · rw [e0 m a ha, e0 m b hb]
    by_cases hab : a = b
    · subst hab
      rw [if_pos rfl]
      by_cases ham : a = m
      · subst ham
        rw [if_neg (by omega), if_pos ⟨rfl, rfl⟩, tvn, if_pos ⟨hm, hm⟩, g_tv, if_pos rfl, g_cb, bb_nI (by omega), hs, if_pos rfl]
        grind
      · rw [if_neg (show ¬ (a = m ∧ a = m) by omega), if_neg (show ¬ (m = m ∧ a = m) by omega)]
        by_cases han : a < n
        · rw [if_pos ⟨han, ham⟩, tvn, tvn, tvn, if_pos ⟨han, han⟩, if_pos ⟨hm, han⟩, if_pos ⟨han, han⟩, g_tv, if_pos rfl, g_tv, if_neg (fun q => ham q.symm), g_tv, if_pos rfl, g_cb, g_cb, gain_up hn hm (fun q => ham q.symm) hs hr hsr, bb_nI (by omega), bb_nI (by omega), bb_nI (by omega), hr, hsr a ham, hsym m a (by omega) (by omega)]
          cases r.testBit a
          · rw [if_neg (by decide), if_pos rfl, if_neg (by decide)]
          · rw [if_pos rfl, if_neg (by decide), if_pos rfl]
            grind
        · rw [if_neg (by omega), tvn, tvn, if_neg (by omega), if_neg (by omega)]
    · rw [if_neg hab, if_neg (show ¬ (a = m ∧ b = m) by omega)]
      by_cases c1 : a = m ∧ b < n
      · obtain ⟨c1a, c1b⟩ := c1
        subst c1a
        rw [if_pos ⟨rfl, c1b⟩, if_neg (show ¬ (a = a ∧ b = a) by omega), tvn, tvn, if_pos ⟨hm, c1b⟩, if_pos ⟨hm, c1b⟩, g_tv, g_tv, if_neg hab, if_neg hab, bb_nI (by omega), bb_nI (by omega), bb_nI (by omega), bb_nI (by omega), hr, hs, hsr b (by omega)]
        cases r.testBit b
        · rw [if_pos rfl, if_neg (by decide)]
        · rw [if_neg (by decide), if_pos rfl]
          grind
      · rw [if_neg c1]
        by_cases c2 : b = m ∧ a < n
        · obtain ⟨c2a, c2b⟩ := c2
          subst c2a
          rw [if_pos ⟨rfl, c2b⟩, if_neg (show ¬ (b = b ∧ a = b) by omega), tvn, tvn, if_pos ⟨hm, c2b⟩, if_pos ⟨c2b, hm⟩, g_tv, g_tv, if_neg (show ¬ b = a by omega), if_neg hab, bb_nI (by omega), bb_nI (by omega), bb_nI (by omega), bb_nI (by omega), hr, hs, hsr a (by omega), hsym b a (by omega) (by omega)]
          cases r.testBit a
          · rw [if_pos rfl, if_neg (by decide)]
          · rw [if_neg (by decide), if_pos rfl]
            grind
        · rw [if_neg c2, tvn, tvn]
          by_cases c3 : a < n ∧ b < n
          · rw [if_pos c3, if_pos c3, g_tv, g_tv, if_neg hab, if_neg hab, bb_nI (by omega), bb_nI (by omega), bb_nI (by omega), bb_nI (by omega), hsr a (by omega), hsr b (by omega)]
          · rw [if_neg c3, if_neg c3]
  · rw [if_neg (by omega), if_neg (by omega), if_neg (by omega), if_neg (by omega), tvn, tvn, if_neg (by omega), if_neg (by omega)]
theorem tt_eq {n : Nat} {tb : Nat → Int32} (hsym : ∀ i j, i < 8 → j < 8 → tb (8 * i + j) = tb (8 * j + i)) (hn : n ≤ 8) (c : Int32) (s : Nat) : ∀ {m : Nat}, m ≤ n → (fd (h_tt n (nI s)) (c, tb) m).1 = h_en n c tb (nI (s % 2 ^ m)) ∧ ∀ i j, j < 8 → (fd (h_tt n (nI s)) (c, tb) m).2 (8 * i + j) = tvn n tb (s % 2 ^ m) i j
  | 0, _ => by
    rw [fd, Nat.pow_zero, Nat.mod_one]
    have z : ∀ i, i < 8 → bb (nI 0) i = false := by decide +kernel
    refine ⟨?_, fun i j hj => ?_⟩
    · rw [hen_sm, sm_zero, Int32.add_zero]
      intro i hi
      apply sm_zero
      intro j hj
      rw [h_ev, z i (by omega), if_neg (by simp)]
    · rw [tvn]
      by_cases h : i < n ∧ j < n
      · rw [if_pos h, g_tv]
        by_cases e : i = j
        · subst e
          rw [if_pos rfl, g_cb, z i (by omega), if_neg (by decide), gain_sm, sm_zero, Int32.add_zero]
          intro k hk
          rw [z k (by omega), if_neg (by simp)]
        · rw [if_neg e, z i (by omega), z j (by omega), if_pos rfl]
      · rw [if_neg h]
  | m + 1, hm => by
    obtain ⟨h1, h2⟩ := tt_eq hsym hn c s (m := m) (by omega)
    have hb : ∀ j, (s % 2 ^ (m + 1)).testBit j = (decide (j < m + 1) && s.testBit j) := fun j => Nat.testBit_mod_two_pow ..
    have hc : ∀ j, (s % 2 ^ m).testBit j = (decide (j < m) && s.testBit j) := fun j => Nat.testBit_mod_two_pow ..
    have hr : (s % 2 ^ m).testBit m = false := by rw [hc, decide_eq_false (by omega)]; rfl
    have hsr : ∀ j, j ≠ m → (s % 2 ^ (m + 1)).testBit j = (s % 2 ^ m).testBit j := fun j hj => by
      rw [hb, hc]
      congr 1
      exact decide_eq_decide.mpr (by omega)
    rw [fd, h_tt, bb_nI (by omega)]
    cases e : s.testBit m with
    | true =>
      have hs : (s % 2 ^ (m + 1)).testBit m = true := by rw [hb, e, decide_eq_true (by omega)]; rfl
      rw [if_pos rfl]
      refine ⟨?_, fun i j hj => tv_step hsym hn (by omega) hs hr hsr h2 i j hj⟩
      dsimp only
      rw [h1, h2 m m (by omega), tvn, if_pos ⟨by omega, by omega⟩, g_tv, if_pos rfl, g_cb, bb_nI (by omega), hr, if_neg (by decide)]
      exact (en_in hsym hn c (by omega) hs hr hsr).symm
    | false =>
      rw [if_neg (by decide)]
      have : s % 2 ^ (m + 1) = s % 2 ^ m := Nat.eq_of_testBit_eq (fun j => by
        by_cases q : j = m
        · rw [q, hr, hb, e, Bool.and_false]
        · exact hsr j q)
      rw [this]
      exact ⟨h1, h2⟩
theorem fill2 (E : Nat → Nat → Int32) {n : Nat} (hn : n ≤ 8) (f : Nat → Int32) (N : Nat) (a b : Nat) (hb : b < 8) : fd (fun i f => fd (fun j f => upd f (8 * i + j) (E i j)) f n) f N (8 * a + b) = if a < N ∧ b < n then E a b else f (8 * a + b) := by
  have row : ∀ (i : Nat) (f : Nat → Int32) (M : Nat), M ≤ 8 → fd (fun j f => upd f (8 * i + j) (E i j)) f M (8 * a + b) = if a = i ∧ b < M then E i b else f (8 * a + b) := by
    intro i f M
    induction M with
    | zero => intro _; rw [fd, if_neg (by omega)]
    | succ M ih =>
      intro hM
      rw [fd, upd_ij _ _ (by omega) hb, ih (by omega)]
      by_cases h : a = i ∧ b = M
      · rw [if_pos h, if_pos (by omega), h.2]
      · rw [if_neg h]
        by_cases h2 : a = i ∧ b < M
        · rw [if_pos h2, if_pos (by omega)]
        · rw [if_neg h2, if_neg (by omega)]
  induction N with
  | zero => rw [fd, if_neg (by omega)]
  | succ N ih =>
    rw [fd, row N _ n hn, ih]
    by_cases h : a = N ∧ b < n
    · rw [if_pos h, if_pos (by omega), h.1]
    · rw [if_neg h]
      by_cases h2 : a < N ∧ b < n
      · rw [if_pos h2, if_pos (by omega)]
      · rw [if_neg h2, if_neg (by omega)]
theorem gain_bd {n : Nat} {tb : Nat → Int32} {B : Int} (hB : 0 ≤ B) (hB2 : B ≤ 1000000) (hb : ∀ q, q < 64 → -B ≤ (tb q).toInt ∧ (tb q).toInt ≤ B) (hn : n ≤ 8) {i : Nat} (hi : i < 8) (s : Int32) : -(9 * B) ≤ (g_gain n tb i s).toInt ∧ (g_gain n tb i s).toInt ≤ 9 * B := by
  have l2 : (n : Int) * B ≤ 8 * B := Int.mul_le_mul_of_nonneg_right (by omega) hB
  have h := sm_bd (f := fun j => if j ≠ i ∧ bb s j = true then tb (8 * i + j) else 0) hB (n := n) (fun j hj => by
    split
    · exact hb _ (by omega)
    · rw [ti_0]; omega) (by omega)
  have h2 := hb (8 * i + i) (by omega)
  rw [gain_sm, ti_add (by omega) (by omega)]
  omega
theorem tv_bd {n : Nat} {tb : Nat → Int32} {B : Int} (hB : 0 ≤ B) (hB2 : B ≤ 1000000) (hb : ∀ q, q < 64 → -B ≤ (tb q).toInt ∧ (tb q).toInt ≤ B) (hn : n ≤ 8) {i j : Nat} (hi : i < 8) (hj : j < 8) (s : Int32) : -(9 * B) ≤ (g_tv n tb s i j).toInt ∧ (g_tv n tb s i j).toInt ≤ 9 * B := by
  have h := gain_bd hB hB2 hb hn hi s
  have h2 := hb (8 * i + j) (by omega)
  rw [g_tv, g_cb]
  repeat' split
  · rw [ti_neg (by omega)]; omega
  · omega
  · omega
  · rw [ti_neg (by omega)]; omega
theorem far_iff {x : Int32} (h : -2147483648 < x.toInt) : 60 < iabs x ↔ inw x (-60) 60 = false := by
  have e1 : (-60 : Int32).toInt = -60 := rfl
  have e2 : (60 : Int32).toInt = 60 := rfl
  have hx := Int32.toInt_lt x
  rw [iabs_n h, fa_lt, nI_toInt (by omega), e2, inw, decide_eq_false_iff_not, fa_le, fa_le, e1, e2]
  omega
theorem anyB_ex {p : Nat → Bool} {n : Nat} : anyB p n = true ↔ ∃ i, i < n ∧ p i = true := by
  constructor
  · intro h
    obtain ⟨i, hi, hp⟩ := List.any_eq_true.mp h
    exact ⟨i, List.mem_range.mp hi, hp⟩
  · intro ⟨i, hi, hp⟩
    exact anyB_t hi hp
theorem b_turn {k : Nat} (hk : k ≤ 512) {wc wm : ix_W} (R : Rel k wc wm) (x : Int32) : Both k m_X4_turn m_X5_turn [.inl x] wc wm := by
  obtain ⟨n, c, tb, tl, se, on, dd, ch, tn, ro, ot, ow, tr, tu, ld, lc, cc, br, bw, fs, fo, cm, ce, li, ke, be, rfl, rfl, I⟩ := R
  have I0 := I
  obtain ⟨⟨hn1, hn, ht⟩, i2, i3, i4, i5, i6, i7, i8⟩ := I
  have hp := (pw_le hn).1
  by_cases h : inw x 0 (nI (2 ^ n) - 1) = true
  · obtain ⟨s, hs, rfl⟩ := inw_of (by omega) h
    obtain ⟨t1, t2⟩ := tt_eq i2 hn c s (Nat.le_refl n)
    rw [Nat.mod_eq_of_lt hs] at t1 t2
    have hM1 := m_turn (c := c) (tb := tb) (tl := tl) (se := se) (on := on) (dd := dd) (ch := ch) (fs := fs) (fo := fo) (cm := cm) (ce := ce) (li := li) (ke := ke) (be := be) hn h
    have hM2 := m_turn_not (c := c) (tb := tb) (tl := tl) (se := se) (on := on) (dd := dd) (ch := ch) (fs := fs) (fo := fo) (cm := cm) (ce := ce) (li := li) (ke := ke) (be := be) hn h
    rw [t1] at hM1
    generalize (fd (h_tt n (nI s)) (c, tb) n).2 = T at t2 hM1 hM2
    have bd : ∀ i j, i < n → j < n → -2147483648 < (g_tv n tb (nI s) i j).toInt := fun i j hi hj => by
      have := tv_bd (B := 60 + 10 * (k : Int)) (by omega) (by omega) i4 hn (i := i) (j := j) (by omega) (by omega) (nI s)
      omega
    have fe : ∀ q, q < 64 → (h_far T q = true ↔ (q / 8 < n ∧ q % 8 < n ∧ g_tk n tb (nI s) (q / 8) (q % 8) = false)) := fun q hq => by
      have e : q = 8 * (q / 8) + q % 8 := by omega
      rw [h_far, decide_eq_true_iff]
      rw [show T q = T (8 * (q / 8) + q % 8) by rw [← e], t2 _ _ (by omega), tvn]
      by_cases hh : q / 8 < n ∧ q % 8 < n
      · rw [if_pos hh, far_iff (bd _ _ hh.1 hh.2), g_tk]
        exact ⟨fun y => ⟨hh.1, hh.2, y⟩, fun y => y.2.2⟩
      · rw [if_neg hh, i3 _ _ (by omega) (by omega) (by omega)]
        exact ⟨fun y => absurd y (by decide), fun y => absurd ⟨y.1, y.2.1⟩ hh⟩
    cases hf : anyB (h_far T) 64 with
    | true =>
      obtain ⟨q0, hq0, hq1⟩ := anyB_ex.mp hf
      obtain ⟨q, ⟨hq, y1, y2, y3⟩, hmin⟩ := pk_least (fun q => q < 64 ∧ q / 8 < n ∧ q % 8 < n ∧ g_tk n tb (nI s) (q / 8) (q % 8) = false) ⟨q0, hq0, (fe q0 hq0).mp hq1⟩
      have ok : ∀ i j, i < n → j < n → 8 * i + j < q → g_tk n tb (nI s) i j = true := fun i j hi hj hl => by
        have e1 : (8 * i + j) / 8 = i := by omega
        have e2 : (8 * i + j) % 8 = j := by omega
        have := hmin (8 * i + j) hl
        rw [e1, e2] at this
        cases z : g_tk n tb (nI s) i j with
        | true => rfl
        | false => exact absurd ⟨by omega, hi, hj, z⟩ this
      obtain ⟨tn2, hC⟩ := c_turn_not (c := c) (tb := tb) (tn := tn) (tl := tl) (se := se) (on := on) (dd := dd) (ch := ch) (ro := ro) (ot := ot) (ow := ow) (tr := tr) (tu := tu) (ld := ld) (lc := lc) (cc := cc) (br := br) (bw := bw) hn h y1 y2 (fun i2 hi2 j hj => ok i2 j (by omega) hj (by omega)) (fun j2 hj2 => ok _ j2 y1 (by omega) (by omega)) y3
      have hM := hM2 hf
      have er : fd (h_cp (fd (h_cp tb) ke 64)) T 64 = tb := by
        funext q
        rw [show h_cp (fd (h_cp tb) ke 64) = fun x f => upd f x (fd (h_cp tb) ke 64 x) from rfl, cp_at]
        by_cases hq : q < 64
        · rw [if_pos hq, show h_cp tb = fun x f => upd f x (tb x) from rfl, cp_at, if_pos hq]
        · rw [if_neg hq]
          have e : q = 8 * (q / 8) + q % 8 := by omega
          rw [e, t2 _ _ (by omega), tvn, if_neg (by omega)]
      rw [er] at hM
      exact ⟨_, _, _, hC, hM, Rel.mk' I0.up⟩
    | false =>
      have ok : ∀ i, i < n → ∀ j, j < n → g_tk n tb (nI s) i j = true := fun i hi j hj => by
        cases z : g_tk n tb (nI s) i j with
        | true => rfl
        | false =>
          have e1 : (8 * i + j) / 8 = i := by omega
          have e2 : (8 * i + j) % 8 = j := by omega
          have := anyB_t (p := h_far T) (n := 64) (i := 8 * i + j) (by omega) ((fe _ (by omega)).mpr (by rw [e1, e2]; exact ⟨hi, hj, z⟩))
          rw [hf] at this
          exact absurd this (by decide)
      have hC := c_turn (c := c) (tb := tb) (tn := tn) (tl := tl) (se := se) (on := on) (dd := dd) (ch := ch) (ro := ro) (ot := ot) (ow := ow) (tr := tr) (tu := tu) (ld := ld) (lc := lc) (cc := cc) (br := br) (bw := bw) hn h ok
      have hM := hM1 hf
      have et : fd (g_cr n (fd (g_tr n tb (nI s)) tn n)) tb n = T := by
        funext q
        have e : q = 8 * (q / 8) + q % 8 := by omega
        rw [e, t2 _ _ (by omega), tvn, show g_cr n (fd (g_tr n tb (nI s)) tn n) = fun i f => fd (fun j f => upd f (8 * i + j) (fd (g_tr n tb (nI s)) tn n (8 * i + j))) f n from rfl, fill2 (fun i j => fd (g_tr n tb (nI s)) tn n (8 * i + j)) hn tb n _ _ (by omega)]
        by_cases hh : q / 8 < n ∧ q % 8 < n
        · rw [if_pos hh, if_pos hh, show g_tr n tb (nI s) = fun i f => fd (fun j f => upd f (8 * i + j) (g_tv n tb (nI s) i j)) f n from rfl, fill2 (fun i j => g_tv n tb (nI s) i j) hn tn n _ _ (by omega), if_pos hh]
        · rw [if_neg hh, if_neg hh]
      rw [et, en_eq hn] at hC
      refine ⟨_, _, _, hC, hM, Rel.mk' ?_⟩
      refine ⟨⟨hn1, hn, ht⟩, ?_, ?_, ?_, ?_, i6, i7, i8⟩
      · intro i j hi hj
        rw [t2 i j hj, t2 j i hi, tvn, tvn]
        by_cases hh : i < n ∧ j < n
        · rw [if_pos hh, if_pos ⟨hh.2, hh.1⟩]
          by_cases e : i = j
          · rw [e]
          · rw [g_tv, g_tv, if_neg e, if_neg (show ¬ j = i from fun y => e y.symm), i2 i j hi hj]
            by_cases z : bb (nI s) i = bb (nI s) j
            · rw [if_pos z, if_pos z.symm]
            · rw [if_neg z, if_neg (fun y => z y.symm)]
        · rw [if_neg hh, if_neg (by omega), i2 i j hi hj]
      · intro i j hi hj hh
        rw [t2 i j hj, tvn, if_neg (by omega), i3 i j hi hj hh]
      · intro q hq
        have e : q = 8 * (q / 8) + q % 8 := by omega
        rw [e, t2 _ _ (by omega), tvn]
        by_cases hh : q / 8 < n ∧ q % 8 < n
        · rw [if_pos hh]
          have := of_decide_eq_true (ok _ hh.1 _ hh.2)
          rw [fa_le, fa_le] at this
          have e1 : (-60 : Int32).toInt = -60 := rfl
          have e2 : (60 : Int32).toInt = 60 := rfl
          omega
        · rw [if_neg hh, i3 _ _ (by omega) (by omega) (by omega), ti_0]
          omega
      · have := enb_bd (B := 60 + 10 * (k : Int)) (by omega) (by omega) i4 (fun i => s.testBit i) hn
        rw [hen_b hn, ti_add (by omega) (by omega)]
        omega
  · exact ⟨_, _, _, c_turn_bad hn (inw_no h), m_turn_bad hn (inw_no h), Rel.mk' I0.up⟩
end
section
/-! fixed -/
theorem vf_eq {n : Nat} (tb : Nat → Int32) (i : Nat) {s o : Int32} (ho : ∀ j, j < n → bb o j = true → bb s j = true) : g_vf n tb i s o = h_mb n tb i s o := by
  have e1 : g_gain n tb i o = fd (h_mo tb i s o) (tb (8 * i + i)) n := by
    rw [g_gain]
    apply fd_congr
    intro j a hj
    rw [g_gs, h_mo, h_w]
    by_cases e : i = j
    · rw [if_pos e, if_neg (fun q => q.1 e.symm)]
      repeat' split
      all_goals first | rfl | rw [Int32.add_zero]
    · rw [if_neg e]
      cases hb : bb o j with
      | true => rw [if_pos ⟨fun q => e q.symm, rfl⟩, ho j hj hb, if_pos rfl, if_pos rfl]
      | false =>
        rw [if_neg (by simp), if_neg (show ¬ (false = true) by decide), Int32.add_zero]
        split <;> rfl
  have e2 : fd (g_vb tb i s) 0 n = fd (h_ml tb i s) 0 n := by
    apply fd_congr
    intro j a _
    rw [g_vb, h_ml, h_w]
    by_cases e : i = j
    · rw [if_pos e, if_pos (Or.inl e.symm), if_pos (show (0 : Int32) ≤ 0 by decide), Int32.add_zero]
      split <;> rfl
    · rw [if_neg e]
      cases hb : bb s j with
      | true => rw [if_pos (Or.inr rfl), if_pos rfl]
      | false =>
        rw [if_neg (fun q => q.elim (fun y => e y.symm) (by decide)), if_neg (by decide)]
        congr 1
        generalize tb (8 * i + j) = y
        rw [imin]
        by_cases z : 0 ≤ y
        · rw [if_pos z]
          split
          · rfl
          · rename_i z2
            rw [i32_nlt] at z2
            rw [fa_le] at z z2
            rw [fa_eq]; omega
        · rw [if_neg z, if_neg (fun q => z (by rw [fa_lt] at q; rw [fa_le]; omega))]
  have e3 : fd (g_va tb i s) 0 n = fd (h_mm tb i s) 0 n := by
    apply fd_congr
    intro j a _
    rw [g_va, h_mm, h_w]
    by_cases e : i = j
    · rw [if_pos e, if_pos (Or.inl e.symm), if_pos (show (0 : Int32) ≤ 0 by decide), Int32.add_zero]
      split <;> rfl
    · rw [if_neg e]
      cases hb : bb s j with
      | true => rw [if_pos (Or.inr rfl), if_pos rfl]
      | false =>
        rw [if_neg (fun q => q.elim (fun y => e y.symm) (by decide)), if_neg (by decide)]
        congr 1
        generalize tb (8 * i + j) = y
        rw [imax]
        by_cases z : y ≤ 0
        · rw [if_pos z]
          split
          · rfl
          · rename_i z2
            rw [i32_nlt] at z2
            rw [fa_le] at z z2
            rw [fa_eq]; omega
        · rw [if_neg z, if_neg (fun q => z (by rw [fa_lt] at q; rw [fa_le]; omega))]
  rw [g_vf, h_mb, e1, e2, e3]
theorem or_bit (s : Int32) {i j : Nat} (hi : i < 32) (hj : j < 32) : bb (s ||| ((1 : Int32) <<< (nI i &&& 31))) j = (bb s j || decide (j = i)) := by
  rw [bb_bt hj, bb_bt hj, b_or, b_shl i hi 1 hj, bt_1]
  congr 1
  by_cases h : j = i
  · rw [decide_eq_true h, decide_eq_true (by omega), decide_eq_true (by omega)]; rfl
  · rw [decide_eq_false h]
    by_cases h2 : i ≤ j
    · rw [decide_eq_false (show ¬ j - i = 0 by omega), Bool.and_false]
    · rw [decide_eq_false h2, Bool.false_and]
theorem or_none (s : Int32) {i : Nat} (hi : i < 32) : s ||| ((0 : Int32) <<< (nI i &&& 31)) = s := by
  apply b_ext
  intro j hj
  rw [b_or, b_shl i hi 0 hj, b_0, Bool.and_false, Bool.or_false]
theorem fv_01 (n : Nat) (tb : Nat → Int32) (i : Nat) (s o : Int32) : h_fv n tb i s o = -1 ∨ (bb s i = false ∧ (h_fv n tb i s o = 0 ∨ h_fv n tb i s o = 1)) := by
  unfold h_fv h_mb
  cases bb s i with
  | true => exact Or.inl (if_pos rfl)
  | false =>
    rw [if_neg (by decide)]
    repeat' split
    · exact Or.inl rfl
    · exact Or.inr ⟨rfl, Or.inr rfl⟩
    · exact Or.inr ⟨rfl, Or.inl rfl⟩
def Sub (n : Nat) (p : Int32 × Int32 × Int32) : Prop := ∀ j, j < n → bb p.2.1 j = true → bb p.1 j = true
theorem fx_sub {n : Nat} (hn : n ≤ 8) (tb : Nat → Int32) {i : Nat} (hi : i < n) {p : Int32 × Int32 × Int32} (h : Sub n p) : g_fx n tb i p = h_fx n tb i p ∧ Sub n (h_fx n tb i p) := by
  have e : g_fv n tb i p.1 p.2.1 = h_fv n tb i p.1 p.2.1 := by rw [g_fv, h_fv, vf_eq tb i h]
  refine ⟨by rw [g_fx, h_fx, e], ?_⟩
  rw [h_fx]
  rcases fv_01 n tb i p.1 p.2.1 with q | ⟨-, q⟩
  · rw [if_pos q]; exact h
  · rw [if_neg (fun z => by rcases q with q | q <;> rw [q] at z <;> exact absurd z (by decide))]
    intro j hj hb
    dsimp only at hb ⊢
    rw [or_bit _ (by omega) (by omega)]
    rcases q with q | q
    · rw [q, or_none _ (by omega)] at hb
      rw [h j hj hb]; rfl
    · rw [q, or_bit _ (by omega) (by omega), Bool.or_eq_true] at hb
      rcases hb with hb | hb
      · rw [h j hj hb]; rfl
      · rw [hb, Bool.or_true]
theorem fxs_sub {n : Nat} (hn : n ≤ 8) (tb : Nat → Int32) {p : Int32 × Int32 × Int32} (h : Sub n p) : ∀ {m : Nat}, m ≤ n → fd (g_fx n tb) p m = fd (h_fx n tb) p m ∧ Sub n (fd (h_fx n tb) p m)
  | 0, _ => by rw [fd, fd]; exact ⟨rfl, h⟩
  | m + 1, hm => by
    obtain ⟨e, hs⟩ := fxs_sub hn tb h (m := m) (by omega)
    rw [fd, fd, e]
    exact fx_sub hn tb (by omega) hs
theorem fo_sub {n : Nat} (hn : n ≤ 8) (tb : Nat → Int32) : ∀ r, fd (g_fo n tb) (0, 0, 1) r = fd (h_fo n tb) (0, 0, 1) r ∧ Sub n (fd (h_fo n tb) (0, 0, 1) r)
  | 0 => by
    rw [fd, fd]
    exact ⟨rfl, fun j _ hb => hb⟩
  | r + 1 => by
    obtain ⟨e, hs⟩ := fo_sub hn tb r
    rw [fd, fd, e, g_fo, h_fo]
    split
    · exact ⟨rfl, hs⟩
    · exact fxs_sub hn tb (p := (_, _, 0)) hs (Nat.le_refl n)
def Grow (n : Nat) (s o : Int32) (p : Int32 × Int32 × Int32) : Prop := (∀ j, j < n → bb s j = true → bb p.1 j = true) ∧ (p = (s, o, 0) ∨ (p.2.2 = 1 ∧ ∃ j, j < n ∧ bb s j = false ∧ bb p.1 j = true))
theorem fx_grow {n : Nat} (hn : n ≤ 8) (tb : Nat → Int32) (s o : Int32) : ∀ {m : Nat}, m ≤ n → Grow n s o (fd (h_fx n tb) (s, o, 0) m)
  | 0, _ => ⟨fun _ _ h => h, Or.inl rfl⟩
  | m + 1, hm => by
    have ih := fx_grow hn tb s o (m := m) (by omega)
    rw [fd]
    generalize fd (h_fx n tb) (s, o, 0) m = p at ih ⊢
    obtain ⟨h1, h2⟩ := ih
    rw [h_fx]
    rcases fv_01 n tb m p.1 p.2.1 with q | ⟨q0, q⟩
    · rw [if_pos q]; exact ⟨h1, h2⟩
    · rw [if_neg (fun z => by rcases q with q | q <;> rw [q] at z <;> exact absurd z (by decide))]
      refine ⟨fun j hj hb => ?_, Or.inr ⟨rfl, m, by omega, ?_, ?_⟩⟩
      · dsimp only
        rw [or_bit _ (by omega) (by omega), h1 j hj hb]; rfl
      · cases z : bb s m with
        | false => rfl
        | true => rw [h1 m (by omega) z] at q0; exact absurd q0 (by decide)
      · dsimp only
        rw [or_bit _ (by omega) (by omega), decide_eq_true rfl, Bool.or_true]
theorem cnt_up {n : Nat} {p q : Nat → Bool} (h : ∀ j, j < n → p j = true → q j = true) {k : Nat} (hk : k < n) (h1 : p k = false) (h2 : q k = true) : fb_ct p n + 1 ≤ fb_ct q n := by
  have e := fb_ct_upd p true (i := k) hk
  rw [h1, if_neg (by decide), if_pos rfl] at e
  have := fb_ct_sub (p := fun j => if j = k then true else p j) (q := q) (n := n) (fun j hj hb => by
    by_cases z : j = k
    · rw [z, h2]
    · simp only [if_neg z] at hb; exact h j hj hb)
  omega
theorem fo_cnt {n : Nat} (hn : n ≤ 8) (tb : Nat → Int32) : ∀ r, (fd (h_fo n tb) (0, 0, 1) r).2.2 = 0 ∨ ((fd (h_fo n tb) (0, 0, 1) r).2.2 = 1 ∧ r ≤ fb_ct (fun j => bb (fd (h_fo n tb) (0, 0, 1) r).1 j) n)
  | 0 => Or.inr ⟨rfl, Nat.zero_le _⟩
  | r + 1 => by
    have ih := fo_cnt hn tb r
    rw [fd]
    generalize fd (h_fo n tb) (0, 0, 1) r = p at ih ⊢
    rw [h_fo]
    rcases ih with h | ⟨h, hc⟩
    · rw [if_pos h]; exact Or.inl h
    · rw [if_neg (by rw [h]; decide)]
      obtain ⟨g1, g2⟩ := fx_grow hn tb p.1 p.2.1 (Nat.le_refl n)
      rcases g2 with g2 | ⟨g2, k, hk, g3, g4⟩
      · rw [g2]; exact Or.inl rfl
      · refine Or.inr ⟨g2, ?_⟩
        have := cnt_up (p := fun j => bb p.1 j) (q := fun j => bb (fd (h_fx n tb) (p.1, p.2.1, 0) n).1 j) g1 hk g3 g4
        omega
theorem fo_end {n : Nat} (hn : n ≤ 8) (tb : Nat → Int32) : (fd (h_fo n tb) (0, 0, 1) 9).2.2 = 0 ∧ (fd (h_fo n tb) (0, 0, 1) 9).1 = (fd (h_fo n tb) (0, 0, 1) 8).1 ∧ (fd (h_fo n tb) (0, 0, 1) 9).2.1 = (fd (h_fo n tb) (0, 0, 1) 8).2.1 := by
  have ih := fo_cnt hn tb 8
  rw [show (9 : Nat) = 8 + 1 from rfl, fd]
  generalize fd (h_fo n tb) (0, 0, 1) 8 = p at ih ⊢
  rw [h_fo]
  rcases ih with h | ⟨h, hc⟩
  · rw [if_pos h]; exact ⟨h, rfl, rfl⟩
  · rw [if_neg (by rw [h]; decide)]
    obtain ⟨-, g2⟩ := fx_grow hn tb p.1 p.2.1 (Nat.le_refl n)
    rcases g2 with g2 | ⟨g2, k, hk, g3, g4⟩
    · rw [g2]; exact ⟨rfl, rfl, rfl⟩
    · have hl := fb_ct_le (fun j => bb p.1 j) n
      have := fb_ct_all.mp (show fb_ct (fun j => bb p.1 j) n = n by omega) k hk
      rw [g3] at this
      exact absurd this (by decide)
theorem b_fixed {k : Nat} {wc wm : ix_W} (R : Rel k wc wm) (x : Int32) : Both k m_X4_fixed m_X5_fixed [.inl x] wc wm := by
  obtain ⟨n, c, tb, tl, se, on, dd, ch, tn, ro, ot, ow, tr, tu, ld, lc, cc, br, bw, fs, fo, cm, ce, li, ke, be, rfl, rfl, I⟩ := R
  have hn := I.1.2.1
  by_cases h : inw x 0 1 = true
  · obtain ⟨f1, f2, f3⟩ := fo_end hn tb
    have hM := m_fixed (c := c) (tl := tl) (se := se) (on := on) (dd := dd) (ch := ch) (fs := fs) (fo := fo) (cm := cm) (ce := ce) (li := li) (ke := ke) (be := be) hn h f1
    have hC := c_fixed (c := c) (tb := tb) (tn := tn) (tl := tl) (se := se) (on := on) (dd := dd) (ch := ch) (ro := ro) (ot := ot) (ow := ow) (tr := tr) (tu := tu) (ld := ld) (lc := lc) (cc := cc) (br := br) (bw := bw) hn h
    rw [(fo_sub hn tb 8).1] at hC
    rw [f2, f3] at hM
    exact ⟨_, _, _, hC, hM, Rel.mk' I.up⟩
  · exact ⟨_, _, _, c_fixed_no (inw_no h), m_fixed_no (inw_no h), Rel.mk' I.up⟩
end
section
/-! pull -/
theorem nI_gt0 {n : Nat} (h0 : 0 < n) (h : n < 2 ^ 31) : 0 < nI n := by rw [fa_lt, nI_toInt h, ti_0]; omega
def pv (d : Int) (M : Nat) : Nat := if 0 < M ∧ 0 ≤ d then d.toNat / M + 1 else 0
theorem pv_le {d : Int} {B : Nat} (h : d ≤ B) (M : Nat) : pv d M ≤ B + 1 := by
  rw [pv]
  split
  · have := Nat.div_le_self d.toNat M
    omega
  · omega
theorem pv_sub {R best : Int32} {d : Int} (hd : best.toInt - R.toInt = d) (h1 : -1000000 ≤ d) (h2 : d ≤ 1000000) : (best - R).toInt = d := by
  rw [ti_sub (by omega) (by omega), hd]
theorem pv_div {R best : Int32} {d : Int} {M : Nat} (hd : best.toInt - R.toInt = d) (h0 : 0 ≤ d) (h2 : d ≤ 1000000) (hM : 0 < M) (hM2 : M ≤ 1000) : (best - R) / nI M + 1 = nI (d.toNat / M + 1) := by
  have e : best - R = nI d.toNat := by
    rw [fa_eq, pv_sub hd (by omega) h2, nI_toInt (by omega)]; omega
  rw [e, pk_div (by omega) hM (by omega), nI_1]
theorem pv_h {R best : Int32} {d : Int} {M a : Nat} (hd : best.toInt - R.toInt = d) (h1 : -1000000 ≤ d) (h2 : d ≤ 1000000) (hM2 : M ≤ 1000) (ha : a ≤ 1000001) : (if 0 < nI M ∧ 0 ≤ best - R then (if (best - R) / nI M + 1 ≤ nI a then nI a else (best - R) / nI M + 1) else nI a) = nI (max a (pv d M)) := by
  rw [pv]
  by_cases h : 0 < M ∧ 0 ≤ d
  · rw [if_pos h, if_pos ⟨nI_gt0 h.1 (by omega), by rw [fa_le, pv_sub hd h1 h2, ti_0]; exact h.2⟩, pv_div hd h.2 h2 h.1 hM2]
    have := Nat.div_le_self d.toNat M
    by_cases q : d.toNat / M + 1 ≤ a
    · rw [if_pos (nI_le q (by omega)), Nat.max_eq_left q]
    · rw [if_neg (fun y => q ((nI_leI (by omega) (by omega)).mp y)), Nat.max_eq_right (by omega)]
  · rw [if_neg h, Nat.max_eq_left (by omega), if_neg]
    intro ⟨y1, y2⟩
    refine h ⟨(nI_ltI (by omega) (by omega)).mp (by rw [nI_0]; exact y1), ?_⟩
    rw [fa_le, pv_sub hd h1 h2, ti_0] at y2
    exact y2
theorem pv_g {R best : Int32} {d : Int} {M a : Nat} (hd : best.toInt - R.toInt = d) (h1 : -1000000 ≤ d) (h2 : d ≤ 1000000) (hM2 : M ≤ 1000) (ha : a ≤ 1000001) (hR : -100000000 ≤ R.toInt) (hR2 : R.toInt ≤ 100000000) : (if 0 < nI M ∧ R + nI a * nI M ≤ best then (best - R) / nI M + 1 else nI a) = nI (max a (pv d M)) := by
  have hm : a * M ≤ 1000001 * 1000 := Nat.mul_le_mul ha hM2
  have e : (R + nI a * nI M).toInt = R.toInt + ((a * M : Nat) : Int) := by
    rw [pk_mul, ti_add, nI_toInt (by omega)]
    · rw [nI_toInt (by omega)]; omega
    · rw [nI_toInt (by omega)]; omega
  rw [pv]
  by_cases h : 0 < M ∧ 0 ≤ d
  · rw [if_pos h, pv_div hd h.2 h2 h.1 hM2]
    by_cases q : a * M ≤ d.toNat
    · rw [if_pos ⟨nI_gt0 h.1 (by omega), by rw [fa_le, e]; omega⟩, Nat.max_eq_right (Nat.le_succ_of_le ((Nat.le_div_iff_mul_le h.1).mpr q))]
    · rw [if_neg (fun y => q (by have := y.2; rw [fa_le, e] at this; omega)), Nat.max_eq_left]
      rcases Nat.lt_or_ge (d.toNat / M) a with z | z
      · exact z
      · exact absurd ((Nat.le_div_iff_mul_le h.1).mp z) q
  · rw [if_neg h, Nat.max_eq_left (by omega), if_neg]
    intro ⟨y1, y2⟩
    refine h ⟨(nI_ltI (by omega) (by omega)).mp (by rw [nI_0]; exact y1), ?_⟩
    rw [fa_le, e] at y2
    omega
theorem mis_bd {tl : Nat} {se on : Nat → Int32} {s : Nat} (hs : s < 256) (ht : tl ≤ 6) (ho : ∀ l, l < tl → 0 ≤ (on l).toInt ∧ (on l).toInt ≤ 8) : ∃ M : Nat, M ≤ 384 ∧ h_mis tl se on (nI s) = nI M := by
  have key : ∀ t, t ≤ tl → 0 ≤ (fd (h_ms se on (nI s)) 0 t).toInt ∧ (fd (h_ms se on (nI s)) 0 t).toInt ≤ 64 * (t : Int) := by
    intro t
    induction t with
    | zero => intro _; rw [fd, ti_0]; omega
    | succ t ih =>
      intro ht2
      have ih := ih (by omega)
      rw [fd, h_ms]
      obtain ⟨q, hq, e⟩ := and_nI s (se t)
      have hb := bc8 q (by omega)
      have ho1 := ho t (by omega)
      rw [e, io_n]
      have e1 : (nI (bc1 q 20) - on t).toInt = (bc1 q 20 : Int) - (on t).toInt := by rw [ti_sub, nI_toInt (by omega)] <;> rw [nI_toInt (by omega)] <;> omega
      generalize hx : (bc1 q 20 : Int) - (on t).toInt = x at e1
      have hx1 : -8 ≤ x ∧ x ≤ 8 := by omega
      have e2 : 0 ≤ x * x ∧ x * x ≤ 64 := by
        rcases Int.le_total 0 x with z | z
        · exact ⟨Int.mul_nonneg z z, Int.le_trans (Int.mul_le_mul hx1.2 hx1.2 z (by omega)) (by omega)⟩
        · have : x * x = (-x) * (-x) := by rw [Int.neg_mul_neg]
          rw [this]
          exact ⟨Int.mul_nonneg (by omega) (by omega), Int.le_trans (Int.mul_le_mul (by omega : -x ≤ 8) (by omega : -x ≤ 8) (by omega) (by omega)) (by omega)⟩
      have e3 : ((nI (bc1 q 20) - on t) * (nI (bc1 q 20) - on t)).toInt = x * x := by rw [ti_mul, e1] <;> rw [e1] <;> omega
      rw [ti_add, e3] <;> (try rw [e3]) <;> omega
  obtain ⟨k1, k2⟩ := key tl (Nat.le_refl _)
  refine ⟨(h_mis tl se on (nI s)).toInt.toNat, ?_, ?_⟩
  · rw [h_mis]; omega
  · rw [fa_eq, nI_toInt]
    · rw [h_mis]; omega
    · rw [h_mis]; omega
theorem bk_eq {R E M M2 : Nat → Int32} : ∀ {N : Nat}, (∀ s, s < N → R s = E s ∧ M s = M2 s) → (fd (g_bk R M) none N).map R = fd (h_pk E M2) none N
  | 0, _ => rfl
  | N + 1, h => by
    have ih := bk_eq (N := N) (fun s hs => h s (by omega))
    rw [fd, fd, ← ih]
    unfold g_bk h_pk
    rw [(h N (by omega)).2]
    by_cases hM : M2 N = 0
    · rw [if_pos hM, if_pos hM]
      cases fd (g_bk R M) none N with
      | none => simp only [Option.map, (h N (by omega)).1]
      | some q =>
        simp only [Option.map, ← (h N (by omega)).1]
        by_cases z : R q ≤ R N
        · rw [if_pos z, if_pos z]
        · rw [if_neg z, if_neg z]
    · rw [if_neg hM, if_neg hM]
theorem en_bd {k n : Nat} {c : Int32} {tb : Nat → Int32} (hk : k ≤ 512) (hn : n ≤ 8) (i4 : ∀ q, q < 64 → -(60 + 10 * (k : Int)) ≤ (tb q).toInt ∧ (tb q).toInt ≤ 60 + 10 * (k : Int)) (i5 : -(186480 * (k : Int)) ≤ c.toInt ∧ c.toInt ≤ 186480 * (k : Int)) (s : Nat) : (h_en n c tb (nI s)).toInt = c.toInt + (enb n tb (fun i => s.testBit i)).toInt ∧ -186480 ≤ (enb n tb (fun i => s.testBit i)).toInt ∧ (enb n tb (fun i => s.testBit i)).toInt ≤ 186480 := by
  have := enb_bd (B := 60 + 10 * (k : Int)) (by omega) (by omega) i4 (fun i => s.testBit i) hn
  rw [hen_b hn, ti_add (by omega) (by omega)]
  omega
def mx (f : Nat → Nat) : Nat → Nat
  | 0 => 0
  | n + 1 => max (mx f n) (f n)
theorem mx_le {f : Nat → Nat} {B : Nat} : ∀ {n : Nat}, (∀ i, i < n → f i ≤ B) → mx f n ≤ B
  | 0, _ => Nat.zero_le _
  | n + 1, h => Nat.max_le.mpr ⟨mx_le (fun i hi => h i (by omega)), h n (by omega)⟩
theorem b_pull {k : Nat} (hk : k ≤ 512) {wc wm : ix_W} (R : Rel k wc wm) : Both k m_X4_pull m_X5_pull [] wc wm := by
  obtain ⟨n, c, tb, tl, se, on, dd, ch, tn, ro, ot, ow, tr, tu, ld, lc, cc, br, bw, fs, fo, cm, ce, li, ke, be, rfl, rfl, I⟩ := R
  have I0 := I
  obtain ⟨⟨hn1, hn, ht⟩, i2, i3, i4, i5, i6, i7, i8⟩ := I
  have hp := (pw_le hn).1
  have hR : ∀ s, s < 2 ^ n → g_fill n c tb ro s = h_E n c tb s ∧ g_mis tl se on (nI s) = h_M tl se on s := fun s hs => ⟨fill_eq i2 hn c ro hs, mis_eq tl se on (by omega)⟩
  have e := bk_eq (M := fun s => g_mis tl se on (nI s)) hR
  cases h : fd (g_bk (g_fill n c tb ro) (fun s => g_mis tl se on (nI s))) none (2 ^ n) with
  | none =>
    rw [h] at e
    exact ⟨_, _, _, c_pull_no hn ht h, m_pull_no hn ht e.symm, Rel.mk' I0.up⟩
  | some q =>
    rw [h] at e
    have hq := g_bk_lt _ _ _ q h
    have e' : fd (h_pk (h_E n c tb) (h_M tl se on)) none (2 ^ n) = some (h_en n c tb (nI q)) := by rw [← e, Option.map, (hR q hq).1]
    have hC := c_pull (c := c) (tb := tb) (tn := tn) (se := se) (on := on) (dd := dd) (ch := ch) (ro := ro) (ot := ot) (ow := ow) (tr := tr) (tu := tu) (ld := ld) (lc := lc) (cc := cc) (br := br) (bw := bw) hn ht h
    have hM := m_pull (c := c) (tb := tb) (tl := tl) (se := se) (on := on) (dd := dd) (ch := ch) (fs := fs) (fo := fo) (cm := cm) (ce := ce) (li := li) (ke := ke) (be := be) hn ht e'
    rw [(hR q hq).1] at hC
    have hq2 := en_bd (c := c) hk hn i4 i5 q
    have hd : ∀ s, ∃ (d : Int), (h_en n c tb (nI q)).toInt - (h_en n c tb (nI s)).toInt = d ∧ -1000000 ≤ d ∧ d ≤ 1000000 := fun s => by
      have hs2 := en_bd (c := c) hk hn i4 i5 s
      exact ⟨_, rfl, by omega, by omega⟩
    have hMM : ∀ s, s < 2 ^ n → ∃ M : Nat, M ≤ 384 ∧ h_mis tl se on (nI s) = nI M := fun s hs => mis_bd (by omega) ht i6
    have key : ∀ N, N ≤ 2 ^ n → ∃ a : Nat, a ≤ 1000001 ∧ fd (g_pl (g_fill n c tb ro) (fun s => g_mis tl se on (nI s)) (h_E n c tb q)) 0 N = nI a ∧ fd (h_pm (h_E n c tb) (h_M tl se on) (h_en n c tb (nI q))) 0 N = nI a := by
      intro N
      induction N with
      | zero => intro _; exact ⟨0, by omega, rfl, rfl⟩
      | succ N ih =>
        intro hN
        obtain ⟨a, ha, f1, f2⟩ := ih (by omega)
        obtain ⟨M, hM1, hM2⟩ := hMM N (by omega)
        obtain ⟨d, hd1, hd2, hd3⟩ := hd N
        have hs2 := en_bd (c := c) hk hn i4 i5 N
        refine ⟨max a (pv d M), Nat.max_le.mpr ⟨ha, pv_le (B := 1000000) hd3 M⟩, ?_, ?_⟩
        · rw [fd, f1, g_pl, (hR N (by omega)).1, (hR N (by omega)).2, h_M, hM2]
          exact pv_g (R := h_en n c tb (nI N)) hd1 hd2 hd3 (by omega) ha (by omega) (by omega)
        · rw [fd, f2, h_pm, h_M, hM2]
          exact pv_h hd1 hd2 hd3 (by omega) ha
    obtain ⟨a, ha, f1, f2⟩ := key _ (Nat.le_refl _)
    rw [f1] at hC
    rw [f2] at hM
    refine ⟨_, _, _, hC, Cl.eq hM rfl ?_, Rel.mk' I0.up⟩
    congr 2
    rw [imin, show (1001 : Int32) = nI 1001 from rfl, show (1000 : Int32) = nI 1000 from rfl]
    by_cases z : a ≤ 1000
    · rw [if_pos (nI_le z (by omega)), if_neg (nI_nlt (by omega) (by omega))]
    · rw [if_neg (nI_ge (by omega) (by omega))]
      split
      · rfl
      · rename_i z2
        rw [nI_ltI (by omega) (by omega)] at z2
        congr 1; omega
end
section
/-! the grid: neighbours -/
theorem or_and' (x y z : Int32) : (x ||| y) &&& z = (x &&& z) ||| (y &&& z) := by
  apply b_ext
  intro i _
  rw [b_and, b_or, b_or, b_and, b_and, Bool.and_or_distrib_right]
theorem or_shl' {k : Nat} (hk : k < 32) (x y : Int32) : (x ||| y) <<< (nI k &&& 31) = (x <<< (nI k &&& 31)) ||| (y <<< (nI k &&& 31)) := by
  apply b_ext
  intro i hi
  rw [b_or, b_shl k hk _ hi, b_shl k hk _ hi, b_shl k hk _ hi, b_or, Bool.and_or_distrib_left]
theorem or_shr' {k : Nat} (hk : k < 32) (x y : Int32) : (x ||| y) >>> (nI k &&& 31) = (x >>> (nI k &&& 31)) ||| (y >>> (nI k &&& 31)) := by
  apply b_ext
  intro i hi
  rw [b_or, b_sshr k hk _ hi, b_sshr k hk _ hi, b_sshr k hk _ hi, b_or, b_or]
  split <;> rfl
theorem nb_or (x y : Int32) : g_nb (x ||| y) = g_nb x ||| g_nb y := by
  unfold g_nb
  rw [or_and', or_and', show (1 : Int32) = nI 1 from rfl, show (5 : Int32) = nI 5 from rfl, or_shr' (k := 1) (by omega), or_shl' (k := 1) (by omega), or_shr' (k := 5) (by omega), or_shl' (k := 5) (by omega), or_and']
  apply b_ext
  intro i _
  simp only [b_or]
  ac_rfl
def adjm (c : Nat) : Nat := (((if 5 ≤ c then 2 ^ (c - 5) else 0) ||| (if c < 15 then 2 ^ (c + 5) else 0)) ||| (if c % 5 = 0 then 0 else 2 ^ (c - 1))) ||| (if c % 5 = 4 then 0 else 2 ^ (c + 1))
def nbs (m c a : Nat) : Nat := if m.testBit c = true then a ||| adjm c else a
def nbn (m : Nat) : Nat := fd (nbs m) 0 20
theorem adj_tab : ∀ c, c < 20 → g_nb (nI (2 ^ c)) = nI (adjm c) ∧ (((0 ||| h_u1 c) ||| h_u2 c) ||| h_u3 c) ||| h_u4 c = nI (adjm c) ∧ adjm c < 2 ^ 20 := by decide +kernel
theorem adj_sym : ∀ c, c < 20 → ∀ d, d < 20 → (adjm c).testBit d = (adjm d).testBit c := by decide +kernel
theorem zor (x : Int32) : 0 ||| x = x := by
  apply b_ext
  intro i _
  rw [b_or, b_0, Bool.false_or]
theorem mod_or (m N : Nat) : m % 2 ^ (N + 1) = if m.testBit N = true then (m % 2 ^ N) ||| 2 ^ N else m % 2 ^ N := by
  apply Nat.eq_of_testBit_eq
  intro j
  rw [Nat.testBit_mod_two_pow]
  cases h : m.testBit N with
  | true =>
    rw [if_pos rfl, Nat.testBit_or, Nat.testBit_mod_two_pow, Nat.testBit_two_pow]
    by_cases e : N = j
    · subst e; rw [h]; simp
    · rw [decide_eq_false e, Bool.or_false, decide_eq_decide.mpr (show j < N + 1 ↔ j < N by omega)]
  | false =>
    rw [if_neg (by decide), Nat.testBit_mod_two_pow]
    by_cases e : N = j
    · subst e; rw [h]; simp
    · rw [decide_eq_decide.mpr (show j < N + 1 ↔ j < N by omega)]
theorem nb_fold (m : Nat) : ∀ {N : Nat}, N ≤ 20 → g_nb (nI (m % 2 ^ N)) = nI (fd (nbs m) 0 N) ∧ fd (h_bs (nI m)) 0 N = nI (fd (nbs m) 0 N) ∧ fd (nbs m) 0 N < 2 ^ 20
  | 0, _ => by
    rw [Nat.pow_zero, Nat.mod_one, fd, fd]
    exact ⟨by decide, rfl, Nat.two_pow_pos 20⟩
  | N + 1, hN => by
    obtain ⟨h1, h2, h3⟩ := nb_fold m (N := N) (by omega)
    obtain ⟨t1, t2, t3⟩ := adj_tab N (by omega)
    rw [mod_or, fd, fd, nbs, h_bs, bb_nI (by omega)]
    cases m.testBit N with
    | true =>
      rw [if_pos rfl, if_pos rfl, if_pos rfl, ← fa_or, nb_or, h1, t1, fa_or, h2]
      refine ⟨rfl, ?_, Nat.or_lt_two_pow h3 t3⟩
      rw [← fa_or, ← t2, zor]
      apply b_ext
      intro i _
      simp only [b_or]
      ac_rfl
    | false =>
      rw [if_neg (by decide), if_neg (by decide), if_neg (by decide)]
      exact ⟨h1, h2, h3⟩
theorem nb_n {m : Nat} (hm : m < 2 ^ 20) : g_nb (nI m) = nI (nbn m) := by
  have := (nb_fold m (Nat.le_refl 20)).1
  rw [Nat.mod_eq_of_lt hm] at this
  exact this
theorem be_n (m : Nat) : h_be (nI m) = nI (nbn m) := (nb_fold m (Nat.le_refl 20)).2.1
theorem nbn_lt (m : Nat) : nbn m < 2 ^ 20 := (nb_fold m (Nat.le_refl 20)).2.2
theorem nbn_bit (m j : Nat) : (nbn m).testBit j = true ↔ ∃ c, c < 20 ∧ m.testBit c = true ∧ (adjm c).testBit j = true := by
  have : ∀ N, (fd (nbs m) 0 N).testBit j = true ↔ ∃ c, c < N ∧ m.testBit c = true ∧ (adjm c).testBit j = true := by
    intro N
    induction N with
    | zero => rw [fd, Nat.zero_testBit]; exact ⟨fun h => absurd h (by decide), fun ⟨c, h, _⟩ => absurd h (by omega)⟩
    | succ N ih =>
      rw [fd, nbs]
      cases h : m.testBit N with
      | true =>
        rw [if_pos rfl, Nat.testBit_or, Bool.or_eq_true, ih]
        constructor
        · rintro (⟨c, h1, h2, h3⟩ | h1)
          · exact ⟨c, by omega, h2, h3⟩
          · exact ⟨N, by omega, h, h1⟩
        · rintro ⟨c, h1, h2, h3⟩
          by_cases e : c = N
          · subst e; exact Or.inr h3
          · exact Or.inl ⟨c, by omega, h2, h3⟩
      | false =>
        rw [if_neg (by decide), ih]
        constructor
        · rintro ⟨c, h1, h2, h3⟩; exact ⟨c, by omega, h2, h3⟩
        · rintro ⟨c, h1, h2, h3⟩
          refine ⟨c, ?_, h2, h3⟩
          rcases Nat.lt_or_ge c N with z | z
          · exact z
          · have : c = N := by omega
            subst this; rw [h] at h2; exact absurd h2 (by decide)
  exact this 20
theorem lt_bit {m j : Nat} (hm : m < 2 ^ 20) (h : m.testBit j = true) : j < 20 := by
  rcases Nat.lt_or_ge j 20 with z | z
  · exact z
  · have := Nat.testBit_lt_two_pow (Nat.lt_of_lt_of_le hm (Nat.pow_le_pow_right (by omega) z))
    rw [h] at this
    exact absurd this (by decide)
theorem and_pos_iff {a b : Nat} : 0 < a &&& b ↔ ∃ j, a.testBit j = true ∧ b.testBit j = true := by
  constructor
  · intro h
    obtain ⟨j, hj⟩ := Nat.exists_testBit_of_ne_zero (x := a &&& b) (by omega)
    rw [Nat.testBit_and, Bool.and_eq_true] at hj
    exact ⟨j, hj⟩
  · rintro ⟨j, h1, h2⟩
    rcases Nat.eq_zero_or_pos (a &&& b) with e | e
    · have : (a &&& b).testBit j = true := by rw [Nat.testBit_and, h1, h2]; rfl
      rw [e, Nat.zero_testBit] at this
      exact absurd this (by decide)
    · exact e
theorem nb_sym {a b : Nat} (ha : a < 2 ^ 20) (hb : b < 2 ^ 20) (h : 0 < a &&& nbn b) : 0 < b &&& nbn a := by
  obtain ⟨j, h1, h2⟩ := and_pos_iff.mp h
  obtain ⟨c, c1, c2, c3⟩ := (nbn_bit b j).mp h2
  have hj := lt_bit ha h1
  exact and_pos_iff.mpr ⟨c, c2, (nbn_bit a c).mpr ⟨j, hj, h1, by rw [adj_sym j hj c c1]; exact c3⟩⟩
theorem ht_eq {m : Nat} (h0 : 0 < m) (hm : m < 2 ^ 20) : g_ht (nI m) = h_ht m := by
  have hl := lowb_lt h0 hm (by omega)
  have key : ∀ N, ∃ r, r < 2 ^ 20 ∧ fd (g_hs (nI m)) (nI (2 ^ lowb m)) N = nI r ∧ fd (h_hs (nI m)) (nI (2 ^ lowb m)) N = nI r := by
    intro N
    induction N with
    | zero => exact ⟨2 ^ lowb m, Nat.pow_lt_pow_right (by omega) hl, rfl, rfl⟩
    | succ N ih =>
      obtain ⟨r, hr, e1, e2⟩ := ih
      rw [fd, fd, e1, e2, g_hs, h_hs, nb_n hr, be_n, fa_and, fa_and, fa_or, fa_or, Nat.and_comm m]
      exact ⟨_, Nat.or_lt_two_pow hr (Nat.lt_of_le_of_lt Nat.and_le_right hm), rfl, rfl⟩
  obtain ⟨r, -, e1, e2⟩ := key 20
  rw [g_ht, h_ht, low_bit h0 (by omega), sh1_n hl, e1, e2]
theorem all_n {ch : Nat → Int32} {mm : Nat → Nat} : ∀ {n : Nat}, (∀ i, i < n → ch i = nI (mm i) ∧ mm i < 2 ^ 20) → ∃ A, A < 2 ^ 20 ∧ fd (g_all ch) 0 n = nI A ∧ ∀ j, A.testBit j = true ↔ ∃ i, i < n ∧ (mm i).testBit j = true
  | 0, _ => ⟨0, Nat.two_pow_pos 20, rfl, fun j => ⟨fun h => by rw [Nat.zero_testBit] at h; exact absurd h (by decide), fun ⟨_, h, _⟩ => absurd h (by omega)⟩⟩
  | n + 1, h => by
    obtain ⟨A, h1, h2, h3⟩ := all_n (n := n) (fun i hi => h i (by omega))
    obtain ⟨e, hl⟩ := h n (by omega)
    refine ⟨A ||| mm n, Nat.or_lt_two_pow h1 hl, by rw [fd, h2, g_all, e, fa_or], fun j => ?_⟩
    rw [Nat.testBit_or, Bool.or_eq_true, h3]
    constructor
    · rintro (⟨i, i1, i2⟩ | i1)
      · exact ⟨i, by omega, i2⟩
      · exact ⟨n, by omega, i1⟩
    · rintro ⟨i, i1, i2⟩
      by_cases e : i = n
      · subst e; exact Or.inr i2
      · exact Or.inl ⟨i, by omega, i2⟩
theorem anyB_congr {p q : Nat → Bool} {n : Nat} (h : ∀ i, i < n → p i = q i) : anyB p n = anyB q n := by
  cases e : anyB q n with
  | true =>
    obtain ⟨i, h1, h2⟩ := anyB_ex.mp e
    exact anyB_t h1 (by rw [h i h1]; exact h2)
  | false =>
    refine anyB_f (fun i hi => ?_)
    rw [h i hi]
    cases z : q i with
    | false => rfl
    | true => rw [anyB_t hi z] at e; exact absurd e (by decide)
theorem anyB_no {p : Nat → Bool} {n : Nat} (h : anyB p n = false) {i : Nat} (hi : i < n) : p i = false := by
  cases z : p i with
  | false => rfl
  | true => rw [anyB_t hi z] at h; exact absurd h (by decide)
theorem nI_z {m : Nat} (h : m < 2 ^ 31) : nI m = 0 ↔ m = 0 := by rw [← nI_0, nI_eq h (by omega)]
theorem ff_eq {n : Nat} (hn : n ≤ 8) (tb : Nat → Int32) {ch : Nat → Int32} (dd : Int32) {mm : Nat → Nat} (hm : ∀ i, i < 8 → ch i = nI (mm i) ∧ mm i < 2 ^ 20) (hz : ∀ i, n ≤ i → i < 8 → mm i = 0) : g_ff n tb ch dd = h_ff n tb ch dd mm := by
  obtain ⟨A, hA, eA, -⟩ := all_n (n := n) (fun i hi => hm i (by omega))
  have ez : ∀ i, n ≤ i → i < 8 → ch i = 0 := fun i h1 h2 => by rw [(hm i h2).1, hz i h1 h2]; rfl
  rw [g_ff, h_ff, all_eq hn ez, tog_eq hn hm hz, eA, ibc_io hA]
  cases h1 : anyB (g_p1 ch) n with
  | true => rw [if_pos rfl, if_pos rfl]
  | false =>
    have hpos : ∀ i, i < n → 0 < mm i := fun i hi => by
      have := of_decide_eq_false (anyB_no h1 hi)
      rcases Nat.eq_zero_or_pos (mm i) with z | z
      · exact absurd (by rw [(hm i (by omega)).1, z]; rfl) this
      · exact z
    have e4 : anyB (g_p4 ch) n = anyB (h_p4 mm) n := anyB_congr (fun i hi => by rw [g_p4, h_p4, (hm i (by omega)).1, ht_eq (hpos i hi) (hm i (by omega)).2])
    have e5 : anyB (g_p5 tb ch) n = anyB (h_p5 tb ch) n := anyB_congr (fun i hi => by
      rw [g_p5, h_p5]
      refine anyB_congr (fun j hj => ?_)
      obtain ⟨a1, a2⟩ := hm i (by omega)
      obtain ⟨b1, b2⟩ := hm j (by omega)
      rw [g_p5i, h_p5i, a1, b1, nb_n b2, be_n, fa_and, fa_and]
      have l1 : mm i &&& nbn (mm j) < 2 ^ 20 := Nat.lt_of_le_of_lt Nat.and_le_left a2
      have l2 : mm j &&& nbn (mm i) < 2 ^ 20 := Nat.lt_of_le_of_lt Nat.and_le_left b2
      have s1 := nb_sym (a := mm i) (b := mm j) a2 b2
      have s2 := nb_sym (a := mm j) (b := mm i) b2 a2
      rw [Nat.and_comm (nbn (mm i)) (mm j)]
      refine decide_eq_decide.mpr (and_congr_right (fun _ => ?_))
      rw [nI_z (by omega), nI_z (by omega)]
      omega)
    rw [e4, e5]
theorem b_stands {k : Nat} {wc wm : ix_W} (R : Rel k wc wm) : Both k m_X4_stands m_X5_stands [] wc wm := by
  obtain ⟨n, c, tb, tl, se, on, dd, ch, tn, ro, ot, ow, tr, tu, ld, lc, cc, br, bw, fs, fo, cm, ce, li, ke, be, rfl, rfl, I⟩ := R
  have hn := I.1.2.1
  obtain ⟨mm, hm, hz⟩ := I.2.2.2.2.2.2.2
  exact ⟨_, _, _, c_stands hn, Cl.eq (m_stands hn (mm := mm) (fun i hi => ⟨(hm i (by omega)).1, by have := (hm i (by omega)).2; omega⟩)) rfl (by rw [ff_eq hn tb dd hm hz]), Rel.mk' I.up⟩
theorem ff_0 {n : Nat} {tb ch : Nat → Int32} {dd : Int32} {mm : Nat → Nat} (h : h_ff n tb ch dd mm = 0) : anyB (g_p1 ch) n = false ∧ fd (h_tog ch) 0 n = io (fd (g_all ch) 0 n) ∧ anyB (h_p5 tb ch) n = false ∧ fd (h_tog ch) 0 n ≤ 14 := by
  unfold h_ff at h
  cases h1 : anyB (g_p1 ch) n with
  | true => rw [h1, if_pos rfl] at h; exact absurd h (by decide)
  | false =>
    rw [h1, if_neg (by decide)] at h
    split at h
    · exact absurd h (by decide)
    · split at h
      · exact absurd h (by decide)
      · rename_i h3
        split at h
        · exact absurd h (by decide)
        · split at h
          · exact absurd h (by decide)
          · rename_i h5
            split at h
            · rename_i h6
              exact ⟨rfl, Decidable.not_not.mp h3, by simpa using h5, h6⟩
            · exact absurd h (by decide)
/-! links of standing chains -/
theorem st_pos {n : Nat} {tb ch : Nat → Int32} {dd : Int32} {mm : Nat → Nat} (hm : ∀ i, i < n → ch i = nI (mm i) ∧ mm i < 2 ^ 20) (h : h_ff n tb ch dd mm = 0) : ∀ i, i < n → 0 < mm i := fun i hi => by
  have := of_decide_eq_false (anyB_no (ff_0 h).1 hi)
  rcases Nat.eq_zero_or_pos (mm i) with z | z
  · exact absurd (by rw [(hm i hi).1, z]; rfl) this
  · exact z
theorem st_link {n : Nat} {tb ch : Nat → Int32} {dd : Int32} {mm : Nat → Nat} (hm : ∀ i, i < n → ch i = nI (mm i) ∧ mm i < 2 ^ 20) (h : h_ff n tb ch dd mm = 0) {a b : Nat} (hab : a < b) (hb : b < n) (ht : ¬ tb (8 * b + a) = 0) : 0 < mm a &&& nbn (mm b) := by
  have h5 := anyB_no (ff_0 h).2.2.1 hb
  have h6 := of_decide_eq_false (anyB_no h5 hab)
  obtain ⟨a1, a2⟩ := hm a (by omega)
  obtain ⟨b1, b2⟩ := hm b hb
  rw [a1, b1, be_n, fa_and, nI_z (by have : nbn (mm b) &&& mm a ≤ mm a := Nat.and_le_right; omega), Nat.and_comm] at h6
  rcases Nat.eq_zero_or_pos (mm a &&& nbn (mm b)) with z | z
  · exact absurd ⟨ht, z⟩ h6
  · exact z
def lkf (mm : Nat → Nat) (a b : Nat) : Nat := lowb (mm a &&& nbn (mm b))
def lkt (mm : Nat → Nat) (a b : Nat) : Nat := lowb (mm b &&& nbn (2 ^ lkf mm a b))
theorem lk_all {n : Nat} {tb ch : Nat → Int32} {dd : Int32} {mm : Nat → Nat} (hm : ∀ i, i < n → ch i = nI (mm i) ∧ mm i < 2 ^ 20) (h : h_ff n tb ch dd mm = 0) {a b : Nat} (hab : a < b) (hb : b < n) (ht : ¬ tb (8 * b + a) = 0) : lkf mm a b < 20 ∧ lkt mm a b < 20 ∧ (mm a).testBit (lkf mm a b) = true ∧ (mm b).testBit (lkt mm a b) = true ∧ (adjm (lkf mm a b)).testBit (lkt mm a b) = true ∧ 0 < mm b &&& nbn (2 ^ lkf mm a b) := by
  have hp := st_link hm h hab hb ht
  have ha2 := (hm a (by omega)).2
  have hb2 := (hm b hb).2
  have hl : mm a &&& nbn (mm b) < 2 ^ 20 := Nat.lt_of_le_of_lt Nat.and_le_left ha2
  have hf : lkf mm a b < 20 := lowb_lt hp hl (by omega)
  have hbit := lowb_bit hp (by omega)
  rw [Nat.testBit_and, Bool.and_eq_true] at hbit
  obtain ⟨hb1, hbn⟩ := hbit
  obtain ⟨c, c1, c2, c3⟩ := (nbn_bit _ _).mp hbn
  have hp2 : 0 < mm b &&& nbn (2 ^ lkf mm a b) := and_pos_iff.mpr ⟨c, c2, (nbn_bit _ _).mpr ⟨lkf mm a b, hf, by rw [Nat.testBit_two_pow]; exact decide_eq_true rfl, by rw [adj_sym _ hf _ c1]; exact c3⟩⟩
  have hl2 : mm b &&& nbn (2 ^ lkf mm a b) < 2 ^ 20 := Nat.lt_of_le_of_lt Nat.and_le_left hb2
  have hbit2 := lowb_bit hp2 (by omega)
  rw [Nat.testBit_and, Bool.and_eq_true] at hbit2
  obtain ⟨d, d1, d2, d3⟩ := (nbn_bit _ _).mp hbit2.2
  rw [Nat.testBit_two_pow] at d2
  have d4 := of_decide_eq_true d2
  subst d4
  exact ⟨hf, lowb_lt hp2 hl2 (by omega), hb1, hbit2.1, d3, hp2⟩
theorem b_link {k : Nat} {wc wm : ix_W} (R : Rel k wc wm) (x y z : Int32) : Both k m_X4_link m_X5_link [.inl x, .inl y, .inl z] wc wm := by
  obtain ⟨n, c, tb, tl, se, on, dd, ch, tn, ro, ot, ow, tr, tu, ld, lc, cc, br, bw, fs, fo, cm, ce, li, ke, be, rfl, rfl, I⟩ := R
  have hn := I.1.2.1
  obtain ⟨mm, hm, hz⟩ := I.2.2.2.2.2.2.2
  have hsym := I.2.1
  have hm1 : ∀ i, i < n → ch i = nI (mm i) ∧ mm i < 2 ^ 20 := fun i hi => hm i (by omega)
  have hm2 : ∀ i, i < n → ch i = nI (mm i) ∧ mm i < 2 ^ 31 := fun i hi => ⟨(hm1 i hi).1, by have := (hm1 i hi).2; omega⟩
  have hff := ff_eq hn tb dd hm hz
  by_cases h1 : inw x 0 (nI n - 1) = true
  · by_cases h2 : inw y 0 (nI n - 1) = true
    · by_cases h3 : x = y
      · exact ⟨_, _, _, c_link_bad (Or.inr (Or.inr (Or.inl h3))), m_link_bad (Or.inr (Or.inr (Or.inl h3))), Rel.mk' I.up⟩
      · by_cases h4 : inw z 0 1 = true
        · obtain ⟨a, ha, rfl⟩ := inw_of (by omega) h1
          obtain ⟨b, hb, rfl⟩ := inw_of (by omega) h2
          by_cases h5 : tb (8 * a + b) = 0 ∨ ¬ g_ff n tb ch dd = 0
          · exact ⟨_, _, _, c_link_not hn (by omega) (by omega) h1 h2 h3 h4 h5, m_link_not hn hm2 (by omega) (by omega) h1 h2 h3 h4 (hff ▸ h5), Rel.mk' I.up⟩
          · have h5a : ¬ tb (8 * a + b) = 0 := fun q => h5 (Or.inl q)
            have h5b : g_ff n tb ch dd = 0 := Decidable.not_not.mp (fun q => h5 (Or.inr q))
            have h5c : h_ff n tb ch dd mm = 0 := hff ▸ h5b
            have hne : a ≠ b := fun q => h3 (by rw [q])
            have hlt : min a b < max a b := by omega
            have hmx : max a b < n := by omega
            have htb : ¬ tb (8 * max a b + min a b) = 0 := by
              rcases Nat.lt_or_ge a b with q | q
              · rw [Nat.max_eq_right (by omega), Nat.min_eq_left (by omega), hsym _ _ (by omega) (by omega)]; exact h5a
              · rw [Nat.max_eq_left (by omega), Nat.min_eq_right (by omega)]; exact h5a
            obtain ⟨k1, k2, k3, k4, k5, k6⟩ := lk_all hm1 h5c hlt hmx htb
            have p1 := st_link hm1 h5c hlt hmx htb
            obtain ⟨m1, m2⟩ := hm1 (min a b) (by omega)
            obtain ⟨m3, m4⟩ := hm1 (max a b) hmx
            have q1 : mm (min a b) &&& nbn (mm (max a b)) < 2 ^ 31 := by have : mm (min a b) &&& nbn (mm (max a b)) ≤ mm (min a b) := Nat.and_le_left; omega
            have q2 : mm (max a b) &&& nbn (2 ^ lkf mm (min a b) (max a b)) < 2 ^ 31 := by have : mm (max a b) &&& nbn (2 ^ lkf mm (min a b) (max a b)) ≤ mm (max a b) := Nat.and_le_left; omega
            have f1 : h_be (ch (max a b)) &&& ch (min a b) = nI (mm (min a b) &&& nbn (mm (max a b))) := by rw [m1, m3, be_n, fa_and, Nat.and_comm]
            have f2 : h_be ((1 : Int32) <<< (nI (lowb (mm (min a b) &&& nbn (mm (max a b)))) &&& 31)) &&& ch (max a b) = nI (mm (max a b) &&& nbn (2 ^ lkf mm (min a b) (max a b))) := by
              rw [show lowb (mm (min a b) &&& nbn (mm (max a b))) = lkf mm (min a b) (max a b) from rfl, sh1_n k1, m3, be_n, fa_and, Nat.and_comm]
            have e1 : itz (ch (min a b) &&& g_nb (ch (max a b))) = nI (lkf mm (min a b) (max a b)) := by rw [m1, m3, nb_n m4, fa_and, itz_low p1 q1]; rfl
            have hC := c_link (c := c) (tn := tn) (tl := tl) (se := se) (on := on) (ro := ro) (ot := ot) (ow := ow) (tr := tr) (tu := tu) (ld := ld) (lc := lc) (cc := cc) (br := br) (bw := bw) hn (by omega) (by omega) h1 h2 h3 h4 h5a h5b
            rw [g_lk, e1, sh1_n k1, m3, nb_n (Nat.pow_lt_pow_right (by omega) k1), fa_and, itz_low k6 q2] at hC
            by_cases hz0 : z = 0
            · subst hz0
              rw [if_pos rfl] at hC
              exact ⟨_, _, _, hC, m_link hn hm2 (by omega) (by omega) h1 h2 h3 h4 h5a h5c (m_linkOf0 (by omega) (by omega) f1 p1 q1), Rel.mk' I.up⟩
            · rw [if_neg hz0] at hC
              exact ⟨_, _, _, hC, m_link hn hm2 (by omega) (by omega) h1 h2 h3 h4 h5a h5c (m_linkOf1 hz0 (by omega) (by omega) f1 p1 q1 f2 k6 q2), Rel.mk' I.up⟩
        · exact ⟨_, _, _, c_link_bad (Or.inr (Or.inr (Or.inr (inw_no h4)))), m_link_bad (Or.inr (Or.inr (Or.inr (inw_no h4)))), Rel.mk' I.up⟩
    · exact ⟨_, _, _, c_link_bad (Or.inr (Or.inl (inw_no h2))), m_link_bad (Or.inr (Or.inl (inw_no h2))), Rel.mk' I.up⟩
  · exact ⟨_, _, _, c_link_bad (Or.inl (inw_no h1)), m_link_bad (Or.inl (inw_no h1)), Rel.mk' I.up⟩
/-! reading back -/
theorem shl_0 {i : Nat} (hi : i < 32) : (0 : Int32) <<< (nI i &&& 31) = 0 := by
  apply b_ext
  intro j hj
  rw [b_shl i hi 0 hj, b_0, b_0, Bool.and_false]
theorem i_and_comm (x y : Int32) : x &&& y = y &&& x := by
  apply b_ext
  intro j _
  rw [b_and, b_and, Bool.and_comm]
theorem rb_eq {m : Nat} (hm : m < 2 ^ 20) (x : Int32) {i : Nat} (hi : i < 8) : g_mo (nI m) x (lowb m) <<< (nI i &&& 31) = if h_ri (nI m) x m = true then (1 : Int32) <<< (nI i &&& 31) else 0 := by
  obtain ⟨q, hq, e⟩ := and_nI m x
  have e2 : x &&& nI m = nI q := by rw [i_and_comm, e]
  have hb := bc1_le m 20
  have hb2 := bc1_le q 20
  rw [g_mo, h_ri, e, e2, ibc_n (by omega), ibc_n hm, io_n, io_n]
  generalize bc1 q 20 = u at hb2
  generalize bc1 m 20 = v at hb
  generalize bb x (lowb m) = w
  have t1 : (nI v - nI u).toInt = (v : Int) - u := by rw [ti_sub, nI_toInt (by omega), nI_toInt (by omega)] <;> rw [nI_toInt (by omega), nI_toInt (by omega)] <;> omega
  have t2 : (2 * nI u - nI v).toInt = 2 * (u : Int) - v := by
    rw [show (2 : Int32) = nI 2 from rfl, pk_mul, ti_sub, nI_toInt (by omega), nI_toInt (by omega)]
    · omega
    · rw [nI_toInt (by omega), nI_toInt (by omega)]; omega
    · rw [nI_toInt (by omega), nI_toInt (by omega)]; omega
  by_cases h1 : 2 * u = v
  · rw [if_pos (by rw [fa_eq, t1, nI_toInt (by omega)]; omega)]
    cases w with
    | true => rw [decide_eq_true (Or.inr ⟨by rw [fa_eq, t2, ti_0]; omega, rfl⟩), if_pos rfl]; rfl
    | false =>
      rw [decide_eq_false (fun y => y.elim (fun y => by rw [fa_lt, t2, ti_0] at y; omega) (fun y => absurd y.2 (by decide))), if_neg (by decide)]
      exact shl_0 (by omega)
  · rw [if_neg (fun y => h1 (by rw [fa_eq, t1, nI_toInt (by omega)] at y; omega))]
    by_cases h2 : 2 * u < v
    · rw [if_pos (by rw [fa_le, t1, nI_toInt (by omega)]; omega), decide_eq_false (fun y => y.elim (fun y => by rw [fa_lt, t2, ti_0] at y; omega) (fun y => by have := y.1; rw [fa_eq, t2, ti_0] at this; omega)), if_neg (by decide)]
      exact shl_0 (by omega)
    · rw [if_neg (fun y => by rw [fa_le, t1, nI_toInt (by omega)] at y; omega), decide_eq_true (Or.inl (by rw [fa_lt, t2, ti_0]; omega)), if_pos rfl]
theorem b_readBack {k : Nat} {wc wm : ix_W} (R : Rel k wc wm) (x : Int32) : Both k m_X4_readBack m_X5_readBack [.inl x] wc wm := by
  obtain ⟨n, c, tb, tl, se, on, dd, ch, tn, ro, ot, ow, tr, tu, ld, lc, cc, br, bw, fs, fo, cm, ce, li, ke, be, rfl, rfl, I⟩ := R
  have hn := I.1.2.1
  obtain ⟨mm, hm, hz⟩ := I.2.2.2.2.2.2.2
  have hm1 : ∀ i, i < n → ch i = nI (mm i) ∧ mm i < 2 ^ 20 := fun i hi => hm i (by omega)
  have hm2 : ∀ i, i < n → ch i = nI (mm i) ∧ mm i < 2 ^ 31 := fun i hi => ⟨(hm1 i hi).1, by have := (hm1 i hi).2; omega⟩
  have hff := ff_eq hn tb dd hm hz
  have hall := all_eq hn (ch := ch) (fun i h1 h2 => by rw [(hm i h2).1, hz i h1 h2]; rfl)
  by_cases h : x &&& (fd (g_all ch) 0 n ^^^ (-1)) = 0
  · have h' : x &&& (fd (g_all ch) 0 8 ^^^ (-1)) = 0 := by rw [hall]; exact h
    by_cases h2 : g_ff n tb ch dd = 0
    · have h2c : h_ff n tb ch dd mm = 0 := hff ▸ h2
      have hpos := st_pos hm1 h2c
      refine ⟨_, _, _, c_readBack hn h' h2 (l0 := fun i => lowb (mm i)) (fun i hi => by rw [(hm1 i hi).1, itz_low (hpos i hi) (hm2 i hi).2]), Cl.eq (m_readBack hn hm2 hpos h h2c) rfl ?_, Rel.mk' I.up⟩
      congr 2
      apply fd_congr
      intro i a hi
      rw [g_rb, h_rb, (hm1 i hi).1, rb_eq (hm1 i hi).2 x (by omega)]
    · exact ⟨_, _, _, c_readBack_not hn h' h2, m_readBack_not hn hm2 h (hff ▸ h2), Rel.mk' I.up⟩
  · exact ⟨_, _, _, c_readBack_bad (by rw [hall]; exact h), m_readBack_bad hn h, Rel.mk' I.up⟩
end
section
/-! Gray's order, and cells listed -/
def gray (t : Nat) : Nat := t ^^^ (t / 2)
theorem gray_bit (t j : Nat) : (gray t).testBit j = (t.testBit j ^^ t.testBit (j + 1)) := by
  rw [gray, Nat.testBit_xor, Nat.testBit_succ]
theorem gray_lt {t N : Nat} (h : t < 2 ^ N) : gray t < 2 ^ N := Nat.xor_lt_two_pow h (by omega)
theorem gray_step {t : Nat} (ht : t + 1 < 2 ^ 31) : gray (t + 1) = gray t ^^^ 2 ^ lowb (t + 1) := by
  obtain ⟨hk, q, hq⟩ := low_dec (by omega : 0 < t + 1) ht
  generalize lowb (t + 1) = k at hk hq
  have hp : 0 < 2 ^ k := Nat.two_pow_pos k
  have e2 : t = 2 ^ k * (2 * q) + (2 ^ k - 1) := by
    have : t + 1 = 2 ^ k * (2 * q) + 2 ^ k := by rw [hq, Nat.mul_add]; omega
    omega
  have b1 : ∀ j, (t + 1).testBit j = if j < k then false else (2 * q + 1).testBit (j - k) := fun j => by
    rw [show t + 1 = 2 ^ k * (2 * q + 1) + 0 by omega, Nat.testBit_two_pow_mul_add (2 * q + 1) hp, Nat.zero_testBit]
  have b2 : ∀ j, t.testBit j = if j < k then true else (2 * q).testBit (j - k) := fun j => by
    conv => lhs; rw [e2]
    rw [Nat.testBit_two_pow_mul_add (2 * q) (by omega : 2 ^ k - 1 < 2 ^ k)]
    by_cases h : j < k
    · rw [if_pos h, if_pos h]; simp [h]
    · rw [if_neg h, if_neg h]
  have b3 : ∀ i, (2 * q + 1).testBit (i + 1) = q.testBit i := fun i => by rw [Nat.testBit_succ, show (2 * q + 1) / 2 = q by omega]
  have b4 : ∀ i, (2 * q).testBit (i + 1) = q.testBit i := fun i => by rw [Nat.testBit_succ, show (2 * q) / 2 = q by omega]
  have b5 : (2 * q + 1).testBit 0 = true := by simp
  have b6 : (2 * q).testBit 0 = false := by simp
  apply Nat.eq_of_testBit_eq
  intro j
  rw [xor_bits, gray_bit, gray_bit, b1, b1, b2, b2]
  rcases Nat.lt_trichotomy j k with h | h | h
  · rw [if_pos h, if_pos h, decide_eq_false (by omega)]
    by_cases h2 : j + 1 < k
    · rw [if_pos h2, if_pos h2]; rfl
    · rw [if_neg h2, if_neg h2, show j + 1 - k = 0 by omega, b5, b6]; rfl
  · subst h
    rw [if_neg (by omega), if_neg (by omega), if_neg (by omega), if_neg (by omega), show j - j = 0 by omega, show j + 1 - j = 0 + 1 by omega, b5, b6, b3, b4, decide_eq_true rfl]
    cases q.testBit 0 <;> rfl
  · rw [if_neg (by omega), if_neg (by omega), if_neg (by omega), if_neg (by omega), show j - k = (j - k - 1) + 1 by omega, show j + 1 - k = (j - k) + 1 by omega, b3, b4, b3, b4, decide_eq_false (by omega), Bool.xor_false]
theorem gray_onto : ∀ {N s : Nat}, s < 2 ^ N → ∃ t, t < 2 ^ N ∧ gray t = s
  | 0, s, h => ⟨0, by omega, by rw [Nat.pow_zero] at h; have : s = 0 := by omega
                                subst this; rfl⟩
  | N + 1, s, h => by
    rw [Nat.pow_succ] at h
    obtain ⟨t, ht, e⟩ := gray_onto (N := N) (s := s / 2) (by omega)
    have hx : ∃ a, a < 2 ∧ (s % 2 = (a + t % 2) % 2) := ⟨(s % 2 + t % 2) % 2, by omega, by omega⟩
    obtain ⟨a, ha, hs⟩ := hx
    refine ⟨2 * t + a, by rw [Nat.pow_succ]; omega, ?_⟩
    apply Nat.eq_of_testBit_eq
    intro j
    rw [gray_bit, Nat.testBit_succ, show (2 * t + a) / 2 = t by omega]
    cases j with
    | zero =>
      rw [Nat.testBit_zero, Nat.testBit_zero, Nat.testBit_zero]
      rcases Nat.mod_two_eq_zero_or_one s with z1 | z1 <;> rcases Nat.mod_two_eq_zero_or_one t with z2 | z2 <;> rcases (by omega : a = 0 ∨ a = 1) with z3 | z3 <;> subst z3 <;> rw [z1, z2] at hs <;> first | (exfalso; omega) | (rw [z1, z2]; simp <;> omega)
    | succ j =>
      rw [Nat.testBit_succ, show (2 * t + a) / 2 = t by omega, ← gray_bit, e, Nat.testBit_succ]
theorem mx_in {f : Nat → Nat} : ∀ {n i : Nat}, i < n → f i ≤ mx f n
  | n + 1, i, h => by
    rw [mx]
    by_cases e : i = n
    · subst e; exact Nat.le_max_right _ _
    · exact Nat.le_trans (mx_in (n := n) (by omega)) (Nat.le_max_left _ _)
theorem mx_gray (f : Nat → Nat) (N : Nat) : mx (fun t => f (gray t)) (2 ^ N) = mx f (2 ^ N) := by
  apply Nat.le_antisymm
  · exact mx_le (fun i hi => mx_in (gray_lt hi))
  · refine mx_le (fun i hi => ?_)
    obtain ⟨t, ht, e⟩ := gray_onto hi
    rw [← e]
    exact mx_in (f := fun t => f (gray t)) ht
/-! cells listed in order -/
theorem bc1_s (A N : Nat) : bc1 A (N + 1) = bc1 A N + (if A.testBit N = true then 1 else 0) := fb_ct_succ _ _
theorem lc_h (A : Nat) (f : Nat → Int32) : ∀ {j : Nat}, j ≤ 20 → (fd (h_lc (nI A)) (f, 0) j).2 = bc1 A j ∧ ∀ k, k < bc1 A j → ∃ i, i < j ∧ A.testBit i = true ∧ bc1 A i = k ∧ (fd (h_lc (nI A)) (f, 0) j).1 k = nI i
  | 0, _ => ⟨rfl, fun k hk => absurd hk (Nat.not_lt_zero k)⟩
  | j + 1, hj => by
    obtain ⟨h1, h2⟩ := lc_h A f (j := j) (by omega)
    rw [fd, h_lc, bb_nI (by omega), bc1_s]
    cases e : A.testBit j with
    | true =>
      rw [if_pos rfl, if_pos rfl]
      refine ⟨by dsimp only; rw [h1], fun k hk => ?_⟩
      dsimp only
      rw [h1]
      by_cases z : k = bc1 A j
      · subst z
        exact ⟨j, by omega, e, rfl, pk_us⟩
      · obtain ⟨i, i1, i2, i3, i4⟩ := h2 k (by omega)
        exact ⟨i, by omega, i2, i3, by rw [pk_un z]; exact i4⟩
    | false =>
      rw [if_neg (by decide), if_neg (by decide)]
      refine ⟨h1, fun k hk => ?_⟩
      obtain ⟨i, i1, i2, i3, i4⟩ := h2 k hk
      exact ⟨i, by omega, i2, i3, i4⟩
theorem lc_g (A : Nat) (f : Nat → Int32) (hA : bc1 A 20 ≤ 14) : ∀ {j : Nat}, j ≤ 20 → (fd (g_lc (nI A)) (f, 0) j).2 = bc1 A j ∧ ∀ k, k < bc1 A j → ∃ i, i < j ∧ A.testBit i = true ∧ bc1 A i = k ∧ (fd (g_lc (nI A)) (f, 0) j).1 k = nI i
  | 0, _ => ⟨rfl, fun k hk => absurd hk (Nat.not_lt_zero k)⟩
  | j + 1, hj => by
    obtain ⟨h1, h2⟩ := lc_g A f hA (j := j) (by omega)
    have hmono : bc1 A (j + 1) ≤ bc1 A 20 := fb_ct_mono _ hj
    rw [fd, g_lc, bb_nI (by omega), bc1_s]
    rw [bc1_s] at hmono
    cases e : A.testBit j with
    | true =>
      rw [e, if_pos rfl] at hmono
      rw [if_pos ⟨rfl, by rw [h1]; omega⟩, if_pos rfl]
      refine ⟨by dsimp only; rw [h1], fun k hk => ?_⟩
      dsimp only
      rw [h1]
      by_cases z : k = bc1 A j
      · subst z
        exact ⟨j, by omega, e, rfl, pk_us⟩
      · obtain ⟨i, i1, i2, i3, i4⟩ := h2 k (by omega)
        exact ⟨i, by omega, i2, i3, by rw [pk_un z]; exact i4⟩
    | false =>
      rw [if_neg (fun y => absurd y.1 (by decide)), if_neg (by decide)]
      refine ⟨h1, fun k hk => ?_⟩
      obtain ⟨i, i1, i2, i3, i4⟩ := h2 k hk
      exact ⟨i, by omega, i2, i3, i4⟩
/-- the place of the k-th cell -/
def kth (A k : Nat) : Nat := fa_first (fun i => A.testBit i && decide (bc1 A i = k)) 20
theorem kth_of {A i k : Nat} (hi : i < 20) (h1 : A.testBit i = true) (h2 : bc1 A i = k) : kth A k = i := by
  have hp : (fun i => A.testBit i && decide (bc1 A i = k)) i = true := by
    show (A.testBit i && decide (bc1 A i = k)) = true
    rw [h1, decide_eq_true h2]; rfl
  have hl : kth A k ≤ i := by
    rcases Nat.lt_or_ge i (kth A k) with z | z
    · have := fa_first_no _ 20 i z
      exact absurd (hp.symm.trans this) (by decide)
    · exact z
  have hy := fa_first_yes (fun i => A.testBit i && decide (bc1 A i = k)) 20 (Nat.lt_of_le_of_lt hl hi)
  have hy2 : (A.testBit (kth A k) && decide (bc1 A (kth A k) = k)) = true := hy
  rw [Bool.and_eq_true] at hy2
  exact fb_ct_kth_one (p := fun i => A.testBit i) hy2.1 h1 (by have := of_decide_eq_true hy2.2; exact this.trans h2.symm)
theorem kth_all {A k : Nat} (hk : k < bc1 A 20) : kth A k < 20 ∧ A.testBit (kth A k) = true ∧ bc1 A (kth A k) = k := by
  obtain ⟨i, h1, h2, h3⟩ := fb_ct_kth (p := fun i => A.testBit i) hk
  have := kth_of h1 h2 h3
  rw [this]
  exact ⟨h1, h2, h3⟩
/-- a state of the cells, spread over the grid -/
def xs (A : Nat) (s k a : Nat) : Nat := if s.testBit k = true then a ||| 2 ^ kth A k else a
def X (A s : Nat) : Nat := fd (xs A s) 0 (bc1 A 20)
theorem X_bit (A s : Nat) : ∀ {N : Nat}, N ≤ bc1 A 20 → ∀ j, (fd (xs A s) 0 N).testBit j = true ↔ ∃ k, k < N ∧ s.testBit k = true ∧ kth A k = j
  | 0, _, j => ⟨fun h => by rw [fd, Nat.zero_testBit] at h; exact absurd h (by decide), fun ⟨_, h, _⟩ => absurd h (by omega)⟩
  | N + 1, hN, j => by
    have ih := X_bit A s (N := N) (by omega) j
    rw [fd, xs]
    cases e : s.testBit N with
    | true =>
      rw [if_pos rfl, Nat.testBit_or, Bool.or_eq_true, ih, Nat.testBit_two_pow, decide_eq_true_iff]
      constructor
      · rintro (⟨k, h1, h2, h3⟩ | h)
        · exact ⟨k, by omega, h2, h3⟩
        · exact ⟨N, by omega, e, h⟩
      · rintro ⟨k, h1, h2, h3⟩
        by_cases z : k = N
        · subst z; exact Or.inr h3
        · exact Or.inl ⟨k, by omega, h2, h3⟩
    | false =>
      rw [if_neg (by decide), ih]
      constructor
      · rintro ⟨k, h1, h2, h3⟩; exact ⟨k, by omega, h2, h3⟩
      · rintro ⟨k, h1, h2, h3⟩
        refine ⟨k, ?_, h2, h3⟩
        rcases Nat.lt_or_ge k N with z | z
        · exact z
        · have : k = N := by omega
          subst this; rw [e] at h2; exact absurd h2 (by decide)
theorem X_b {A : Nat} (hA : A < 2 ^ 20) (s j : Nat) : (X A s).testBit j = (A.testBit j && s.testBit (bc1 A j)) := by
  rw [Bool.eq_iff_iff, Bool.and_eq_true, X, X_bit A s (Nat.le_refl _)]
  constructor
  · rintro ⟨k, h1, h2, h3⟩
    obtain ⟨k1, k2, k3⟩ := kth_all h1
    rw [← h3, k3]
    exact ⟨k2, h2⟩
  · rintro ⟨h1, h2⟩
    have hj := lt_bit hA h1
    refine ⟨bc1 A j, ?_, h2, kth_of hj h1 rfl⟩
    have : bc1 A (j + 1) ≤ bc1 A 20 := fb_ct_mono _ hj
    rw [bc1_s, h1, if_pos rfl] at this
    omega
theorem X_lt {A : Nat} (hA : A < 2 ^ 20) (s : Nat) : X A s < 2 ^ 20 := by
  apply Nat.lt_pow_two_of_testBit
  intro j hj
  rw [X_b hA]
  cases e : A.testBit j with
  | false => rfl
  | true => have := lt_bit hA e; omega
theorem X_flip {A : Nat} (hA : A < 2 ^ 20) (s : Nat) {k : Nat} (hk : k < bc1 A 20) : X A (s ^^^ 2 ^ k) = X A s ^^^ 2 ^ kth A k := by
  apply Nat.eq_of_testBit_eq
  intro j
  obtain ⟨k1, k2, k3⟩ := kth_all hk
  rw [X_b hA, xor_bits, xor_bits, X_b hA]
  cases e : A.testBit j with
  | false =>
    rw [Bool.false_and, Bool.false_and, decide_eq_false (fun z => by rw [← z, k2] at e; exact absurd e (by decide))]
    rfl
  | true =>
    rw [Bool.true_and, Bool.true_and, decide_eq_decide.mpr (show k = bc1 A j ↔ kth A k = j from ⟨fun z => kth_of (lt_bit hA e) e z.symm, fun z => by rw [← z, k3]⟩)]
theorem sx_n (A : Nat) {ce : Nat → Int32} (hc : ∀ k, k < bc1 A 20 → ce k = nI (kth A k)) (s : Nat) : h_sx ce (bc1 A 20) s = nI (X A s) := by
  rw [h_sx, X]
  have : ∀ N, N ≤ bc1 A 20 → fd (h_sp ce (nI s)) 0 N = nI (fd (xs A s) 0 N) := by
    intro N
    induction N with
    | zero => intro _; rfl
    | succ N ih =>
      intro hN
      have hb := bc1_le A 20
      rw [fd, fd, ih (by omega), h_sp, xs, hc N (by omega), bb_nI (by omega)]
      obtain ⟨k1, -, -⟩ := kth_all (A := A) (k := N) (by omega)
      cases s.testBit N with
      | true => rw [if_pos rfl, bz_t rfl, sh1_n k1, fa_or]
      | false => rw [if_neg (by decide), bz_f rfl, shl_0 (by omega), show (0 : Int32) = nI 0 from rfl, fa_or, Nat.or_zero]
  exact this _ (Nat.le_refl _)
end
section
/-! chains that stand have no cell in common -/
theorem bc_or (a b N : Nat) : bc1 (a ||| b) N + bc1 (a &&& b) N = bc1 a N + bc1 b N := by
  induction N with
  | zero => rfl
  | succ N ih =>
    rw [bc1_s, bc1_s, bc1_s, bc1_s, Nat.testBit_or, Nat.testBit_and]
    cases a.testBit N <;> cases b.testBit N <;> simp <;> omega
def orn (mm : Nat → Nat) : Nat → Nat
  | 0 => 0
  | n + 1 => orn mm n ||| mm n
def smn (f : Nat → Nat) : Nat → Nat
  | 0 => 0
  | n + 1 => smn f n + f n
theorem orn_bit (mm : Nat → Nat) (j : Nat) : ∀ n, (orn mm n).testBit j = true ↔ ∃ i, i < n ∧ (mm i).testBit j = true
  | 0 => ⟨fun h => by rw [orn, Nat.zero_testBit] at h; exact absurd h (by decide), fun ⟨_, h, _⟩ => absurd h (by omega)⟩
  | n + 1 => by
    rw [orn, Nat.testBit_or, Bool.or_eq_true, orn_bit mm j n]
    constructor
    · rintro (⟨i, i1, i2⟩ | i1)
      · exact ⟨i, by omega, i2⟩
      · exact ⟨n, by omega, i1⟩
    · rintro ⟨i, i1, i2⟩
      by_cases e : i = n
      · subst e; exact Or.inr i2
      · exact Or.inl ⟨i, by omega, i2⟩
theorem orn_lt {mm : Nat → Nat} : ∀ {n : Nat}, (∀ i, i < n → mm i < 2 ^ 20) → orn mm n < 2 ^ 20
  | 0, _ => Nat.two_pow_pos 20
  | n + 1, h => Nat.or_lt_two_pow (orn_lt (fun i hi => h i (by omega))) (h n (by omega))
theorem all_orn {ch : Nat → Int32} {mm : Nat → Nat} : ∀ {n : Nat}, (∀ i, i < n → ch i = nI (mm i)) → fd (g_all ch) 0 n = nI (orn mm n)
  | 0, _ => rfl
  | n + 1, h => by rw [fd, all_orn (n := n) (fun i hi => h i (by omega)), g_all, h n (by omega), fa_or]; rfl
theorem tog_smn {ch : Nat → Int32} {mm : Nat → Nat} : ∀ {n : Nat}, (∀ i, i < n → ch i = nI (mm i)) → fd (h_tog ch) 0 n = nI (smn (fun i => bc1 (mm i) 20) n)
  | 0, _ => rfl
  | n + 1, h => by rw [fd, tog_smn (n := n) (fun i hi => h i (by omega)), h_tog, h n (by omega), io_n, nI_add]; rfl
theorem orn_le (mm : Nat → Nat) : ∀ n, bc1 (orn mm n) 20 ≤ smn (fun i => bc1 (mm i) 20) n
  | 0 => by show bc1 0 20 ≤ 0; decide
  | n + 1 => by
    have := bc_or (orn mm n) (mm n) 20
    have := orn_le mm n
    rw [orn, smn]; omega
theorem disj {mm : Nat → Nat} : ∀ {n : Nat}, smn (fun i => bc1 (mm i) 20) n = bc1 (orn mm n) 20 → ∀ i j, i < j → j < n → ∀ q, q < 20 → (mm i).testBit q = true → (mm j).testBit q = false
  | 0, _, i, j, h1, h2, _, _, _ => absurd h2 (by omega)
  | n + 1, h, i, j, h1, h2, q, hq, hi => by
    have e1 := bc_or (orn mm n) (mm n) 20
    have e2 := orn_le mm n
    rw [orn, smn] at h
    by_cases e : j = n
    · subst e
      have e3 : bc1 (orn mm j &&& mm j) 20 = 0 := by omega
      have := (fb_ct_zero.mp e3) q hq
      rw [Nat.testBit_and, (orn_bit mm q j).mpr ⟨i, h1, hi⟩, Bool.true_and] at this
      exact this
    · exact disj (n := n) (by omega) i j h1 (by omega) q hq hi
theorem smn_le (f : Nat → Nat) {B : Nat} (h : ∀ i, f i ≤ B) : ∀ n, smn f n ≤ n * B
  | 0 => Nat.zero_le _
  | n + 1 => by
    have := smn_le f h n
    have := h n
    rw [smn, Nat.add_mul]; omega
theorem st_disj {n : Nat} (hn : n ≤ 8) {tb ch : Nat → Int32} {dd : Int32} {mm : Nat → Nat} (hm : ∀ i, i < n → ch i = nI (mm i) ∧ mm i < 2 ^ 20) (h : h_ff n tb ch dd mm = 0) : (∀ i j, i < n → j < n → i ≠ j → ∀ q, (mm i).testBit q = true → (mm j).testBit q = false) ∧ bc1 (orn mm n) 20 ≤ 14 := by
  obtain ⟨-, h3, -, h6⟩ := ff_0 h
  have hl := smn_le (fun i => bc1 (mm i) 20) (fun i => bc1_le (mm i) 20) n
  have hb := bc1_le (orn mm n) 20
  rw [tog_smn (fun i hi => (hm i hi).1), all_orn (fun i hi => (hm i hi).1), io_n, nI_eq (by omega) (by omega)] at h3
  rw [tog_smn (fun i hi => (hm i hi).1), show (14 : Int32) = nI 14 from rfl, nI_leI (by omega) (by omega)] at h6
  have d := disj h3
  refine ⟨fun i j hi hj hne q hq => ?_, by omega⟩
  have hq20 := lt_bit (hm i hi).2 hq
  rcases Nat.lt_or_ge i j with z | z
  · exact d i j z hj q hq20 hq
  · cases e : (mm j).testBit q with
    | false => rfl
    | true =>
      have := d j i (by omega) hi q hq20 e
      rw [hq] at this
      exact absurd this (by decide)
/-! unlike neighbours -/
def yz (Y Z : Nat) (c d : Nat) : Nat := if Y.testBit c = true ∧ Z.testBit d = true then 1 else 0
def kk (F : Nat → Nat → Nat) (c : Nat) : Nat := (((if 5 ≤ c then F c (c - 5) else 0) + (if c < 15 then F c (c + 5) else 0)) + (if c % 5 = 0 then 0 else F c (c - 1))) + (if c % 5 = 4 then 0 else F c (c + 1))
def rr (F : Nat → Nat → Nat) (q : Nat) : Nat := if q % 5 = 4 then 0 else F q (q + 1) + F (q + 1) q
def ww (F : Nat → Nat → Nat) (q : Nat) : Nat := if q < 15 then F q (q + 5) + F (q + 5) q else 0
theorem edges (F : Nat → Nat → Nat) : smn (kk F) 20 = smn (rr F) 20 + smn (ww F) 20 := by
  simp [smn, kk, rr, ww]
  omega
theorem adj_cnt : ∀ c, c < 20 → ∀ d, d < 20 → (adjm c).testBit d = (((decide (5 ≤ c) && decide (d = c - 5)) || (decide (c < 15) && decide (d = c + 5))) || ((!decide (c % 5 = 0)) && decide (d = c - 1))) || ((!decide (c % 5 = 4)) && decide (d = c + 1)) := by decide +kernel
theorem bc_single {Z e : Nat} (he : e < 20) : bc1 (2 ^ e &&& Z) 20 = if Z.testBit e = true then 1 else 0 := by
  have : ∀ N, bc1 (2 ^ e &&& Z) N = if e < N ∧ Z.testBit e = true then 1 else 0 := by
    intro N
    induction N with
    | zero => rw [if_neg (by omega)]; rfl
    | succ N ih =>
      rw [bc1_s, ih, Nat.testBit_and, Nat.testBit_two_pow]
      by_cases h : e = N
      · subst h
        rw [if_neg (by omega), decide_eq_true rfl, Bool.true_and]
        cases Z.testBit e <;> simp
      · rw [decide_eq_false h, Bool.false_and, if_neg (show ¬ (false = true) by decide), Nat.add_zero]
        by_cases h2 : e < N ∧ Z.testBit e = true
        · rw [if_pos h2, if_pos ⟨by omega, h2.2⟩]
        · rw [if_neg h2, if_neg (fun y => h2 ⟨by omega, y.2⟩)]
  rw [this]
  cases Z.testBit e <;> simp [he]
theorem bc_zero (N : Nat) : bc1 0 N = 0 := by
  induction N with
  | zero => rfl
  | succ N ih => rw [bc1_s, ih, Nat.zero_testBit]; rfl
theorem bc_two {a b Z : Nat} (h : a &&& b = 0) : bc1 ((a ||| b) &&& Z) 20 = bc1 (a &&& Z) 20 + bc1 (b &&& Z) 20 := by
  have := bc_or (a &&& Z) (b &&& Z) 20
  have e : (a &&& Z) &&& (b &&& Z) = 0 := by
    apply Nat.eq_of_testBit_eq
    intro j
    have : (a &&& b).testBit j = false := by rw [h, Nat.zero_testBit]
    rw [Nat.testBit_and] at this
    rw [Nat.testBit_and, Nat.testBit_and, Nat.testBit_and, Nat.zero_testBit]
    revert this
    cases a.testBit j <;> cases b.testBit j <;> simp
  rw [e, bc_zero] at this
  rw [← this, Nat.add_zero]
  congr 1
  exact Nat.and_or_distrib_right ..
theorem adj_parts : ∀ c, c < 20 → ((if 5 ≤ c then 2 ^ (c - 5) else 0) &&& (if c < 15 then 2 ^ (c + 5) else 0) = 0) ∧ (((if 5 ≤ c then 2 ^ (c - 5) else 0) ||| (if c < 15 then 2 ^ (c + 5) else 0)) &&& (if c % 5 = 0 then 0 else 2 ^ (c - 1)) = 0) ∧ ((((if 5 ≤ c then 2 ^ (c - 5) else 0) ||| (if c < 15 then 2 ^ (c + 5) else 0)) ||| (if c % 5 = 0 then 0 else 2 ^ (c - 1))) &&& (if c % 5 = 4 then 0 else 2 ^ (c + 1)) = 0) := by decide +kernel
theorem adj_sum {Z c : Nat} (hc : c < 20) : bc1 (adjm c &&& Z) 20 = (((if 5 ≤ c then (if Z.testBit (c - 5) = true then 1 else 0) else 0) + (if c < 15 then (if Z.testBit (c + 5) = true then 1 else 0) else 0)) + (if c % 5 = 0 then 0 else (if Z.testBit (c - 1) = true then 1 else 0))) + (if c % 5 = 4 then 0 else (if Z.testBit (c + 1) = true then 1 else 0)) := by
  obtain ⟨p1, p2, p3⟩ := adj_parts c hc
  rw [adjm, bc_two p3, bc_two p2, bc_two p1]
  congr 1
  · congr 1
    · congr 1
      · split
        · exact bc_single (by omega)
        · rw [Nat.zero_and, bc_zero]
      · split
        · exact bc_single (by omega)
        · rw [Nat.zero_and, bc_zero]
    · split
      · rw [Nat.zero_and, bc_zero]
      · exact bc_single (by omega)
  · split
    · rw [Nat.zero_and, bc_zero]
    · exact bc_single (by omega)
theorem kk_adj (Y Z : Nat) {c : Nat} (hc : c < 20) : kk (yz Y Z) c = if Y.testBit c = true then bc1 (adjm c &&& Z) 20 else 0 := by
  rw [kk, adj_sum hc]
  simp only [yz]
  cases Y.testBit c with
  | true => simp
  | false => simp
theorem nbn_one {c : Nat} (hc : c < 20) : nbn (2 ^ c) = adjm c := by
  have h1 := nb_n (m := 2 ^ c) (Nat.pow_lt_pow_right (by omega) hc)
  have h2 := adj_tab c hc
  rw [h2.1] at h1
  have h3 := nbn_lt (2 ^ c)
  exact ((nI_eq (by omega) (by omega)).mp h1).symm
theorem smn_congr {f g : Nat → Nat} : ∀ {n : Nat}, (∀ i, i < n → f i = g i) → smn f n = smn g n
  | 0, _ => rfl
  | n + 1, h => by rw [smn, smn, smn_congr (fun i hi => h i (by omega)), h n (by omega)]
theorem smn_zero {f : Nat → Nat} : ∀ {n : Nat}, (∀ i, i < n → f i = 0) → smn f n = 0
  | 0, _ => rfl
  | n + 1, h => by rw [smn, smn_zero (fun i hi => h i (by omega)), h n (by omega)]
theorem smn_add (f g : Nat → Nat) : ∀ n, smn (fun i => f i + g i) n = smn f n + smn g n
  | 0 => rfl
  | n + 1 => by rw [smn, smn, smn, smn_add f g n]; omega
/-- what is in m and not in x -/
def sans (m x : Nat) : Nat := m ^^^ (m &&& x)
theorem sans_b (m x j : Nat) : (sans m x).testBit j = (m.testBit j && !x.testBit j) := by
  rw [sans, Nat.testBit_xor, Nat.testBit_and]
  cases m.testBit j <;> cases x.testBit j <;> rfl
theorem sans_i (m x : Nat) : nI m &&& (nI x ^^^ (-1)) = nI (sans m x) := by
  apply b_ext
  intro j hj
  rw [b_and, b_xor, b_m1 j hj, bt_nI _ j hj, bt_nI _ j hj, bt_nI _ j hj, sans_b, Bool.xor_true]
theorem ui_n (Y Z a : Nat) : ∀ {N : Nat}, N ≤ 20 → fd (h_ui (nI Y) (nI Z)) (nI a) N = nI (a + smn (kk (yz Y Z)) N)
  | 0, _ => rfl
  | N + 1, hN => by
    rw [fd, ui_n Y Z a (N := N) (by omega), h_ui, bb_nI (by omega), smn, kk_adj Y Z (by omega)]
    cases Y.testBit N with
    | true => rw [if_pos rfl, if_pos rfl, sh1_n (by omega), be_n, fa_and, io_n, nI_add, nbn_one (by omega), Nat.add_assoc]
    | false => rw [if_neg (by decide), if_neg (by decide), Int32.add_zero, Nat.add_zero]
def ucc (x m : Nat) : Nat := smn (kk (yz (x &&& m) (sans m x))) 20
theorem ur_n {ch : Nat → Int32} {mm : Nat → Nat} (x : Nat) : ∀ {n : Nat}, (∀ i, i < n → ch i = nI (mm i) ∧ mm i < 2 ^ 20) → fd (h_ur ch (nI x)) 0 n = nI (smn (fun i => ucc x (mm i)) n)
  | 0, _ => rfl
  | n + 1, h => by
    have ih := ur_n (ch := ch) (mm := mm) x (n := n) (fun i hi => h i (by omega))
    obtain ⟨e, hl⟩ := h n (by omega)
    have l1 : x &&& mm n < 2 ^ 20 := Nat.lt_of_le_of_lt Nat.and_le_right hl
    have l2 : sans (mm n) x < 2 ^ 20 := Nat.xor_lt_two_pow hl (Nat.lt_of_le_of_lt Nat.and_le_left hl)
    rw [fd, ih, h_ur, e, fa_and, sans_i, ui_n _ _ _ (Nat.le_refl 20), show smn (fun i => ucc x (mm i)) (n + 1) = smn (fun i => ucc x (mm i)) n + ucc x (mm n) from rfl]
    split
    · rename_i hz
      rw [nI_z (by omega), nI_z (by omega)] at hz
      have : ucc x (mm n) = 0 := smn_zero (fun c hc => by
        rw [kk_adj _ _ hc]
        rcases hz with hz | hz
        · rw [hz, Nat.zero_testBit, if_neg (by decide)]
        · rw [hz, Nat.and_zero, bc_zero]
          split <;> rfl)
      rw [this, Nat.add_zero]
    · rfl
def r1 (m : Nat) : Nat := (m &&& (m / 2 ^ 1)) &&& 4294426095
def b1 (m : Nat) : Nat := m &&& (m / 2 ^ 5)
theorem mask_b : ∀ q, q < 20 → Nat.testBit 4294426095 q = !decide (q % 5 = 4) := by decide +kernel
theorem r1_le (m : Nat) : r1 m ≤ m := Nat.le_trans Nat.and_le_left Nat.and_le_left
theorem b1_le (m : Nat) : b1 m ≤ m := Nat.and_le_left
theorem r1_b (m : Nat) {q : Nat} (hq : q < 20) : (r1 m).testBit q = (m.testBit q && m.testBit (q + 1) && !decide (q % 5 = 4)) := by
  rw [r1, Nat.testBit_and, Nat.testBit_and, mask_b q hq, Nat.testBit_div_two_pow]
theorem b1_b (m q : Nat) : (b1 m).testBit q = (m.testBit q && m.testBit (q + 5)) := by
  rw [b1, Nat.testBit_and, Nat.testBit_div_two_pow]
theorem s_s1 : ((nI 1 &&& 31 : Int32).toBitVec.smod 32).toNat = 1 := by decide
theorem s_s5 : ((nI 5 &&& 31 : Int32).toBitVec.smod 32).toNat = 5 := by decide
theorem shr1 {m : Nat} (hm : m < 2 ^ 31) : nI m >>> ((1 : Int32) &&& 31) = nI (m / 2 ^ 1) := pk_shrN hm _ 1 s_s1
theorem shr5 {m : Nat} (hm : m < 2 ^ 31) : nI m >>> ((5 : Int32) &&& 31) = nI (m / 2 ^ 5) := pk_shrN hm _ 5 s_s5
theorem bri_n {ch : Nat → Int32} {mm : Nat → Nat} : ∀ {n : Nat}, (∀ i, i < n → ch i = nI (mm i) ∧ mm i < 2 ^ 20) → fd (g_bri ch) 0 n = nI (orn (fun i => r1 (mm i)) n)
  | 0, _ => rfl
  | n + 1, h => by
    obtain ⟨e, hl⟩ := h n (by omega)
    rw [fd, bri_n (n := n) (fun i hi => h i (by omega)), g_bri, e, shr1 (by omega), fa_and, show (-541201 : Int32) = nI 4294426095 by decide, fa_and, fa_or]
    rfl
theorem bbe_n {ch : Nat → Int32} {mm : Nat → Nat} : ∀ {n : Nat}, (∀ i, i < n → ch i = nI (mm i) ∧ mm i < 2 ^ 20) → fd (g_bbe ch) 0 n = nI (orn (fun i => b1 (mm i)) n)
  | 0, _ => rfl
  | n + 1, h => by
    obtain ⟨e, hl⟩ := h n (by omega)
    rw [fd, bbe_n (n := n) (fun i hi => h i (by omega)), g_bbe, e, shr5 (by omega), fa_and, fa_or]
    rfl
theorem orn_tail {f : Nat → Nat} {n : Nat} (hz : ∀ i, n ≤ i → i < 8 → f i = 0) (hn : n ≤ 8) : orn f 8 = orn f n := by
  obtain ⟨d, hd⟩ := Nat.exists_eq_add_of_le hn
  rw [hd]
  have : ∀ e, e ≤ d → orn f (n + e) = orn f n := by
    intro e
    induction e with
    | zero => intro _; rfl
    | succ e ih => intro he; rw [show n + (e + 1) = (n + e) + 1 by omega, orn, ih (by omega), hz _ (by omega) (by omega), Nat.or_zero]
  exact this d (Nat.le_refl _)
theorem bc_orn (D : Nat) {r : Nat → Nat} : ∀ {n : Nat}, (∀ i j, i < j → j < n → r i &&& r j = 0) → bc1 (D &&& orn r n) 20 = smn (fun i => bc1 (D &&& r i) 20) n
  | 0, _ => by rw [orn, Nat.and_zero, bc_zero]; rfl
  | n + 1, h => by
    rw [orn, smn, ← bc_orn D (n := n) (fun i j h1 h2 => h i j h1 (by omega)), Nat.and_comm, bc_two, Nat.and_comm, Nat.and_comm (r n)]
    apply Nat.eq_of_testBit_eq
    intro q
    rw [Nat.testBit_and, Nat.zero_testBit]
    cases e : (orn r n).testBit q with
    | false => rfl
    | true =>
      obtain ⟨i, i1, i2⟩ := (orn_bit r q n).mp e
      have := h i n i1 (by omega)
      have : (r i &&& r n).testBit q = false := by rw [this, Nat.zero_testBit]
      rw [Nat.testBit_and, i2] at this
      exact this
theorem bc_smn (m : Nat) : ∀ N, bc1 m N = smn (fun q => if m.testBit q = true then 1 else 0) N
  | 0 => rfl
  | N + 1 => by rw [bc1_s, smn, bc_smn m N]
def UN (mm : Nat → Nat) (n x : Nat) : Nat := bc1 ((x ^^^ (x / 2 ^ 1)) &&& orn (fun i => r1 (mm i)) n) 20 + bc1 ((x ^^^ (x / 2 ^ 5)) &&& orn (fun i => b1 (mm i)) n) 20
theorem ucc_eq {x m : Nat} (hm : m < 2 ^ 20) : ucc x m = bc1 ((x ^^^ (x / 2 ^ 1)) &&& r1 m) 20 + bc1 ((x ^^^ (x / 2 ^ 5)) &&& b1 m) 20 := by
  rw [ucc, edges, bc_smn, bc_smn]
  congr 1
  · apply smn_congr
    intro q hq
    rw [rr, yz, yz, sans_b, sans_b, Nat.testBit_and, Nat.testBit_and, Nat.testBit_and, r1_b m hq, Nat.testBit_xor, Nat.testBit_div_two_pow]
    cases x.testBit q <;> cases x.testBit (q + 1) <;> cases m.testBit q <;> cases m.testBit (q + 1) <;> by_cases h : q % 5 = 4 <;> simp [h]
  · apply smn_congr
    intro q hq
    rw [ww, yz, yz, sans_b, sans_b, Nat.testBit_and, Nat.testBit_and, Nat.testBit_and, b1_b, Nat.testBit_xor, Nat.testBit_div_two_pow]
    by_cases h : q < 15
    · rw [if_pos h]
      cases x.testBit q <;> cases x.testBit (q + 5) <;> cases m.testBit q <;> cases m.testBit (q + 5) <;> simp
    · rw [if_neg h]
      have : m.testBit (q + 5) = false := Nat.testBit_lt_two_pow (Nat.lt_of_lt_of_le hm (Nat.pow_le_pow_right (by omega) (by omega)))
      rw [this]; simp
theorem un_h {n : Nat} {ch : Nat → Int32} {mm : Nat → Nat} (x : Nat) (hm : ∀ i, i < n → ch i = nI (mm i) ∧ mm i < 2 ^ 20) (hd : ∀ i j, i < n → j < n → i ≠ j → ∀ q, (mm i).testBit q = true → (mm j).testBit q = false) : fd (h_ur ch (nI x)) 0 n = nI (UN mm n x) := by
  have sub : ∀ (f : Nat → Nat), (∀ m q, (f m).testBit q = true → m.testBit q = true) → ∀ i j, i < j → j < n → f (mm i) &&& f (mm j) = 0 := fun f hf i j h1 h2 => by
    apply Nat.eq_of_testBit_eq
    intro q
    rw [Nat.testBit_and, Nat.zero_testBit]
    cases e : (f (mm i)).testBit q with
    | false => rfl
    | true =>
      have e2 := hd i j (by omega) h2 (by omega) q (hf _ q e)
      cases e3 : (f (mm j)).testBit q with
      | false => rfl
      | true => rw [hf _ q e3] at e2; exact absurd e2 (by decide)
  rw [ur_n x hm, UN, bc_orn _ (sub r1 (fun m q h => by rw [r1, Nat.testBit_and, Nat.testBit_and, Bool.and_eq_true, Bool.and_eq_true] at h; exact h.1.1)), bc_orn _ (sub b1 (fun m q h => by rw [b1, Nat.testBit_and, Bool.and_eq_true] at h; exact h.1)), ← smn_add, smn_congr (fun i hi => ucc_eq (hm i hi).2)]
theorem un_g {n : Nat} (hn : n ≤ 8) {ch : Nat → Int32} {mm : Nat → Nat} {x : Nat} (hx : x < 2 ^ 20) (hm : ∀ i, i < 8 → ch i = nI (mm i) ∧ mm i < 2 ^ 20) (hz : ∀ i, n ≤ i → i < 8 → mm i = 0) : g_un (fd (g_bri ch) 0 8) (fd (g_bbe ch) 0 8) (nI x) = nI (UN mm n x) := by
  have l1 : orn (fun i => r1 (mm i)) n < 2 ^ 20 := orn_lt (fun i hi => Nat.lt_of_le_of_lt (r1_le _) (hm i (by omega)).2)
  have l2 : orn (fun i => b1 (mm i)) n < 2 ^ 20 := orn_lt (fun i hi => Nat.lt_of_le_of_lt (b1_le _) (hm i (by omega)).2)
  rw [g_un, bri_n hm, bbe_n hm, orn_tail (fun i h1 h2 => by rw [hz i h1 h2]; rfl) hn, orn_tail (fun i h1 h2 => by rw [hz i h1 h2]; rfl) hn, shr1 (by omega), shr5 (by omega), fa_xor, fa_xor, fa_and, fa_and, ibc_n (Nat.lt_of_le_of_lt Nat.and_le_right l1), ibc_n (Nat.lt_of_le_of_lt Nat.and_le_right l2), nI_add, UN]
theorem UN_le (mm : Nat → Nat) (n x : Nat) : UN mm n x ≤ 40 := Nat.add_le_add (bc1_le _ 20) (bc1_le _ 20)
theorem UN_zero (mm : Nat → Nat) (n : Nat) : UN mm n 0 = 0 := by
  rw [UN, show (0 : Nat) ^^^ (0 / 2 ^ 1) = 0 by decide, Nat.zero_and, Nat.zero_and, bc_zero]
end
section
/-! energies of states laid out on the grid -/
def eo (ow : Nat → Int32) (x q : Nat) : Int32 := if x.testBit q = true then ow q else 0
def ee (tr : Nat → Int32) (d x q : Nat) : Int32 := if x.testBit q = true ∧ x.testBit (q + d) = true then tr q else 0
def EC (ow tr tu : Nat → Int32) (x : Nat) : Int32 := sm (eo ow x) 20 + (sm (ee tr 1 x) 20 + sm (ee tu 5 x) 20)
theorem bb_hi {x q : Nat} (hx : x < 2 ^ 20) (hq : q < 32) : bb (nI x) q = x.testBit q := bb_nI hq
/-- one sum, one cell put in -/
theorem ee_in {tr : Nat → Int32} {d x y q : Nat} (hd : 0 < d) (hq : q < 20) (hx : x.testBit q = false) (hy : y.testBit q = true) (hxy : ∀ j, j ≠ q → y.testBit j = x.testBit j) : sm (ee tr d y) 20 = sm (ee tr d x) 20 + (if x.testBit (q + d) = true then tr q else 0) + (if d ≤ q ∧ x.testBit (q - d) = true then tr (q - d) else 0) := by
  have key : ∀ N, sm (ee tr d y) N = sm (ee tr d x) N + (if q < N ∧ x.testBit (q + d) = true then tr q else 0) + (if (d ≤ q ∧ q - d < N) ∧ x.testBit (q - d) = true then tr (q - d) else 0) := by
    intro N
    induction N with
    | zero => rw [sm, sm, if_neg (by omega), if_neg (by omega)]; rfl
    | succ N ih =>
      rw [sm, sm, ih, ee, ee]
      by_cases h1 : N = q
      · subst h1
        rw [hy, hx, hxy (N + d) (by omega)]
        by_cases h2 : (d ≤ N ∧ N - d < N) ∧ x.testBit (N - d) = true
        · rw [if_neg (by omega), if_pos h2, if_pos (show (d ≤ N ∧ N - d < N + 1) ∧ x.testBit (N - d) = true from ⟨by omega, h2.2⟩)]
          cases x.testBit (N + d) <;> simp
          grind
        · rw [if_neg (by omega), if_neg h2, if_neg (show ¬ ((d ≤ N ∧ N - d < N + 1) ∧ x.testBit (N - d) = true) from fun z => h2 ⟨by omega, z.2⟩)]
          cases x.testBit (N + d) <;> simp
      · rw [hxy N h1]
        by_cases h2 : N + d = q
        · rw [h2, hy, hx]
          have e : q - d = N := by omega
          rw [e, if_neg (show ¬ (q < N ∧ x.testBit (q + d) = true) by omega), if_neg (show ¬ (q < N + 1 ∧ x.testBit (q + d) = true) by omega), if_neg (show ¬ ((d ≤ q ∧ N < N) ∧ x.testBit N = true) by omega)]
          by_cases h3 : x.testBit N = true
          · rw [h3, if_pos ⟨rfl, rfl⟩, if_neg (by simp), if_pos ⟨⟨by omega, by omega⟩, rfl⟩]
          · rw [if_neg (fun z => h3 z.1), if_neg (fun z => h3 z.1), if_neg (fun z => h3 z.2)]
        · rw [hxy (N + d) h2]
          have c1 : (q < N + 1 ∧ x.testBit (q + d) = true) ↔ (q < N ∧ x.testBit (q + d) = true) := ⟨fun z => ⟨by omega, z.2⟩, fun z => ⟨by omega, z.2⟩⟩
          have c2 : ((d ≤ q ∧ q - d < N + 1) ∧ x.testBit (q - d) = true) ↔ ((d ≤ q ∧ q - d < N) ∧ x.testBit (q - d) = true) := ⟨fun z => ⟨by omega, z.2⟩, fun z => ⟨by omega, z.2⟩⟩
          simp only [c1, c2]
          grind
  rw [key 20]
  have c1 : (q < 20 ∧ x.testBit (q + d) = true) ↔ x.testBit (q + d) = true := ⟨fun z => z.2, fun z => ⟨hq, z⟩⟩
  have c2 : ((d ≤ q ∧ q - d < 20) ∧ x.testBit (q - d) = true) ↔ (d ≤ q ∧ x.testBit (q - d) = true) := ⟨fun z => ⟨z.1.1, z.2⟩, fun z => ⟨⟨z.1, by omega⟩, z.2⟩⟩
  simp only [c1, c2]
theorem eo_in {ow : Nat → Int32} {x y q : Nat} (hq : q < 20) (hx : x.testBit q = false) (hy : y.testBit q = true) (hxy : ∀ j, j ≠ q → y.testBit j = x.testBit j) : sm (eo ow y) 20 = sm (eo ow x) 20 + ow q := by
  refine sm_at (i := q) (fun j hj => ?_) ?_ hq
  · rw [eo, eo, hxy j hj]
  · rw [eo, eo, hx, hy, if_pos rfl, if_neg (by decide)]
    grind
theorem kg_b (ow tr tu : Nat → Int32) {x q : Nat} (hq : q < 20) : g_kg ow tr tu q (nI x) = ow q + (if x.testBit (q + 1) = true then tr q else 0) + (if x.testBit (q + 5) = true then tu q else 0) + (if 1 ≤ q ∧ x.testBit (q - 1) = true then tr (q - 1) else 0) + (if 5 ≤ q ∧ x.testBit (q - 5) = true then tu (q - 5) else 0) := by
  rw [g_kg, g_k1, g_k2, g_k3, g_k4, bb_nI (by omega), bb_nI (by omega), bb_nI (by omega), bb_nI (by omega)]
  repeat' split
  all_goals grind
theorem EC_in (ow tr tu : Nat → Int32) {x y q : Nat} (hq : q < 20) (hx : x.testBit q = false) (hy : y.testBit q = true) (hxy : ∀ j, j ≠ q → y.testBit j = x.testBit j) : EC ow tr tu y = EC ow tr tu x + g_kg ow tr tu q (nI x) := by
  rw [EC, EC, eo_in hq hx hy hxy, ee_in (d := 1) (by omega) hq hx hy hxy, ee_in (d := 5) (by omega) hq hx hy hxy, kg_b _ _ _ hq]
  grind
theorem kg_self (ow tr tu : Nat → Int32) {x y q : Nat} (hq : q < 20) (hxy : ∀ j, j ≠ q → y.testBit j = x.testBit j) : g_kg ow tr tu q (nI y) = g_kg ow tr tu q (nI x) := by
  rw [kg_b _ _ _ hq, kg_b _ _ _ hq, hxy (q + 1) (by omega), hxy (q + 5) (by omega)]
  congr 1
  · congr 1
    by_cases h : 1 ≤ q
    · rw [hxy (q - 1) (by omega)]
    · rw [if_neg (fun z => h z.1), if_neg (fun z => h z.1)]
  · by_cases h : 5 ≤ q
    · rw [hxy (q - 5) (by omega)]
    · rw [if_neg (fun z => h z.1), if_neg (fun z => h z.1)]
theorem hg_eq (ow tr tu : Nat → Int32) (c : Int32) {x q : Nat} (hq : q < 20) : g_hg ow tr tu q (nI x) (c + EC ow tr tu x) = c + EC ow tr tu (x ^^^ 2 ^ q) := by
  have hx : ∀ j, j ≠ q → (x ^^^ 2 ^ q).testBit j = x.testBit j := fun j hj => by
    rw [xor_bits, decide_eq_false (fun z => hj z.symm), Bool.xor_false]
  have hkk : (x ^^^ 2 ^ q).testBit q = !x.testBit q := by rw [xor_bits]; simp
  rw [g_hg, bb_nI (by omega)]
  cases h : x.testBit q with
  | true =>
    rw [if_pos rfl, kg_self ow tr tu hq (fun j hj => (hx j hj).symm)]
    have := EC_in ow tr tu hq (x := x ^^^ 2 ^ q) (y := x) (by rw [hkk, h]; rfl) h (fun j hj => (hx j hj).symm)
    rw [this]
    grind
  | false =>
    rw [if_neg (by decide), EC_in ow tr tu hq (x := x) (y := x ^^^ 2 ^ q) h (by rw [hkk, h]; rfl) hx]
    grind
/-! laying out -/
theorem eo_upd {ow : Nat → Int32} {q : Nat} (hq : q < 20) (h0 : ow q = 0) (v : Int32) (x : Nat) : sm (eo (upd ow q v) x) 20 = sm (eo ow x) 20 + (if x.testBit q = true then v else 0) := by
  refine sm_at (i := q) (fun j hj => ?_) ?_ hq
  · rw [eo, eo, pk_un hj]
  · rw [eo, eo, pk_us, h0]
    split
    · grind
    · grind
theorem ee_upd {tr : Nat → Int32} {d q : Nat} (hq : q < 20) (h0 : tr q = 0) (v : Int32) (x : Nat) : sm (ee (upd tr q v) d x) 20 = sm (ee tr d x) 20 + (if x.testBit q = true ∧ x.testBit (q + d) = true then v else 0) := by
  refine sm_at (i := q) (fun j hj => ?_) ?_ hq
  · rw [ee, ee, pk_un hj]
  · rw [ee, ee, pk_us, h0]
    split
    · grind
    · grind
def Own (mm : Nat → Nat) (n : Nat) (own : Nat → Nat) : Prop := ∀ i q, i < n → (mm i).testBit q = true → own q = i
theorem own_ex {mm : Nat → Nat} {n : Nat} (hn : n ≤ 8) (hd : ∀ i j, i < n → j < n → i ≠ j → ∀ q, (mm i).testBit q = true → (mm j).testBit q = false) : ∃ own, Own mm n own := by
  refine ⟨fun q => fa_first (fun i => (mm i).testBit q) 8, fun i q hi hq => ?_⟩
  have hl : fa_first (fun i => (mm i).testBit q) 8 ≤ i := by
    rcases Nat.lt_or_ge i (fa_first (fun i => (mm i).testBit q) 8) with z | z
    · exact absurd (hq.symm.trans (fa_first_no (fun i => (mm i).testBit q) 8 i z)) (by decide)
    · exact z
  have hy := fa_first_yes (fun i => (mm i).testBit q) 8 (by omega)
  show fa_first (fun i => (mm i).testBit q) 8 = i
  generalize fa_first (fun i => (mm i).testBit q) 8 = a at hl hy
  by_cases e : a = i
  · exact e
  · exact absurd (hy.symm.trans (hd i a hi (by omega) (fun z => e z.symm) q hq)) (by decide)
def Done (i j a b : Nat) : Prop := min a b < i ∨ (min a b = i ∧ max a b < j)
def Fresh (own : Nat → Nat) (i j : Nat) (p : (Nat → Int32) × (Nat → Int32)) : Prop := (∀ q, q < 20 → p.1 q ≠ 0 → Done i j (own q) (own (q + 1))) ∧ (∀ q, q < 20 → p.2 q ≠ 0 → Done i j (own q) (own (q + 5)))
def QQ (tb : Nat → Int32) (mm : Nat → Nat) (x i j : Nat) : Int32 := if ¬ tb (8 * i + j) = 0 ∧ x.testBit (lkf mm i j) = true ∧ x.testBit (lkt mm i j) = true then tb (8 * i + j) else 0
theorem adj_dist : ∀ a, a < 20 → ∀ b, b < 20 → (adjm a).testBit b = true → max a b = min a b + 1 ∨ max a b = min a b + 5 := by decide +kernel
theorem Fresh.up {own : Nat → Nat} {i j i2 j2 : Nat} {p : (Nat → Int32) × (Nat → Int32)} (h : Fresh own i j p) (hu : ∀ a b, Done i j a b → Done i2 j2 a b) : Fresh own i2 j2 p := ⟨fun q hq hz => hu _ _ (h.1 q hq hz), fun q hq hz => hu _ _ (h.2 q hq hz)⟩
theorem lay_one {n : Nat} {tb ch : Nat → Int32} {dd : Int32} {mm : Nat → Nat} (hn : n ≤ 8) (hsym : ∀ i j, i < 8 → j < 8 → tb (8 * i + j) = tb (8 * j + i)) (hm : ∀ i, i < n → ch i = nI (mm i) ∧ mm i < 2 ^ 20) (h : h_ff n tb ch dd mm = 0) {own : Nat → Nat} (ho : Own mm n own) {i d : Nat} (hi : i + 1 + d < n) {p : (Nat → Int32) × (Nat → Int32)} (hf : Fresh own i (i + 1 + d) p) : Fresh own i (i + 1 + (d + 1)) (g_oi tb (lkf mm) (lkt mm) i d p) ∧ ∀ x, sm (ee (g_oi tb (lkf mm) (lkt mm) i d p).1 1 x) 20 + sm (ee (g_oi tb (lkf mm) (lkt mm) i d p).2 5 x) 20 = sm (ee p.1 1 x) 20 + sm (ee p.2 5 x) 20 + QQ tb mm x i (i + 1 + d) := by
  rw [g_oi]
  simp only [QQ]
  generalize hj : i + 1 + d = j at hi hf
  have hu : ∀ a b, Done i j a b → Done i (i + 1 + (d + 1)) a b := fun a b z => by
    unfold Done at z ⊢; omega
  by_cases ht : tb (8 * i + j) = 0
  · rw [if_pos ht]
    refine ⟨hf.up hu, fun x => ?_⟩
    rw [if_neg (fun z => z.1 ht)]
    grind
  · rw [if_neg ht]
    obtain ⟨k1, k2, k3, k4, k5, -⟩ := lk_all hm h (a := i) (b := j) (by omega) hi (by rw [hsym _ _ (by omega) (by omega)]; exact ht)
    have o1 := ho i _ (by omega) k3
    have o2 := ho j _ hi k4
    generalize lkf mm i j = u at k1 k3 k5 o1
    generalize lkt mm i j = v at k2 k4 k5 o2
    have hdone : ¬ Done i j (own (min u v)) (own (max u v)) := by
      rcases Nat.le_total u v with z | z
      · rw [Nat.min_eq_left z, Nat.max_eq_right z, o1, o2]; unfold Done; omega
      · rw [Nat.min_eq_right z, Nat.max_eq_left z, o1, o2]; unfold Done; omega
    have hnew : Done i (i + 1 + (d + 1)) (own (min u v)) (own (max u v)) := by
      rcases Nat.le_total u v with z | z
      · rw [Nat.min_eq_left z, Nat.max_eq_right z, o1, o2]; unfold Done; omega
      · rw [Nat.min_eq_right z, Nat.max_eq_left z, o1, o2]; unfold Done; omega
    have hq : min u v < 20 := by omega
    have hbits : ∀ x : Nat, (x.testBit (min u v) = true ∧ x.testBit (max u v) = true) ↔ (x.testBit u = true ∧ x.testBit v = true) := fun x => by
      rcases Nat.le_total u v with z | z
      · rw [Nat.min_eq_left z, Nat.max_eq_right z]
      · rw [Nat.min_eq_right z, Nat.max_eq_left z]; exact and_comm
    rw [g_l1, g_l2]
    rcases adj_dist u k1 v k2 k5 with e | e
    · rw [if_pos e, if_pos e]
      rw [e] at hdone hnew
      have h0 : p.1 (min u v) = 0 := Decidable.byContradiction (fun z => hdone (hf.1 _ hq z))
      refine ⟨⟨fun q hq2 hz => ?_, fun q hq2 hz => hu _ _ (hf.2 q hq2 hz)⟩, fun x => ?_⟩
      · by_cases y : q = min u v
        · rw [y]; exact hnew
        · dsimp only at hz
          rw [pk_un y] at hz
          exact hu _ _ (hf.1 q hq2 hz)
      · dsimp only
        have hb := hbits x
        rw [e] at hb
        rw [ee_upd hq h0]
        by_cases y : x.testBit u = true ∧ x.testBit v = true
        · rw [if_pos (hb.mpr y), if_pos ⟨ht, y⟩]; grind
        · rw [if_neg (fun z => y (hb.mp z)), if_neg (fun z => y z.2)]; grind
    · rw [if_neg (by omega), if_neg (by omega)]
      rw [e] at hdone hnew
      have h0 : p.2 (min u v) = 0 := Decidable.byContradiction (fun z => hdone (hf.2 _ hq z))
      refine ⟨⟨fun q hq2 hz => hu _ _ (hf.1 q hq2 hz), fun q hq2 hz => ?_⟩, fun x => ?_⟩
      · by_cases y : q = min u v
        · rw [y]; exact hnew
        · dsimp only at hz
          rw [pk_un y] at hz
          exact hu _ _ (hf.2 q hq2 hz)
      · dsimp only
        have hb := hbits x
        rw [e] at hb
        rw [ee_upd hq h0]
        by_cases y : x.testBit u = true ∧ x.testBit v = true
        · rw [if_pos (hb.mpr y), if_pos ⟨ht, y⟩]; grind
        · rw [if_neg (fun z => y (hb.mp z)), if_neg (fun z => y z.2)]; grind
theorem lay_in {n : Nat} {tb ch : Nat → Int32} {dd : Int32} {mm : Nat → Nat} (hn : n ≤ 8) (hsym : ∀ i j, i < 8 → j < 8 → tb (8 * i + j) = tb (8 * j + i)) (hm : ∀ i, i < n → ch i = nI (mm i) ∧ mm i < 2 ^ 20) (h : h_ff n tb ch dd mm = 0) {own : Nat → Nat} (ho : Own mm n own) {i : Nat} {p : (Nat → Int32) × (Nat → Int32)} (hf : Fresh own i (i + 1) p) : ∀ {D : Nat}, i + 1 + D ≤ n → Fresh own i (i + 1 + D) (fd (g_oi tb (lkf mm) (lkt mm) i) p D) ∧ ∀ x, sm (ee (fd (g_oi tb (lkf mm) (lkt mm) i) p D).1 1 x) 20 + sm (ee (fd (g_oi tb (lkf mm) (lkt mm) i) p D).2 5 x) 20 = sm (ee p.1 1 x) 20 + sm (ee p.2 5 x) 20 + sm (fun d => QQ tb mm x i (i + 1 + d)) D
  | 0, _ => by
    rw [fd]
    exact ⟨hf, fun x => by rw [show sm (fun d => QQ tb mm x i (i + 1 + d)) 0 = 0 from rfl, Int32.add_zero]⟩
  | D + 1, hD => by
    obtain ⟨f1, f2⟩ := lay_in hn hsym hm h ho hf (D := D) (by omega)
    obtain ⟨g1, g2⟩ := lay_one hn hsym hm h ho (d := D) (by omega) f1
    rw [fd]
    refine ⟨g1, fun x => ?_⟩
    rw [g2 x, f2 x, show sm (fun d => QQ tb mm x i (i + 1 + d)) (D + 1) = sm (fun d => QQ tb mm x i (i + 1 + d)) D + QQ tb mm x i (i + 1 + D) from rfl]
    grind
def OO (tb : Nat → Int32) (mm : Nat → Nat) (x i : Nat) : Int32 := if x.testBit (lowb (mm i)) = true then tb (8 * i + i) else 0
theorem lay_all {n : Nat} {tb ch : Nat → Int32} {dd : Int32} {mm : Nat → Nat} (hn : n ≤ 8) (hsym : ∀ i j, i < 8 → j < 8 → tb (8 * i + j) = tb (8 * j + i)) (hm : ∀ i, i < n → ch i = nI (mm i) ∧ mm i < 2 ^ 20) (h : h_ff n tb ch dd mm = 0) {own : Nat → Nat} (ho : Own mm n own) {p0 : (Nat → Int32) × (Nat → Int32) × (Nat → Int32)} (z1 : ∀ q, q < 20 → p0.1 q = 0) (z2 : ∀ q, q < 20 → p0.2.1 q = 0) (z3 : ∀ q, q < 20 → p0.2.2 q = 0) : ∀ {N : Nat}, N ≤ n → (∀ q, q < 20 → (fd (g_oo n tb (fun i => lowb (mm i)) (lkf mm) (lkt mm)) p0 N).1 q ≠ 0 → own q < N) ∧ Fresh own N 0 (fd (g_oo n tb (fun i => lowb (mm i)) (lkf mm) (lkt mm)) p0 N).2 ∧ ∀ x, EC (fd (g_oo n tb (fun i => lowb (mm i)) (lkf mm) (lkt mm)) p0 N).1 (fd (g_oo n tb (fun i => lowb (mm i)) (lkf mm) (lkt mm)) p0 N).2.1 (fd (g_oo n tb (fun i => lowb (mm i)) (lkf mm) (lkt mm)) p0 N).2.2 x = sm (fun i => OO tb mm x i + sm (fun d => QQ tb mm x i (i + 1 + d)) (n - (i + 1))) N
  | 0, _ => by
    rw [fd]
    refine ⟨fun q hq hz => absurd (z1 q hq) hz, ⟨fun q hq hz => absurd (z2 q hq) hz, fun q hq hz => absurd (z3 q hq) hz⟩, fun x => ?_⟩
    rw [EC, sm_zero (fun q hq => by rw [eo, z1 q hq]; split <;> rfl), sm_zero (fun q hq => by rw [ee, z2 q hq]; split <;> rfl), sm_zero (fun q hq => by rw [ee, z3 q hq]; split <;> rfl)]
    rfl
  | N + 1, hN => by
    obtain ⟨f1, f2, f3⟩ := lay_all hn hsym hm h ho z1 z2 z3 (N := N) (by omega)
    rw [fd]
    generalize fd (g_oo n tb (fun i => lowb (mm i)) (lkf mm) (lkt mm)) p0 N = p at f1 f2 f3
    have hpos := st_pos hm h N (by omega)
    have hl := (hm N (by omega)).2
    have hb := lowb_bit hpos (by omega)
    have hlt := lowb_lt hpos hl (by omega)
    have hown := ho N _ (by omega) hb
    have h0 : p.1 (lowb (mm N)) = 0 := Decidable.byContradiction (fun z => by have := f1 _ hlt z; omega)
    obtain ⟨g1, g2⟩ := lay_in hn hsym hm h ho (i := N) (p := p.2) (f2.up (fun a b z => by unfold Done at z ⊢; omega)) (D := n - (N + 1)) (by omega)
    rw [g_oo]
    refine ⟨fun q hq hz => ?_, g1.up (fun a b z => by unfold Done at z ⊢; omega), fun x => ?_⟩
    · dsimp only at hz
      by_cases e : q = lowb (mm N)
      · rw [e, hown]; omega
      · rw [pk_un e] at hz
        have := f1 q hq hz
        omega
    · have f4 := f3 x
      have g4 := g2 x
      rw [EC] at f4 ⊢
      dsimp only
      rw [eo_upd hlt h0, g4, show sm (fun i => OO tb mm x i + sm (fun d => QQ tb mm x i (i + 1 + d)) (n - (i + 1))) (N + 1) = sm (fun i => OO tb mm x i + sm (fun d => QQ tb mm x i (i + 1 + d)) (n - (i + 1))) N + (OO tb mm x N + sm (fun d => QQ tb mm x N (N + 1 + d)) (n - (N + 1))) from rfl, ← f4, OO]
      grind
theorem tri (Q : Nat → Nat → Int32) : ∀ n, sm (fun i => sm (fun d => Q i (i + 1 + d)) (n - (i + 1))) n = sm (fun j => sm (fun i => Q i j) j) n
  | 0 => rfl
  | n + 1 => by
    have e1 : sm (fun i => sm (fun d => Q i (i + 1 + d)) (n + 1 - (i + 1))) n = sm (fun i => sm (fun d => Q i (i + 1 + d)) (n - (i + 1)) + Q i n) n := sm_congr (fun i hi => by
      rw [show n + 1 - (i + 1) = (n - (i + 1)) + 1 by omega, sm, show i + 1 + (n - (i + 1)) = n by omega])
    rw [sm, sm, e1, sm_add (fun i => sm (fun d => Q i (i + 1 + d)) (n - (i + 1))) (fun i => Q i n), tri Q n, show n + 1 - (n + 1) = 0 by omega, show sm (fun d => Q n (n + 1 + d)) 0 = 0 from rfl, Int32.add_zero]
end
section
/-! strong -/
theorem hon_sm (n : Nat) (c : Int32) (tb li : Nat → Int32) (x : Int32) : h_on n c tb li x = c + sm (fun i => sm (h_ov tb li x i) (i + 1)) n := by
  rw [h_on, ← fd_sm]
  apply fd_congr
  intro i a _
  rw [h_or, show h_oi tb li x i = fun j a => a + h_ov tb li x i j from rfl, fd_sm]
theorem lr_at {tb : Nat → Int32} (l0 : Nat → Nat) (lf lt : Nat → Nat → Nat) (f : Nat → Int32) : ∀ {N : Nat}, N ≤ 8 → ∀ i j, j ≤ i → i < N → fd (h_lr tb l0 lf lt) f N (8 * i + j) = h_lv tb l0 lf lt i j
  | 0, _, i, j, _, h => absurd h (by omega)
  | N + 1, hN, i, j, hji, hi => by
    have row : ∀ M, M ≤ 8 → ∀ g : Nat → Int32, fd (h_li tb l0 lf lt N) g M (8 * i + j) = if i = N ∧ j < M then h_lv tb l0 lf lt N j else g (8 * i + j) := by
      intro M
      induction M with
      | zero => intro _ g; rw [fd, if_neg (by omega)]
      | succ M ih =>
        intro hM g
        rw [fd, h_li, upd_ij _ _ (by omega) (by omega), ih (by omega)]
        by_cases h : i = N ∧ j = M
        · rw [if_pos h, if_pos (by omega), h.2]
        · rw [if_neg h]
          by_cases h2 : i = N ∧ j < M
          · rw [if_pos h2, if_pos (by omega)]
          · rw [if_neg h2, if_neg (by omega)]
    rw [fd, h_lr, row (N + 1) (by omega)]
    by_cases h : i = N
    · rw [if_pos (by omega), h]
    · rw [if_neg (by omega)]
      exact lr_at l0 lf lt f (N := N) (by omega) i j hji (by omega)
theorem and_two (x : Nat) {a b : Nat} : x &&& (2 ^ a ||| 2 ^ b) = 2 ^ a ||| 2 ^ b ↔ (x.testBit a = true ∧ x.testBit b = true) := by
  constructor
  · intro h
    have h1 : (x &&& (2 ^ a ||| 2 ^ b)).testBit a = true := by rw [h, Nat.testBit_or, Nat.testBit_two_pow, decide_eq_true rfl]; rfl
    have h2 : (x &&& (2 ^ a ||| 2 ^ b)).testBit b = true := by rw [h, Nat.testBit_or, Nat.testBit_two_pow, Nat.testBit_two_pow, decide_eq_true (rfl : b = b), Bool.or_true]
    rw [Nat.testBit_and, Bool.and_eq_true] at h1 h2
    exact ⟨h1.1, h2.1⟩
  · rintro ⟨h1, h2⟩
    apply Nat.eq_of_testBit_eq
    intro j
    rw [Nat.testBit_and, Nat.testBit_or, Nat.testBit_two_pow, Nat.testBit_two_pow]
    by_cases e1 : a = j
    · subst e1; rw [h1]; rfl
    · by_cases e2 : b = j
      · subst e2; rw [h2]; simp
      · rw [decide_eq_false e1, decide_eq_false e2]; simp
theorem ov_n {n : Nat} {tb ch : Nat → Int32} {dd : Int32} {mm : Nat → Nat} (hn : n ≤ 8) (hm : ∀ i, i < n → ch i = nI (mm i) ∧ mm i < 2 ^ 20) (h : h_ff n tb ch dd mm = 0) (hsym : ∀ i j, i < 8 → j < 8 → tb (8 * i + j) = tb (8 * j + i)) (f : Nat → Int32) {x : Nat} (hx : x < 2 ^ 20) {i j : Nat} (hji : j ≤ i) (hi : i < n) : h_ov tb (fd (h_lr tb (fun i => lowb (mm i)) (lkf mm) (lkt mm)) f n) (nI x) i j = if j = i then OO tb mm x i else QQ tb mm x j i := by
  rw [h_ov, lr_at _ _ _ f hn i j hji hi, h_lv]
  by_cases e : i = j
  · subst e
    have hpos := st_pos hm h i hi
    have hlt := lowb_lt hpos (hm i hi).2 (by omega)
    have hp2 : 2 ^ lowb (mm i) < 2 ^ 20 := Nat.pow_lt_pow_right (by omega) hlt
    have hp3 := Nat.two_pow_pos (lowb (mm i))
    rw [if_pos rfl, if_pos rfl, sh1_n hlt, OO, fa_and]
    have hl : x &&& 2 ^ lowb (mm i) ≤ x := Nat.and_le_left
    have := and_two x (a := lowb (mm i)) (b := lowb (mm i))
    rw [Nat.or_self] at this
    by_cases q : x.testBit (lowb (mm i)) = true
    · rw [if_pos q, if_pos ⟨nI_ne0 hp3 (by omega), by rw [this.mpr ⟨q, q⟩]⟩]
    · rw [if_neg q, if_neg (fun z => q (this.mp ((nI_eq (by omega) (by omega)).mp z.2)).1)]
  · rw [if_neg e, if_neg (show ¬ j = i from fun z => e z.symm), QQ, hsym j i (by omega) (by omega)]
    by_cases ht : tb (8 * i + j) = 0
    · rw [if_pos ht, if_neg (fun z => z.1 rfl), if_neg (fun z => z.1 ht)]
    · obtain ⟨k1, k2, -, -, -, -⟩ := lk_all hm h (a := j) (b := i) (by omega) hi ht
      have hp1 : 2 ^ lkf mm j i < 2 ^ 20 := Nat.pow_lt_pow_right (by omega) k1
      have hp2 : 2 ^ lkt mm j i < 2 ^ 20 := Nat.pow_lt_pow_right (by omega) k2
      have hp3 := Nat.two_pow_pos (lkf mm j i)
      have hor : 2 ^ lkf mm j i ||| 2 ^ lkt mm j i < 2 ^ 20 := Nat.or_lt_two_pow hp1 hp2
      have hor2 : 2 ^ lkf mm j i ≤ 2 ^ lkf mm j i ||| 2 ^ lkt mm j i := Nat.left_le_or
      rw [if_neg ht, sh1_n k1, sh1_n k2, fa_or, fa_and]
      have hl : x &&& (2 ^ lkf mm j i ||| 2 ^ lkt mm j i) ≤ x := Nat.and_le_left
      have := and_two x (a := lkf mm j i) (b := lkt mm j i)
      by_cases q : x.testBit (lkf mm j i) = true ∧ x.testBit (lkt mm j i) = true
      · rw [if_pos ⟨nI_ne0 (by omega) (by omega), by rw [this.mpr q]⟩, if_pos ⟨ht, q⟩]
      · rw [if_neg (fun z => q (this.mp ((nI_eq (by omega) (by omega)).mp z.2))), if_neg (fun z => q z.2)]
theorem on_EC {n : Nat} {tb ch : Nat → Int32} {dd : Int32} {mm : Nat → Nat} (hn : n ≤ 8) (hm : ∀ i, i < n → ch i = nI (mm i) ∧ mm i < 2 ^ 20) (h : h_ff n tb ch dd mm = 0) (hsym : ∀ i j, i < 8 → j < 8 → tb (8 * i + j) = tb (8 * j + i)) (f : Nat → Int32) (c : Int32) {x : Nat} (hx : x < 2 ^ 20) : h_on n c tb (fd (h_lr tb (fun i => lowb (mm i)) (lkf mm) (lkt mm)) f n) (nI x) = c + sm (fun i => OO tb mm x i + sm (fun d => QQ tb mm x i (i + 1 + d)) (n - (i + 1))) n := by
  rw [hon_sm, sm_add (OO tb mm x) (fun i => sm (fun d => QQ tb mm x i (i + 1 + d)) (n - (i + 1))), tri (QQ tb mm x), ← sm_add]
  congr 1
  apply sm_congr
  intro i hi
  rw [sm, ov_n hn hm h hsym f hx (Nat.le_refl i) hi, if_pos rfl, sm_congr (g := fun j => QQ tb mm x j i) (fun j hj => by rw [ov_n hn hm h hsym f hx (by omega) hi, if_neg (by omega)])]
  grind
theorem tri_bd {V : Nat → Nat → Int32} {B : Int} (hB : 0 ≤ B) (hB2 : B ≤ 1000000) {n : Nat} (hn : n ≤ 8) (hv : ∀ i j, j ≤ i → i < n → -B ≤ (V i j).toInt ∧ (V i j).toInt ≤ B) : -(36 * B) ≤ (sm (fun i => sm (V i) (i + 1)) n).toInt ∧ (sm (fun i => sm (V i) (i + 1)) n).toInt ≤ 36 * B := by
  have hr : ∀ i, i < n → -(((i + 1 : Nat) : Int) * B) ≤ (sm (V i) (i + 1)).toInt ∧ (sm (V i) (i + 1)).toInt ≤ ((i + 1 : Nat) : Int) * B := fun i hi => by
    refine sm_bd hB (fun j hj => hv i j (by omega) hi) ?_
    have : ((i + 1 : Nat) : Int) * B ≤ 8 * B := Int.mul_le_mul_of_nonneg_right (by omega) hB
    omega
  have h : ∀ m, m ≤ n → -(((m * (m + 1) / 2 : Nat) : Int) * B) ≤ (sm (fun i => sm (V i) (i + 1)) m).toInt ∧ (sm (fun i => sm (V i) (i + 1)) m).toInt ≤ ((m * (m + 1) / 2 : Nat) : Int) * B := by
    intro m
    induction m with
    | zero => intro _; rw [sm, ti_0]; simp
    | succ m ih =>
      intro hm
      obtain ⟨h1, h2⟩ := ih (by omega)
      obtain ⟨h3, h4⟩ := hr m (by omega)
      have e : (((m + 1) * (m + 1 + 1) / 2 : Nat) : Int) * B = ((m * (m + 1) / 2 : Nat) : Int) * B + ((m + 1 : Nat) : Int) * B := by
        rw [← Int.add_mul, ← Int.natCast_add]
        congr 2
        have : (m + 1) * (m + 1 + 1) = m * (m + 1) + 2 * (m + 1) := by grind
        omega
      have l1 : ((m * (m + 1) / 2 : Nat) : Int) * B ≤ 36 * B := Int.mul_le_mul_of_nonneg_right (by
        have : m * (m + 1) ≤ 7 * 8 := Nat.mul_le_mul (by omega) (by omega)
        omega) hB
      have l2 : ((m + 1 : Nat) : Int) * B ≤ 8 * B := Int.mul_le_mul_of_nonneg_right (by omega) hB
      rw [e, sm, ti_add (by omega) (by omega)]
      omega
  obtain ⟨h1, h2⟩ := h n (Nat.le_refl n)
  have l1 : ((n * (n + 1) / 2 : Nat) : Int) * B ≤ 36 * B := Int.mul_le_mul_of_nonneg_right (by
    have : n * (n + 1) ≤ 8 * 9 := Nat.mul_le_mul (by omega) (by omega)
    omega) hB
  omega
theorem low_mem {n : Nat} (R : Nat → Int32) : ∃ s, g_low n R = R s := by
  unfold g_low
  have : ∀ N, ∃ s, fd (g_mn R) (R 0) N = R s := by
    intro N
    induction N with
    | zero => exact ⟨0, rfl⟩
    | succ N ih =>
      obtain ⟨s, e⟩ := ih
      rw [fd, e, g_mn, imin]
      split
      · exact ⟨_, rfl⟩
      · exact ⟨_, rfl⟩
  exact this _
theorem ite_swap {α : Type} {a b : Prop} [Decidable a] [Decidable b] (x y : α) : (if a ∧ b then x else y) = if b ∧ a then x else y := by
  by_cases h : a ∧ b
  · rw [if_pos h, if_pos h.symm]
  · rw [if_neg h, if_neg (fun z => h z.symm)]
def sf (best c : Int32) (G : Nat → Int32) (mm : Nat → Nat) (n A s : Nat) : Nat := pv (best.toInt - (c + G (X A s)).toInt) (UN mm n (X A s))
theorem sm_model {n : Nat} {tb ch : Nat → Int32} {mm : Nat → Nat} {c best : Int32} {G : Nat → Int32} {li ce : Nat → Int32} {A : Nat} (hA : A < 2 ^ 20) (hm : ∀ i, i < n → ch i = nI (mm i) ∧ mm i < 2 ^ 20) (hd : ∀ i j, i < n → j < n → i ≠ j → ∀ q, (mm i).testBit q = true → (mm j).testBit q = false) (hce : ∀ k, k < bc1 A 20 → ce k = nI (kth A k)) (hG : ∀ x, x < 2 ^ 20 → h_on n c tb li (nI x) = c + G x) (hB : ∀ x, x < 2 ^ 20 → -1000000 ≤ best.toInt - (c + G x).toInt ∧ best.toInt - (c + G x).toInt ≤ 1000000) : ∀ S, fd (h_sm n c tb li ch ce (bc1 A 20) best) 0 S = nI (mx (sf best c G mm n A) S) ∧ mx (sf best c G mm n A) S ≤ 1000001
  | 0 => ⟨rfl, Nat.zero_le _⟩
  | S + 1 => by
    obtain ⟨e, hl⟩ := sm_model hA hm hd hce hG hB S
    have hx := X_lt hA S
    obtain ⟨b1, b2⟩ := hB _ hx
    refine ⟨?_, ?_⟩
    · rw [fd, e, h_sm, sx_n A hce, hG _ hx, un_h _ hm hd, ite_swap]
      have hu := UN_le mm n (X A S)
      exact pv_h rfl b1 b2 (by omega) hl
    · rw [mx]
      exact Nat.max_le.mpr ⟨hl, pv_le (B := 1000000) b2 _⟩
theorem sm_class {n : Nat} (hn : n ≤ 8) {ch : Nat → Int32} {mm : Nat → Nat} {c best : Int32} {ow tr tu : Nat → Int32} {A : Nat} (hA : A < 2 ^ 20) (hN : bc1 A 20 ≤ 14) (hm : ∀ i, i < 8 → ch i = nI (mm i) ∧ mm i < 2 ^ 20) (hz : ∀ i, n ≤ i → i < 8 → mm i = 0) (hB : ∀ x, x < 2 ^ 20 → -1000000 ≤ best.toInt - (c + EC ow tr tu x).toInt ∧ best.toInt - (c + EC ow tr tu x).toInt ≤ 1000000) (hC : ∀ x, x < 2 ^ 20 → -100000000 ≤ (c + EC ow tr tu x).toInt ∧ (c + EC ow tr tu x).toInt ≤ 100000000) : ∀ {T : Nat}, T < 2 ^ bc1 A 20 → fd (g_h ow tr tu (kth A) (fd (g_bri ch) 0 8) (fd (g_bbe ch) 0 8) best) (0, 0, c) T = (nI (mx (fun t => sf best c (EC ow tr tu) mm n A (gray t)) (T + 1)), nI (X A (gray T)), c + EC ow tr tu (X A (gray T))) ∧ mx (fun t => sf best c (EC ow tr tu) mm n A (gray t)) (T + 1) ≤ 1000001
  | 0, _ => by
    have e0 : X A (gray 0) = 0 := by
      apply Nat.eq_of_testBit_eq
      intro j
      rw [X_b hA, show gray 0 = 0 by decide, Nat.zero_testBit, Nat.zero_testBit, Bool.and_false]
    have eC : EC ow tr tu 0 = 0 := by
      rw [EC, sm_zero (fun q hq => by rw [eo, Nat.zero_testBit, if_neg (by decide)]), sm_zero (fun q hq => by rw [ee, Nat.zero_testBit, if_neg (fun z => absurd z.1 (by decide))]), sm_zero (fun q hq => by rw [ee, Nat.zero_testBit, if_neg (fun z => absurd z.1 (by decide))])]
      rfl
    have e1 : mx (fun t => sf best c (EC ow tr tu) mm n A (gray t)) (0 + 1) = 0 := by
      rw [mx, mx, sf, e0, UN_zero, pv, if_neg (by omega)]
      rfl
    rw [fd, e1, e0, eC, Int32.add_zero]
    exact ⟨rfl, Nat.zero_le _⟩
  | T + 1, hT => by
    obtain ⟨e, hl⟩ := sm_class hn hA hN hm hz hB hC (T := T) (by omega)
    have hp : 2 ^ bc1 A 20 ≤ 2 ^ 14 := Nat.pow_le_pow_right (by omega) hN
    have hk := lowb_lt (m := T + 1) (by omega) hT (by omega)
    obtain ⟨k1, -, -⟩ := kth_all hk
    have eX : X A (gray (T + 1)) = X A (gray T) ^^^ 2 ^ kth A (lowb (T + 1)) := by rw [gray_step (by omega), X_flip hA _ hk]
    have hx := X_lt hA (gray (T + 1))
    have hu := UN_le mm n (X A (gray (T + 1)))
    have hmx : mx (fun t => sf best c (EC ow tr tu) mm n A (gray t)) (T + 1 + 1) = max (mx (fun t => sf best c (EC ow tr tu) mm n A (gray t)) (T + 1)) (sf best c (EC ow tr tu) mm n A (gray (T + 1))) := rfl
    rw [hmx]
    generalize mx (fun t => sf best c (EC ow tr tu) mm n A (gray t)) (T + 1) = M at e hl
    rw [fd, e, g_h]
    dsimp only
    rw [sh1_n k1, fa_xor, hg_eq ow tr tu c k1, ← eX, un_g hn hx hm hz, g_hh]
    refine ⟨?_, Nat.max_le.mpr ⟨hl, pv_le (B := 1000000) (hB _ hx).2 _⟩⟩
    rw [pv_g rfl (hB _ hx).1 (hB _ hx).2 (by omega) hl (hC _ hx).1 (hC _ hx).2]
    rfl
theorem b_strong {k : Nat} (hk : k ≤ 512) {wc wm : ix_W} (R : Rel k wc wm) : Both k m_X4_strong m_X5_strong [] wc wm := by
  obtain ⟨n, c, tb, tl, se, on, dd, ch, tn, ro, ot, ow, tr, tu, ld, lc, cc, br, bw, fs, fo, cm, ce, li, ke, be, rfl, rfl, I⟩ := R
  have I0 := I
  obtain ⟨⟨hn1, hn, ht⟩, i2, i3, i4, i5, i6, i7, ⟨mm, hm, hz⟩⟩ := I
  have hm1 : ∀ i, i < n → ch i = nI (mm i) ∧ mm i < 2 ^ 20 := fun i hi => hm i (by omega)
  have hm2 : ∀ i, i < n → ch i = nI (mm i) ∧ mm i < 2 ^ 31 := fun i hi => ⟨(hm1 i hi).1, by have := (hm1 i hi).2; omega⟩
  have hff := ff_eq hn tb dd hm hz
  by_cases h : g_ff n tb ch dd = 0
  · have h' : h_ff n tb ch dd mm = 0 := hff ▸ h
    have hpos := st_pos hm1 h'
    obtain ⟨hd, hN⟩ := st_disj hn hm1 h'
    have hA : orn mm n < 2 ^ 20 := orn_lt (fun i hi => (hm1 i hi).2)
    have hall : fd (g_all ch) 0 n = nI (orn mm n) := all_orn (fun i hi => (hm1 i hi).1)
    have hall8 : fd (g_all ch) 0 8 = nI (orn mm n) := by rw [all_eq hn (ch := ch) (fun i h1 h2 => by rw [(hm i h2).1, hz i h1 h2]; rfl), hall]
    generalize hAe : orn mm n = A at hN hA hall hall8
    obtain ⟨lg1, lg2⟩ := lc_g A ld hN (Nat.le_refl 20)
    obtain ⟨lh1, lh2⟩ := lc_h A ce (Nat.le_refl 20)
    have h0 : ∀ i, i < n → itz (ch i) = nI (lowb (mm i)) ∧ lowb (mm i) < 20 := fun i hi => ⟨by rw [(hm1 i hi).1, itz_low (hpos i hi) (hm2 i hi).2], lowb_lt (hpos i hi) (hm1 i hi).2 (by omega)⟩
    have h1 : ∀ i j, i < j → j < n → ¬ tb (8 * i + j) = 0 → itz (ch i &&& g_nb (ch j)) = nI (lkf mm i j) ∧ lkf mm i j < 20 ∧ itz (ch j &&& g_nb ((1 : Int32) <<< (nI (lkf mm i j) &&& 31))) = nI (lkt mm i j) ∧ lkt mm i j < 20 := fun i j hij hj htb => by
      have htb2 : ¬ tb (8 * j + i) = 0 := by rw [i2 j i (by omega) (by omega)]; exact htb
      obtain ⟨k1, k2, -, -, -, k6⟩ := lk_all hm1 h' hij hj htb2
      have p1 := st_link hm1 h' hij hj htb2
      obtain ⟨e1, e2⟩ := hm1 i (by omega)
      obtain ⟨e3, e4⟩ := hm1 j hj
      have q1 : mm i &&& nbn (mm j) ≤ mm i := Nat.and_le_left
      have q2 : mm j &&& nbn (2 ^ lkf mm i j) ≤ mm j := Nat.and_le_left
      refine ⟨by rw [e1, e3, nb_n e4, fa_and, itz_low p1 (by omega)]; rfl, k1, ?_, k2⟩
      rw [sh1_n k1, e3, nb_n (Nat.pow_lt_pow_right (by omega) k1), fa_and, itz_low k6 (by omega)]
      rfl
    have hcl : ∀ j, j < (fd (g_lc (fd (g_all ch) 0 8)) (ld, 0) 20).2 → (fd (g_lc (fd (g_all ch) 0 8)) (ld, 0) 20).1 j = nI (kth A j) ∧ kth A j < 20 := fun j hj => by
      rw [hall8] at hj ⊢
      rw [lg1] at hj
      obtain ⟨i, z1, z2, z3, z4⟩ := lg2 j hj
      rw [kth_of z1 z2 z3]
      exact ⟨z4, z1⟩
    have hC := c_strong (c := c) (tn := tn) (tl := tl) (se := se) (on := on) (ro := ro) (ot := ot) (ow := ow) (tr := tr) (tu := tu) (lc := lc) (cc := cc) (br := br) (bw := bw) hn h h0 h1 hcl
    have hce : ∀ k, k < bc1 A 20 → (fd (h_lc (nI A)) (ce, 0) 20).1 k = nI (kth A k) := fun j hj => by
      obtain ⟨i, z1, z2, z3, z4⟩ := lh2 j hj
      rw [kth_of z1 z2 z3]
      exact z4
    have hL := m_layGrid (c := c) (tb := tb) (tl := tl) (se := se) (on := on) (dd := dd) (ch := ch) (fs := fs) (fo := fo) (cm := cm) (ce := ce) (li := li) (ke := ke) (be := be) hn (by rw [hall, lh1]; exact hN) (l0 := fun i => lowb (mm i)) (lf := lkf mm) (lt := lkt mm) (fun i hi w => by rw [(hm1 i hi).1]; exact m_firstOf (hpos i hi) (hm2 i hi).2 w) (fun i j hji hi htb cm2 ce2 li2 => by
      obtain ⟨k1, k2, -, -, -, k6⟩ := lk_all hm1 h' hji hi htb
      have p1 := st_link hm1 h' hji hi htb
      obtain ⟨e1, e2⟩ := hm1 j (by omega)
      obtain ⟨e3, e4⟩ := hm1 i hi
      have q1 : mm j &&& nbn (mm i) ≤ mm j := Nat.and_le_left
      have q2 : mm i &&& nbn (2 ^ lkf mm j i) ≤ mm i := Nat.and_le_left
      have f1 : h_be (ch i) &&& ch j = nI (mm j &&& nbn (mm i)) := by rw [e1, e3, be_n, fa_and, Nat.and_comm]
      have f2 : h_be ((1 : Int32) <<< (nI (lowb (mm j &&& nbn (mm i))) &&& 31)) &&& ch i = nI (mm i &&& nbn (2 ^ lkf mm j i)) := by
        rw [show lowb (mm j &&& nbn (mm i)) = lkf mm j i from rfl, sh1_n k1, e3, be_n, fa_and, Nat.and_comm]
      exact ⟨m_linkOf0 (by omega) (by omega) f1 p1 (by omega), m_linkOf1 (x := 1) (by decide) (by omega) (by omega) f1 p1 (by omega) f2 k6 (by omega)⟩)
    rw [hall, lh1] at hL
    have hM := m_strong hn hm2 h' hN hL
    rw [hall8, lg1] at hC
    obtain ⟨own, ho⟩ := own_ex hn hd
    obtain ⟨-, -, hEC⟩ := lay_all hn i2 hm1 h' ho (p0 := (fd zf ow 20, fd zf tr 20, fd zf tu 20)) (fun q hq => by show fd (fun j f => upd f j 0) ow 20 q = 0; rw [zero_fill, if_pos hq]) (fun q hq => by show fd (fun j f => upd f j 0) tr 20 q = 0; rw [zero_fill, if_pos hq]) (fun q hq => by show fd (fun j f => upd f j 0) tu 20 q = 0; rw [zero_fill, if_pos hq]) (Nat.le_refl n)
    generalize fd (g_oo n tb (fun i => lowb (mm i)) (lkf mm) (lkt mm)) (fd zf ow 20, fd zf tr 20, fd zf tu 20) n = P at hC hEC
    have hbest : g_low n (g_fill n c tb ro) = g_low n (h_E n c tb) := low_congr (fun s hs => fill_eq i2 hn c ro hs)
    rw [hbest] at hC
    obtain ⟨s0, hs0⟩ := low_mem (n := n) (h_E n c tb)
    have hb0 := en_bd (c := c) hk hn i4 i5 s0
    generalize g_low n (h_E n c tb) = best at hC hM hs0
    have hG : ∀ x, x < 2 ^ 20 → h_on n c tb (fd (h_lr tb (fun i => lowb (mm i)) (lkf mm) (lkt mm)) li n) (nI x) = c + EC P.1 P.2.1 P.2.2 x := fun x hx => by
      rw [hEC x, on_EC hn hm1 h' i2 li c hx]
    have hbd : ∀ x, x < 2 ^ 20 → -186480 ≤ (EC P.1 P.2.1 P.2.2 x).toInt ∧ (EC P.1 P.2.1 P.2.2 x).toInt ≤ 186480 := fun x hx => by
      have e1 := hG x hx
      rw [hon_sm] at e1
      have e2 : sm (fun i => sm (h_ov tb (fd (h_lr tb (fun i => lowb (mm i)) (lkf mm) (lkt mm)) li n) (nI x) i) (i + 1)) n = EC P.1 P.2.1 P.2.2 x := by grind
      rw [← e2]
      have := tri_bd (V := h_ov tb (fd (h_lr tb (fun i => lowb (mm i)) (lkf mm) (lkt mm)) li n) (nI x)) (B := 60 + 10 * (k : Int)) (by omega) (by omega) hn (fun i j hji hi => by
        rw [h_ov]
        split
        · exact i4 _ (by omega)
        · rw [ti_0]; omega)
      omega
    have hcE : ∀ x, x < 2 ^ 20 → (c + EC P.1 P.2.1 P.2.2 x).toInt = c.toInt + (EC P.1 P.2.1 P.2.2 x).toInt := fun x hx => by
      have := hbd x hx
      rw [ti_add (by omega) (by omega)]
    have hbt : best.toInt = c.toInt + (enb n tb (fun i => s0.testBit i)).toInt := by rw [hs0]; exact hb0.1
    have hB : ∀ x, x < 2 ^ 20 → -1000000 ≤ best.toInt - (c + EC P.1 P.2.1 P.2.2 x).toInt ∧ best.toInt - (c + EC P.1 P.2.1 P.2.2 x).toInt ≤ 1000000 := fun x hx => by
      have := hbd x hx
      rw [hcE x hx]
      omega
    have hCC : ∀ x, x < 2 ^ 20 → -100000000 ≤ (c + EC P.1 P.2.1 P.2.2 x).toInt ∧ (c + EC P.1 P.2.1 P.2.2 x).toInt ≤ 100000000 := fun x hx => by
      have := hbd x hx
      rw [hcE x hx]
      omega
    have hp := Nat.two_pow_pos (bc1 A 20)
    have r1 := (sm_model (G := EC P.1 P.2.1 P.2.2) hA hm1 hd hce hG hB (2 ^ bc1 A 20)).1
    have r2 := (sm_class (ow := P.1) (tr := P.2.1) (tu := P.2.2) hn hA hN hm hz hB hCC (T := 2 ^ bc1 A 20 - 1) (by omega)).1
    rw [show 2 ^ bc1 A 20 - 1 + 1 = 2 ^ bc1 A 20 by omega, mx_gray (sf best c (EC P.1 P.2.1 P.2.2) mm n A)] at r2
    rw [r1] at hM
    rw [r2] at hC
    exact ⟨_, _, _, hC, hM, Rel.mk' I0.up⟩
  · exact ⟨_, _, _, c_strong_no hn h, m_strong_no hn hm2 (hff ▸ h), Rel.mk' I0.up⟩
end
section
/-! constructors -/
theorem ix_newa {p : Program} {l : Launch} {e : Env} {R : Room} {s : State} {m : MethodId} {args : Array Value} {below : List Frame} {meth : Method} {c : Code} {H H0 : Heap} {locs : List Loc} {cells slots : Nat} {Q : State → Prop} {pc : Nat} {ls : Array Slot} {rest : List Value} {cc : ByteArray} {dC : Nat → ClassId} {dI : Nat → Nat → Nat} {cA : ClassId} {ws : va_W} {A : Nat → Prop} (hexec : p.tables.exec = Jvm.exec) (hb : c.code = cc) (harr : (Cond.arrayClass .int).before args s = true) (hK : va_K (dC, dI) vwCl [(cA, .int)] s) (hP : va_P (dC, dI) vwCl ws H) (hD : va_D A ws) (hS : va_S A H0 H locs) (hA : ∀ q, H0.size ≤ q → A q)
    (N : Nat) (hN : N ≤ 1000) (hcells : cells + 1 ≤ R.cells) (hslots : slots + N ≤ R.slots) (hdg : decode cc pc = .ok (.newarray .int, 2))
    (kk : ∀ (q : Nat) (H1 : Heap), va_P (dC, dI) vwCl (ws ++ [(q, .inl (cA, N, .inl (fun _ => 0)))]) H1 → va_D A (ws ++ [(q, .inl (cA, N, .inl (fun _ => 0)))]) → va_S A H0 H1 locs → W p l e R s m args below meth c H1 locs (cells + 1) (slots + N) Q (F0 m (pc + 2) ls (.ref q :: rest))) : W p l e R s m args below meth c H locs cells slots Q (F0 m pc ls (.int (nI N) :: rest)) := by
  refine va_newa (atype := .int) (ty := .int) (a0 := (N, .inl (fun _ => 0))) hexec hb harr rfl hK hP hD hS hA (fun cA => rfl) (nI_pos (by omega)) (nI_clamp (by omega)) (by show N * 4 ≤ 536870912; omega) hcells hslots hdg (fun q cB H1 hK1 hP1 hD1 hS1 => ?_)
  have h1 : s.vm.findClass ("[" ++ FieldType.int.toString) = some cA := (hK.2 0 _ rfl).2
  have h2 : s.vm.findClass ("[" ++ FieldType.int.toString) = some cB := (hK1.2 1 _ rfl).2
  rw [h1] at h2
  cases h2
  exact kk q H1 hP1 hD1 hS1
theorem n_good {y : MethodName} {bytes : ByteArray} {n : Nat} {r : Option FieldType} (hc : .code y bytes n r ∈ ix_gw) : GoodIn ix_gw (.code y bytes n r :: ix_gw) := by
  intro w hw
  rcases List.mem_cons.mp hw with h | h
  · rw [h]; exact ⟨hc, ix_gw_good hc⟩
  · exact ⟨h, ix_gw_good h⟩
theorem dX3_init_0 : decode cX3_init 0 = .ok (.aload_n 0, 1) := by decide +kernel
theorem dX3_init_1 : decode cX3_init 1 = .ok (.invokespecial 3, 3) := by decide +kernel
theorem dX3_init_4 : decode cX3_init 4 = .ok (.aload_n 0, 1) := by decide +kernel
theorem dX3_init_5 : decode cX3_init 5 = .ok (.bipush 64, 2) := by decide +kernel
theorem dX3_init_7 : decode cX3_init 7 = .ok (.newarray .int, 2) := by decide +kernel
theorem dX3_init_9 : decode cX3_init 9 = .ok (.putfield 9, 3) := by decide +kernel
theorem dX3_init_12 : decode cX3_init 12 = .ok (.aload_n 0, 1) := by decide +kernel
theorem dX3_init_13 : decode cX3_init 13 = .ok (.bipush 64, 2) := by decide +kernel
theorem dX3_init_15 : decode cX3_init 15 = .ok (.newarray .int, 2) := by decide +kernel
theorem dX3_init_17 : decode cX3_init 17 = .ok (.putfield 15, 3) := by decide +kernel
theorem dX3_init_20 : decode cX3_init 20 = .ok (.aload_n 0, 1) := by decide +kernel
theorem dX3_init_21 : decode cX3_init 21 = .ok (.iconst 4, 1) := by decide +kernel
theorem dX3_init_22 : decode cX3_init 22 = .ok (.putfield 18, 3) := by decide +kernel
theorem dX3_init_25 : decode cX3_init 25 = .ok (.aload_n 0, 1) := by decide +kernel
theorem dX3_init_26 : decode cX3_init 26 = .ok (.iconst 0, 1) := by decide +kernel
theorem dX3_init_27 : decode cX3_init 27 = .ok (.putfield 22, 3) := by decide +kernel
theorem dX3_init_30 : decode cX3_init 30 = .ok (.return_, 1) := by decide +kernel
set_option maxHeartbeats 4000000 in
set_option maxRecDepth 100000 in
theorem n_X3 (l : Launch) (dC : Nat → ClassId) (dI : Nat → Nat → Nat) (cA : ClassId) (h0 sz : Nat) : Met l yX3_init (.code yX3_init cX3_init 1 none :: ix_gw) ({ frames := 1, cells := 2, slots := 128, locals := 12 }) (va_Pc [.ref h0] (fun U => U.heap.size = sz ∧ va_P (dC, dI) vwCl [(h0, .inr (3, [.null, .null, .int 0, .int 0]))] U.heap ∧ va_K (dC, dI) vwCl [(cA, .int)] U ∧ va_D (fun _ => True) [(h0, .inr (3, [.null, .null, .int 0, .int 0]))])) (va_Qv (fun _ : Nat → Nat => True) (fun u t => va_P (dC, dI) vwCl [(h0, .inr (3, [.ref (u 0), .ref (u 1), .int 4, .int 0])), ((u 0), .inl (cA, 64, .inl (fun _ => 0))), ((u 1), .inl (cA, 64, .inl (fun _ => 0)))] t.heap ∧ va_K (dC, dI) vwCl [(cA, .int)] t ∧ va_D (va_A [(h0, .inr (3, [.null, .null, .int 0, .int 0]))] sz) [(h0, .inr (3, [.ref (u 0), .ref (u 1), .int 4, .int 0])), ((u 0), .inl (cA, 64, .inl (fun _ => 0))), ((u 1), .inl (cA, 64, .inl (fun _ => 0)))]) (va_A [(h0, .inr (3, [.null, .null, .int 0, .int 0]))] sz)) 2 128 (va_A [(h0, .inr (3, [.null, .null, .int 0, .int 0]))] sz) := by
  refine ix_ofW (cc := cX3_init) (maxL := 1) (ret := none) (by decide +kernel) rfl ?_
  intro p e s m args below meth c s₁ B hml hv
  obtain ⟨rfl, hsz, hP, hK, hD0⟩ := hv
  have hx := B.exec
  have hb := B.bytes
  have hr := B.returns
  have hts0 := atoms_spec (ws := .code yX3_init cX3_init 1 none :: ix_gw) B.pre
  have hts : ∀ w ∈ ix_gw, w.before ([Value.ref h0] : List Value).toArray s = true := fun w hw => hts0 w (List.mem_cons_of_mem _ hw)
  have hown : s.vm.findClass RX3 = some m.cls := findClass_of_methodNamed B.named
  have hlocks := B.notSynchronized
  have hin : meth.name = "<init>" := (name_of_methodNamed B.named B.method).1
  have harr : (Cond.arrayClass .int).before ([Value.ref h0] : List Value).toArray s = true := (hts (.arrayClass .int) (ix_wd_in (j := 71) (by decide +kernel)))
  subst hsz
  have hD := hD0.self (sz := s.heap.size)
  generalize hAe : va_A [(h0, .inr (3, [.null, .null, .int 0, .int 0]))] s.heap.size = A at hD ⊢
  have hA : ∀ q : Nat, s.heap.size ≤ q → A q := fun q h => by rw [← hAe]; exact Or.inr h
  have hS : va_S A s.heap s.heap [] := va_S.rf
  have hl := lv_entry ([.ref h0]) (n := 1) (Nat.le_of_ble_eq_true rfl)
  rw [lg_entry_eq]
  generalize (lg_sl ([.ref h0]) ++ List.replicate (1 - (lg_sl ([.ref h0])).length) Slot.unset).toArray = ls at hl ⊢
  have hl : lv_has ls 1 [(0, .ref h0)] := hl
  refine lv_aload_n hx hb dX3_init_0 rfl (lv_at hl 0 rfl) ?_
  refine W.objInit hx hb hown (hts (.methodLink RX3 3 objectInit) (ix_wd_in (j := 57) (by decide +kernel))) (hts (.instanceMethod objectInit) (ix_wd_in (j := 50) (by decide +kernel))) (hts (.code objectInit ⟨#[0xb1]⟩ 1 none) (ix_wd_in (j := 51) (by decide +kernel))) rfl (by rw [hml]; exact hl.1) rfl dX3_init_1 (Nat.le_of_ble_eq_true rfl) (Nat.le_of_ble_eq_true rfl) ?_
  refine W.eq (g2 := F0 m 4 ls []) rfl ?_
  refine lv_aload_n hx hb dX3_init_4 rfl (lv_at hl 0 rfl) ?_
  refine lv_bipush (v := nI 64) hx hb dX3_init_5 (by decide) ?_
  refine ix_newa hx hb harr hK hP hD hS hA 64 (by decide) (Nat.le_of_ble_eq_true rfl) (Nat.le_of_ble_eq_true rfl) dX3_init_7 (fun q0 H hP hD hS => ?_)
  have hP : va_P (dC, dI) vwCl [(h0, .inr (3, [.null, .null, .int 0, .int 0])), (q0, .inl (cA, 64, .inl (fun _ => 0)))] H := hP
  have hD : va_D A [(h0, .inr (3, [.null, .null, .int 0, .int 0])), (q0, .inl (cA, 64, .inl (fun _ => 0)))] := hD
  refine W.widen (k := 1) (n := 64) (Nat.le_of_ble_eq_true rfl) (Nat.le_of_ble_eq_true rfl) ?_
  refine va_putF (D := (dC, dI)) (ci := 3) (v := .ref q0) (ty := .array .int) (C := RX3) (T := TX3) (N := 4) hx hb hts ix_uw3 tyX3 tyX3_ok nmX3 hown hK hP hD hS 0 rfl rfl 0 (by decide) (hts (.fieldLink RX3 9 "ColdGrid$Weights" "table" "[I") (ix_wd_in (j := 58) (by decide +kernel))) (fun _ h9 => h9) rfl hin rfl (by decide +kernel) rfl rfl (Nat.le_of_ble_eq_true rfl) dX3_init_9 (fun H locs hP hD hS => ?_)
  have hP : va_P (dC, dI) vwCl [(h0, .inr (3, [.ref q0, .null, .int 0, .int 0])), (q0, .inl (cA, 64, .inl (fun _ => 0)))] H := hP
  have hD : va_D A [(h0, .inr (3, [.ref q0, .null, .int 0, .int 0])), (q0, .inl (cA, 64, .inl (fun _ => 0)))] := hD
  refine lv_aload_n hx hb dX3_init_12 rfl (lv_at hl 0 rfl) ?_
  refine lv_bipush (v := nI 64) hx hb dX3_init_13 (by decide) ?_
  refine ix_newa hx hb harr hK hP hD hS hA 64 (by decide) (Nat.le_of_ble_eq_true rfl) (Nat.le_of_ble_eq_true rfl) dX3_init_15 (fun q1 H hP hD hS => ?_)
  have hP : va_P (dC, dI) vwCl [(h0, .inr (3, [.ref q0, .null, .int 0, .int 0])), (q0, .inl (cA, 64, .inl (fun _ => 0))), (q1, .inl (cA, 64, .inl (fun _ => 0)))] H := hP
  have hD : va_D A [(h0, .inr (3, [.ref q0, .null, .int 0, .int 0])), (q0, .inl (cA, 64, .inl (fun _ => 0))), (q1, .inl (cA, 64, .inl (fun _ => 0)))] := hD
  refine W.widen (k := 2) (n := 128) (Nat.le_of_ble_eq_true rfl) (Nat.le_of_ble_eq_true rfl) ?_
  refine va_putF (D := (dC, dI)) (ci := 3) (v := .ref q1) (ty := .array .int) (C := RX3) (T := TX3) (N := 4) hx hb hts ix_uw3 tyX3 tyX3_ok nmX3 hown hK hP hD hS 0 rfl rfl 1 (by decide) (hts (.fieldLink RX3 15 "ColdGrid$Weights" "turned" "[I") (ix_wd_in (j := 59) (by decide +kernel))) (fun _ h9 => h9) rfl hin rfl (by decide +kernel) rfl rfl (Nat.le_of_ble_eq_true rfl) dX3_init_17 (fun H locs hP hD hS => ?_)
  have hP : va_P (dC, dI) vwCl [(h0, .inr (3, [.ref q0, .ref q1, .int 0, .int 0])), (q0, .inl (cA, 64, .inl (fun _ => 0))), (q1, .inl (cA, 64, .inl (fun _ => 0)))] H := hP
  have hD : va_D A [(h0, .inr (3, [.ref q0, .ref q1, .int 0, .int 0])), (q0, .inl (cA, 64, .inl (fun _ => 0))), (q1, .inl (cA, 64, .inl (fun _ => 0)))] := hD
  refine lv_aload_n hx hb dX3_init_20 rfl (lv_at hl 0 rfl) ?_
  refine lv_iconst (v := 4) hx hb dX3_init_21 (by decide) ?_
  refine va_put (D := (dC, dI)) (ci := 3) (v := .int 4) (ty := .int) (C := RX3) (T := TX3) (N := 4) hx hb hts ix_uw3 tyX3 tyX3_ok nmX3 hown hK hP hD hS 0 rfl rfl 2 (by decide) (hts (.fieldLink RX3 18 "ColdGrid$Weights" "n" "I") (ix_wd_in (j := 60) (by decide +kernel))) (fun _ h9 => h9) rfl (by decide +kernel) rfl rfl (Nat.le_of_ble_eq_true rfl) dX3_init_22 (fun H locs hP hD hS => ?_)
  have hP : va_P (dC, dI) vwCl [(h0, .inr (3, [.ref q0, .ref q1, .int 4, .int 0])), (q0, .inl (cA, 64, .inl (fun _ => 0))), (q1, .inl (cA, 64, .inl (fun _ => 0)))] H := hP
  have hD : va_D A [(h0, .inr (3, [.ref q0, .ref q1, .int 4, .int 0])), (q0, .inl (cA, 64, .inl (fun _ => 0))), (q1, .inl (cA, 64, .inl (fun _ => 0)))] := hD
  refine lv_aload_n hx hb dX3_init_25 rfl (lv_at hl 0 rfl) ?_
  refine lv_iconst (v := 0) hx hb dX3_init_26 (by decide) ?_
  refine va_put (D := (dC, dI)) (ci := 3) (v := .int 0) (ty := .int) (C := RX3) (T := TX3) (N := 4) hx hb hts ix_uw3 tyX3 tyX3_ok nmX3 hown hK hP hD hS 0 rfl rfl 3 (by decide) (hts (.fieldLink RX3 22 "ColdGrid$Weights" "constant" "I") (ix_wd_in (j := 61) (by decide +kernel))) (fun _ h9 => h9) rfl (by decide +kernel) rfl rfl (Nat.le_of_ble_eq_true rfl) dX3_init_27 (fun H locs hP hD hS => ?_)
  have hP : va_P (dC, dI) vwCl [(h0, .inr (3, [.ref q0, .ref q1, .int 4, .int 0])), (q0, .inl (cA, 64, .inl (fun _ => 0))), (q1, .inl (cA, 64, .inl (fun _ => 0)))] H := hP
  have hD : va_D A [(h0, .inr (3, [.ref q0, .ref q1, .int 4, .int 0])), (q0, .inl (cA, 64, .inl (fun _ => 0))), (q1, .inl (cA, 64, .inl (fun _ => 0)))] := hD
  exact W.vret hx hb hr (fun t ht hW => ⟨⟨fun i => [q0, q1].getD i 0, rfl, trivial, by rw [ht]; exact hP, va_K.moved hW.alike hK, hD⟩, hS.F ht⟩) hS.2.2 dX3_init_30
theorem dX2_init_0 : decode cX2_init 0 = .ok (.aload_n 0, 1) := by decide +kernel
theorem dX2_init_1 : decode cX2_init 1 = .ok (.invokespecial 3, 3) := by decide +kernel
theorem dX2_init_4 : decode cX2_init 4 = .ok (.aload_n 0, 1) := by decide +kernel
theorem dX2_init_5 : decode cX2_init 5 = .ok (.bipush 6, 2) := by decide +kernel
theorem dX2_init_7 : decode cX2_init 7 = .ok (.newarray .int, 2) := by decide +kernel
theorem dX2_init_9 : decode cX2_init 9 = .ok (.putfield 11, 3) := by decide +kernel
theorem dX2_init_12 : decode cX2_init 12 = .ok (.aload_n 0, 1) := by decide +kernel
theorem dX2_init_13 : decode cX2_init 13 = .ok (.bipush 6, 2) := by decide +kernel
theorem dX2_init_15 : decode cX2_init 15 = .ok (.newarray .int, 2) := by decide +kernel
theorem dX2_init_17 : decode cX2_init 17 = .ok (.putfield 15, 3) := by decide +kernel
theorem dX2_init_20 : decode cX2_init 20 = .ok (.aload_n 0, 1) := by decide +kernel
theorem dX2_init_21 : decode cX2_init 21 = .ok (.iconst 0, 1) := by decide +kernel
theorem dX2_init_22 : decode cX2_init 22 = .ok (.putfield 18, 3) := by decide +kernel
theorem dX2_init_25 : decode cX2_init 25 = .ok (.return_, 1) := by decide +kernel
set_option maxHeartbeats 4000000 in
set_option maxRecDepth 100000 in
theorem n_X2 (l : Launch) (dC : Nat → ClassId) (dI : Nat → Nat → Nat) (cA : ClassId) (h0 sz : Nat) : Met l yX2_init (.code yX2_init cX2_init 1 none :: ix_gw) ({ frames := 1, cells := 2, slots := 12, locals := 12 }) (va_Pc [.ref h0] (fun U => U.heap.size = sz ∧ va_P (dC, dI) vwCl [(h0, .inr (2, [.null, .null, .int 0]))] U.heap ∧ va_K (dC, dI) vwCl [(cA, .int)] U ∧ va_D (fun _ => True) [(h0, .inr (2, [.null, .null, .int 0]))])) (va_Qv (fun _ : Nat → Nat => True) (fun u t => va_P (dC, dI) vwCl [(h0, .inr (2, [.ref (u 0), .ref (u 1), .int 0])), ((u 0), .inl (cA, 6, .inl (fun _ => 0))), ((u 1), .inl (cA, 6, .inl (fun _ => 0)))] t.heap ∧ va_K (dC, dI) vwCl [(cA, .int)] t ∧ va_D (va_A [(h0, .inr (2, [.null, .null, .int 0]))] sz) [(h0, .inr (2, [.ref (u 0), .ref (u 1), .int 0])), ((u 0), .inl (cA, 6, .inl (fun _ => 0))), ((u 1), .inl (cA, 6, .inl (fun _ => 0)))]) (va_A [(h0, .inr (2, [.null, .null, .int 0]))] sz)) 2 12 (va_A [(h0, .inr (2, [.null, .null, .int 0]))] sz) := by
  refine ix_ofW (cc := cX2_init) (maxL := 1) (ret := none) (by decide +kernel) rfl ?_
  intro p e s m args below meth c s₁ B hml hv
  obtain ⟨rfl, hsz, hP, hK, hD0⟩ := hv
  have hx := B.exec
  have hb := B.bytes
  have hr := B.returns
  have hts0 := atoms_spec (ws := .code yX2_init cX2_init 1 none :: ix_gw) B.pre
  have hts : ∀ w ∈ ix_gw, w.before ([Value.ref h0] : List Value).toArray s = true := fun w hw => hts0 w (List.mem_cons_of_mem _ hw)
  have hown : s.vm.findClass RX2 = some m.cls := findClass_of_methodNamed B.named
  have hlocks := B.notSynchronized
  have hin : meth.name = "<init>" := (name_of_methodNamed B.named B.method).1
  have harr : (Cond.arrayClass .int).before ([Value.ref h0] : List Value).toArray s = true := (hts (.arrayClass .int) (ix_wd_in (j := 71) (by decide +kernel)))
  subst hsz
  have hD := hD0.self (sz := s.heap.size)
  generalize hAe : va_A [(h0, .inr (2, [.null, .null, .int 0]))] s.heap.size = A at hD ⊢
  have hA : ∀ q : Nat, s.heap.size ≤ q → A q := fun q h => by rw [← hAe]; exact Or.inr h
  have hS : va_S A s.heap s.heap [] := va_S.rf
  have hl := lv_entry ([.ref h0]) (n := 1) (Nat.le_of_ble_eq_true rfl)
  rw [lg_entry_eq]
  generalize (lg_sl ([.ref h0]) ++ List.replicate (1 - (lg_sl ([.ref h0])).length) Slot.unset).toArray = ls at hl ⊢
  have hl : lv_has ls 1 [(0, .ref h0)] := hl
  refine lv_aload_n hx hb dX2_init_0 rfl (lv_at hl 0 rfl) ?_
  refine W.objInit hx hb hown (hts (.methodLink RX2 3 objectInit) (ix_wd_in (j := 77) (by decide +kernel))) (hts (.instanceMethod objectInit) (ix_wd_in (j := 50) (by decide +kernel))) (hts (.code objectInit ⟨#[0xb1]⟩ 1 none) (ix_wd_in (j := 51) (by decide +kernel))) rfl (by rw [hml]; exact hl.1) rfl dX2_init_1 (Nat.le_of_ble_eq_true rfl) (Nat.le_of_ble_eq_true rfl) ?_
  refine W.eq (g2 := F0 m 4 ls []) rfl ?_
  refine lv_aload_n hx hb dX2_init_4 rfl (lv_at hl 0 rfl) ?_
  refine lv_bipush (v := nI 6) hx hb dX2_init_5 (by decide) ?_
  refine ix_newa hx hb harr hK hP hD hS hA 6 (by decide) (Nat.le_of_ble_eq_true rfl) (Nat.le_of_ble_eq_true rfl) dX2_init_7 (fun q0 H hP hD hS => ?_)
  have hP : va_P (dC, dI) vwCl [(h0, .inr (2, [.null, .null, .int 0])), (q0, .inl (cA, 6, .inl (fun _ => 0)))] H := hP
  have hD : va_D A [(h0, .inr (2, [.null, .null, .int 0])), (q0, .inl (cA, 6, .inl (fun _ => 0)))] := hD
  refine W.widen (k := 1) (n := 6) (Nat.le_of_ble_eq_true rfl) (Nat.le_of_ble_eq_true rfl) ?_
  refine va_putF (D := (dC, dI)) (ci := 2) (v := .ref q0) (ty := .array .int) (C := RX2) (T := TX2) (N := 3) hx hb hts ix_uw2 tyX2 tyX2_ok nmX2 hown hK hP hD hS 0 rfl rfl 0 (by decide) (hts (.fieldLink RX2 11 "ColdGrid$Laws" "sets" "[I") (ix_wd_in (j := 78) (by decide +kernel))) (fun _ h9 => h9) rfl hin rfl (by decide +kernel) rfl rfl (Nat.le_of_ble_eq_true rfl) dX2_init_9 (fun H locs hP hD hS => ?_)
  have hP : va_P (dC, dI) vwCl [(h0, .inr (2, [.ref q0, .null, .int 0])), (q0, .inl (cA, 6, .inl (fun _ => 0)))] H := hP
  have hD : va_D A [(h0, .inr (2, [.ref q0, .null, .int 0])), (q0, .inl (cA, 6, .inl (fun _ => 0)))] := hD
  refine lv_aload_n hx hb dX2_init_12 rfl (lv_at hl 0 rfl) ?_
  refine lv_bipush (v := nI 6) hx hb dX2_init_13 (by decide) ?_
  refine ix_newa hx hb harr hK hP hD hS hA 6 (by decide) (Nat.le_of_ble_eq_true rfl) (Nat.le_of_ble_eq_true rfl) dX2_init_15 (fun q1 H hP hD hS => ?_)
  have hP : va_P (dC, dI) vwCl [(h0, .inr (2, [.ref q0, .null, .int 0])), (q0, .inl (cA, 6, .inl (fun _ => 0))), (q1, .inl (cA, 6, .inl (fun _ => 0)))] H := hP
  have hD : va_D A [(h0, .inr (2, [.ref q0, .null, .int 0])), (q0, .inl (cA, 6, .inl (fun _ => 0))), (q1, .inl (cA, 6, .inl (fun _ => 0)))] := hD
  refine W.widen (k := 2) (n := 12) (Nat.le_of_ble_eq_true rfl) (Nat.le_of_ble_eq_true rfl) ?_
  refine va_putF (D := (dC, dI)) (ci := 2) (v := .ref q1) (ty := .array .int) (C := RX2) (T := TX2) (N := 3) hx hb hts ix_uw2 tyX2 tyX2_ok nmX2 hown hK hP hD hS 0 rfl rfl 1 (by decide) (hts (.fieldLink RX2 15 "ColdGrid$Laws" "ones" "[I") (ix_wd_in (j := 79) (by decide +kernel))) (fun _ h9 => h9) rfl hin rfl (by decide +kernel) rfl rfl (Nat.le_of_ble_eq_true rfl) dX2_init_17 (fun H locs hP hD hS => ?_)
  have hP : va_P (dC, dI) vwCl [(h0, .inr (2, [.ref q0, .ref q1, .int 0])), (q0, .inl (cA, 6, .inl (fun _ => 0))), (q1, .inl (cA, 6, .inl (fun _ => 0)))] H := hP
  have hD : va_D A [(h0, .inr (2, [.ref q0, .ref q1, .int 0])), (q0, .inl (cA, 6, .inl (fun _ => 0))), (q1, .inl (cA, 6, .inl (fun _ => 0)))] := hD
  refine lv_aload_n hx hb dX2_init_20 rfl (lv_at hl 0 rfl) ?_
  refine lv_iconst (v := 0) hx hb dX2_init_21 (by decide) ?_
  refine va_put (D := (dC, dI)) (ci := 2) (v := .int 0) (ty := .int) (C := RX2) (T := TX2) (N := 3) hx hb hts ix_uw2 tyX2 tyX2_ok nmX2 hown hK hP hD hS 0 rfl rfl 2 (by decide) (hts (.fieldLink RX2 18 "ColdGrid$Laws" "told" "I") (ix_wd_in (j := 80) (by decide +kernel))) (fun _ h9 => h9) rfl (by decide +kernel) rfl rfl (Nat.le_of_ble_eq_true rfl) dX2_init_22 (fun H locs hP hD hS => ?_)
  have hP : va_P (dC, dI) vwCl [(h0, .inr (2, [.ref q0, .ref q1, .int 0])), (q0, .inl (cA, 6, .inl (fun _ => 0))), (q1, .inl (cA, 6, .inl (fun _ => 0)))] H := hP
  have hD : va_D A [(h0, .inr (2, [.ref q0, .ref q1, .int 0])), (q0, .inl (cA, 6, .inl (fun _ => 0))), (q1, .inl (cA, 6, .inl (fun _ => 0)))] := hD
  exact W.vret hx hb hr (fun t ht hW => ⟨⟨fun i => [q0, q1].getD i 0, rfl, trivial, by rw [ht]; exact hP, va_K.moved hW.alike hK, hD⟩, hS.F ht⟩) hS.2.2 dX2_init_25
theorem dX1_init_0 : decode cX1_init 0 = .ok (.aload_n 0, 1) := by decide +kernel
theorem dX1_init_1 : decode cX1_init 1 = .ok (.invokespecial 5, 3) := by decide +kernel
theorem dX1_init_4 : decode cX1_init 4 = .ok (.aload_n 0, 1) := by decide +kernel
theorem dX1_init_5 : decode cX1_init 5 = .ok (.bipush 8, 2) := by decide +kernel
theorem dX1_init_7 : decode cX1_init 7 = .ok (.newarray .int, 2) := by decide +kernel
theorem dX1_init_9 : decode cX1_init 9 = .ok (.putfield 11, 3) := by decide +kernel
theorem dX1_init_12 : decode cX1_init 12 = .ok (.aload_n 0, 1) := by decide +kernel
theorem dX1_init_13 : decode cX1_init 13 = .ok (.iconst 0, 1) := by decide +kernel
theorem dX1_init_14 : decode cX1_init 14 = .ok (.putfield 15, 3) := by decide +kernel
theorem dX1_init_17 : decode cX1_init 17 = .ok (.return_, 1) := by decide +kernel
set_option maxHeartbeats 4000000 in
set_option maxRecDepth 100000 in
theorem n_X1 (l : Launch) (dC : Nat → ClassId) (dI : Nat → Nat → Nat) (cA : ClassId) (h0 sz : Nat) : Met l yX1_init (.code yX1_init cX1_init 1 none :: ix_gw) ({ frames := 1, cells := 1, slots := 8, locals := 12 }) (va_Pc [.ref h0] (fun U => U.heap.size = sz ∧ va_P (dC, dI) vwCl [(h0, .inr (1, [.null, .int 0]))] U.heap ∧ va_K (dC, dI) vwCl [(cA, .int)] U ∧ va_D (fun _ => True) [(h0, .inr (1, [.null, .int 0]))])) (va_Qv (fun _ : Nat → Nat => True) (fun u t => va_P (dC, dI) vwCl [(h0, .inr (1, [.ref (u 0), .int 0])), ((u 0), .inl (cA, 8, .inl (fun _ => 0)))] t.heap ∧ va_K (dC, dI) vwCl [(cA, .int)] t ∧ va_D (va_A [(h0, .inr (1, [.null, .int 0]))] sz) [(h0, .inr (1, [.ref (u 0), .int 0])), ((u 0), .inl (cA, 8, .inl (fun _ => 0)))]) (va_A [(h0, .inr (1, [.null, .int 0]))] sz)) 1 8 (va_A [(h0, .inr (1, [.null, .int 0]))] sz) := by
  refine ix_ofW (cc := cX1_init) (maxL := 1) (ret := none) (by decide +kernel) rfl ?_
  intro p e s m args below meth c s₁ B hml hv
  obtain ⟨rfl, hsz, hP, hK, hD0⟩ := hv
  have hx := B.exec
  have hb := B.bytes
  have hr := B.returns
  have hts0 := atoms_spec (ws := .code yX1_init cX1_init 1 none :: ix_gw) B.pre
  have hts : ∀ w ∈ ix_gw, w.before ([Value.ref h0] : List Value).toArray s = true := fun w hw => hts0 w (List.mem_cons_of_mem _ hw)
  have hown : s.vm.findClass RX1 = some m.cls := findClass_of_methodNamed B.named
  have hlocks := B.notSynchronized
  have hin : meth.name = "<init>" := (name_of_methodNamed B.named B.method).1
  have harr : (Cond.arrayClass .int).before ([Value.ref h0] : List Value).toArray s = true := (hts (.arrayClass .int) (ix_wd_in (j := 71) (by decide +kernel)))
  subst hsz
  have hD := hD0.self (sz := s.heap.size)
  generalize hAe : va_A [(h0, .inr (1, [.null, .int 0]))] s.heap.size = A at hD ⊢
  have hA : ∀ q : Nat, s.heap.size ≤ q → A q := fun q h => by rw [← hAe]; exact Or.inr h
  have hS : va_S A s.heap s.heap [] := va_S.rf
  have hl := lv_entry ([.ref h0]) (n := 1) (Nat.le_of_ble_eq_true rfl)
  rw [lg_entry_eq]
  generalize (lg_sl ([.ref h0]) ++ List.replicate (1 - (lg_sl ([.ref h0])).length) Slot.unset).toArray = ls at hl ⊢
  have hl : lv_has ls 1 [(0, .ref h0)] := hl
  refine lv_aload_n hx hb dX1_init_0 rfl (lv_at hl 0 rfl) ?_
  refine W.objInit hx hb hown (hts (.methodLink RX1 5 objectInit) (ix_wd_in (j := 93) (by decide +kernel))) (hts (.instanceMethod objectInit) (ix_wd_in (j := 50) (by decide +kernel))) (hts (.code objectInit ⟨#[0xb1]⟩ 1 none) (ix_wd_in (j := 51) (by decide +kernel))) rfl (by rw [hml]; exact hl.1) rfl dX1_init_1 (Nat.le_of_ble_eq_true rfl) (Nat.le_of_ble_eq_true rfl) ?_
  refine W.eq (g2 := F0 m 4 ls []) rfl ?_
  refine lv_aload_n hx hb dX1_init_4 rfl (lv_at hl 0 rfl) ?_
  refine lv_bipush (v := nI 8) hx hb dX1_init_5 (by decide) ?_
  refine ix_newa hx hb harr hK hP hD hS hA 8 (by decide) (Nat.le_of_ble_eq_true rfl) (Nat.le_of_ble_eq_true rfl) dX1_init_7 (fun q0 H hP hD hS => ?_)
  have hP : va_P (dC, dI) vwCl [(h0, .inr (1, [.null, .int 0])), (q0, .inl (cA, 8, .inl (fun _ => 0)))] H := hP
  have hD : va_D A [(h0, .inr (1, [.null, .int 0])), (q0, .inl (cA, 8, .inl (fun _ => 0)))] := hD
  refine W.widen (k := 1) (n := 8) (Nat.le_of_ble_eq_true rfl) (Nat.le_of_ble_eq_true rfl) ?_
  refine va_putF (D := (dC, dI)) (ci := 1) (v := .ref q0) (ty := .array .int) (C := RX1) (T := TX1) (N := 2) hx hb hts ix_uw1 tyX1 tyX1_ok nmX1 hown hK hP hD hS 0 rfl rfl 0 (by decide) (hts (.fieldLink RX1 11 "ColdGrid$Grid" "chains" "[I") (ix_wd_in (j := 94) (by decide +kernel))) (fun _ h9 => h9) rfl hin rfl (by decide +kernel) rfl rfl (Nat.le_of_ble_eq_true rfl) dX1_init_9 (fun H locs hP hD hS => ?_)
  have hP : va_P (dC, dI) vwCl [(h0, .inr (1, [.ref q0, .int 0])), (q0, .inl (cA, 8, .inl (fun _ => 0)))] H := hP
  have hD : va_D A [(h0, .inr (1, [.ref q0, .int 0])), (q0, .inl (cA, 8, .inl (fun _ => 0)))] := hD
  refine lv_aload_n hx hb dX1_init_12 rfl (lv_at hl 0 rfl) ?_
  refine lv_iconst (v := 0) hx hb dX1_init_13 (by decide) ?_
  refine va_put (D := (dC, dI)) (ci := 1) (v := .int 0) (ty := .int) (C := RX1) (T := TX1) (N := 2) hx hb hts ix_uw1 tyX1 tyX1_ok nmX1 hown hK hP hD hS 0 rfl rfl 1 (by decide) (hts (.fieldLink RX1 15 "ColdGrid$Grid" "dead" "I") (ix_wd_in (j := 95) (by decide +kernel))) (fun _ h9 => h9) rfl (by decide +kernel) rfl rfl (Nat.le_of_ble_eq_true rfl) dX1_init_14 (fun H locs hP hD hS => ?_)
  have hP : va_P (dC, dI) vwCl [(h0, .inr (1, [.ref q0, .int 0])), (q0, .inl (cA, 8, .inl (fun _ => 0)))] H := hP
  have hD : va_D A [(h0, .inr (1, [.ref q0, .int 0])), (q0, .inl (cA, 8, .inl (fun _ => 0)))] := hD
  exact W.vret hx hb hr (fun t ht hW => ⟨⟨fun i => [q0].getD i 0, rfl, trivial, by rw [ht]; exact hP, va_K.moved hW.alike hK, hD⟩, hS.F ht⟩) hS.2.2 dX1_init_17
theorem dX0_init_0 : decode cX0_init 0 = .ok (.aload_n 0, 1) := by decide +kernel
theorem dX0_init_1 : decode cX0_init 1 = .ok (.invokespecial 1, 3) := by decide +kernel
theorem dX0_init_4 : decode cX0_init 4 = .ok (.aload_n 0, 1) := by decide +kernel
theorem dX0_init_5 : decode cX0_init 5 = .ok (.bipush 20, 2) := by decide +kernel
theorem dX0_init_7 : decode cX0_init 7 = .ok (.newarray .int, 2) := by decide +kernel
theorem dX0_init_9 : decode cX0_init 9 = .ok (.putfield 9, 3) := by decide +kernel
theorem dX0_init_12 : decode cX0_init 12 = .ok (.aload_n 0, 1) := by decide +kernel
theorem dX0_init_13 : decode cX0_init 13 = .ok (.bipush 20, 2) := by decide +kernel
theorem dX0_init_15 : decode cX0_init 15 = .ok (.newarray .int, 2) := by decide +kernel
theorem dX0_init_17 : decode cX0_init 17 = .ok (.putfield 15, 3) := by decide +kernel
theorem dX0_init_20 : decode cX0_init 20 = .ok (.aload_n 0, 1) := by decide +kernel
theorem dX0_init_21 : decode cX0_init 21 = .ok (.bipush 20, 2) := by decide +kernel
theorem dX0_init_23 : decode cX0_init 23 = .ok (.newarray .int, 2) := by decide +kernel
theorem dX0_init_25 : decode cX0_init 25 = .ok (.putfield 18, 3) := by decide +kernel
theorem dX0_init_28 : decode cX0_init 28 = .ok (.aload_n 0, 1) := by decide +kernel
theorem dX0_init_29 : decode cX0_init 29 = .ok (.bipush 14, 2) := by decide +kernel
theorem dX0_init_31 : decode cX0_init 31 = .ok (.newarray .int, 2) := by decide +kernel
theorem dX0_init_33 : decode cX0_init 33 = .ok (.putfield 21, 3) := by decide +kernel
theorem dX0_init_36 : decode cX0_init 36 = .ok (.aload_n 0, 1) := by decide +kernel
theorem dX0_init_37 : decode cX0_init 37 = .ok (.iconst 0, 1) := by decide +kernel
theorem dX0_init_38 : decode cX0_init 38 = .ok (.putfield 24, 3) := by decide +kernel
theorem dX0_init_41 : decode cX0_init 41 = .ok (.aload_n 0, 1) := by decide +kernel
theorem dX0_init_42 : decode cX0_init 42 = .ok (.iconst 0, 1) := by decide +kernel
theorem dX0_init_43 : decode cX0_init 43 = .ok (.putfield 28, 3) := by decide +kernel
theorem dX0_init_46 : decode cX0_init 46 = .ok (.aload_n 0, 1) := by decide +kernel
theorem dX0_init_47 : decode cX0_init 47 = .ok (.iconst 0, 1) := by decide +kernel
theorem dX0_init_48 : decode cX0_init 48 = .ok (.putfield 31, 3) := by decide +kernel
theorem dX0_init_51 : decode cX0_init 51 = .ok (.aload_n 0, 1) := by decide +kernel
theorem dX0_init_52 : decode cX0_init 52 = .ok (.iconst 0, 1) := by decide +kernel
theorem dX0_init_53 : decode cX0_init 53 = .ok (.putfield 34, 3) := by decide +kernel
theorem dX0_init_56 : decode cX0_init 56 = .ok (.return_, 1) := by decide +kernel
set_option maxHeartbeats 4000000 in
set_option maxRecDepth 100000 in
theorem n_X0 (l : Launch) (dC : Nat → ClassId) (dI : Nat → Nat → Nat) (cA : ClassId) (h0 sz : Nat) : Met l yX0_init (.code yX0_init cX0_init 1 none :: ix_gw) ({ frames := 1, cells := 4, slots := 74, locals := 12 }) (va_Pc [.ref h0] (fun U => U.heap.size = sz ∧ va_P (dC, dI) vwCl [(h0, .inr (0, [.null, .null, .null, .null, .int 0, .int 0, .int 0, .int 0]))] U.heap ∧ va_K (dC, dI) vwCl [(cA, .int)] U ∧ va_D (fun _ => True) [(h0, .inr (0, [.null, .null, .null, .null, .int 0, .int 0, .int 0, .int 0]))])) (va_Qv (fun _ : Nat → Nat => True) (fun u t => va_P (dC, dI) vwCl [(h0, .inr (0, [.ref (u 0), .ref (u 1), .ref (u 2), .ref (u 3), .int 0, .int 0, .int 0, .int 0])), ((u 0), .inl (cA, 20, .inl (fun _ => 0))), ((u 1), .inl (cA, 20, .inl (fun _ => 0))), ((u 2), .inl (cA, 20, .inl (fun _ => 0))), ((u 3), .inl (cA, 14, .inl (fun _ => 0)))] t.heap ∧ va_K (dC, dI) vwCl [(cA, .int)] t ∧ va_D (va_A [(h0, .inr (0, [.null, .null, .null, .null, .int 0, .int 0, .int 0, .int 0]))] sz) [(h0, .inr (0, [.ref (u 0), .ref (u 1), .ref (u 2), .ref (u 3), .int 0, .int 0, .int 0, .int 0])), ((u 0), .inl (cA, 20, .inl (fun _ => 0))), ((u 1), .inl (cA, 20, .inl (fun _ => 0))), ((u 2), .inl (cA, 20, .inl (fun _ => 0))), ((u 3), .inl (cA, 14, .inl (fun _ => 0)))]) (va_A [(h0, .inr (0, [.null, .null, .null, .null, .int 0, .int 0, .int 0, .int 0]))] sz)) 4 74 (va_A [(h0, .inr (0, [.null, .null, .null, .null, .int 0, .int 0, .int 0, .int 0]))] sz) := by
  refine ix_ofW (cc := cX0_init) (maxL := 1) (ret := none) (by decide +kernel) rfl ?_
  intro p e s m args below meth c s₁ B hml hv
  obtain ⟨rfl, hsz, hP, hK, hD0⟩ := hv
  have hx := B.exec
  have hb := B.bytes
  have hr := B.returns
  have hts0 := atoms_spec (ws := .code yX0_init cX0_init 1 none :: ix_gw) B.pre
  have hts : ∀ w ∈ ix_gw, w.before ([Value.ref h0] : List Value).toArray s = true := fun w hw => hts0 w (List.mem_cons_of_mem _ hw)
  have hown : s.vm.findClass RX0 = some m.cls := findClass_of_methodNamed B.named
  have hlocks := B.notSynchronized
  have hin : meth.name = "<init>" := (name_of_methodNamed B.named B.method).1
  have harr : (Cond.arrayClass .int).before ([Value.ref h0] : List Value).toArray s = true := (hts (.arrayClass .int) (ix_wd_in (j := 71) (by decide +kernel)))
  subst hsz
  have hD := hD0.self (sz := s.heap.size)
  generalize hAe : va_A [(h0, .inr (0, [.null, .null, .null, .null, .int 0, .int 0, .int 0, .int 0]))] s.heap.size = A at hD ⊢
  have hA : ∀ q : Nat, s.heap.size ≤ q → A q := fun q h => by rw [← hAe]; exact Or.inr h
  have hS : va_S A s.heap s.heap [] := va_S.rf
  have hl := lv_entry ([.ref h0]) (n := 1) (Nat.le_of_ble_eq_true rfl)
  rw [lg_entry_eq]
  generalize (lg_sl ([.ref h0]) ++ List.replicate (1 - (lg_sl ([.ref h0])).length) Slot.unset).toArray = ls at hl ⊢
  have hl : lv_has ls 1 [(0, .ref h0)] := hl
  refine lv_aload_n hx hb dX0_init_0 rfl (lv_at hl 0 rfl) ?_
  refine W.objInit hx hb hown (hts (.methodLink RX0 1 objectInit) (ix_wd_in (j := 106) (by decide +kernel))) (hts (.instanceMethod objectInit) (ix_wd_in (j := 50) (by decide +kernel))) (hts (.code objectInit ⟨#[0xb1]⟩ 1 none) (ix_wd_in (j := 51) (by decide +kernel))) rfl (by rw [hml]; exact hl.1) rfl dX0_init_1 (Nat.le_of_ble_eq_true rfl) (Nat.le_of_ble_eq_true rfl) ?_
  refine W.eq (g2 := F0 m 4 ls []) rfl ?_
  refine lv_aload_n hx hb dX0_init_4 rfl (lv_at hl 0 rfl) ?_
  refine lv_bipush (v := nI 20) hx hb dX0_init_5 (by decide) ?_
  refine ix_newa hx hb harr hK hP hD hS hA 20 (by decide) (Nat.le_of_ble_eq_true rfl) (Nat.le_of_ble_eq_true rfl) dX0_init_7 (fun q0 H hP hD hS => ?_)
  have hP : va_P (dC, dI) vwCl [(h0, .inr (0, [.null, .null, .null, .null, .int 0, .int 0, .int 0, .int 0])), (q0, .inl (cA, 20, .inl (fun _ => 0)))] H := hP
  have hD : va_D A [(h0, .inr (0, [.null, .null, .null, .null, .int 0, .int 0, .int 0, .int 0])), (q0, .inl (cA, 20, .inl (fun _ => 0)))] := hD
  refine W.widen (k := 1) (n := 20) (Nat.le_of_ble_eq_true rfl) (Nat.le_of_ble_eq_true rfl) ?_
  refine va_putF (D := (dC, dI)) (ci := 0) (v := .ref q0) (ty := .array .int) (C := RX0) (T := TX0) (N := 8) hx hb hts ix_uw0 tyX0 tyX0_ok nmX0 hown hK hP hD hS 0 rfl rfl 0 (by decide) (hts (.fieldLink RX0 9 "ColdGrid$CellEnergy" "own" "[I") (ix_wd_in (j := 107) (by decide +kernel))) (fun _ h9 => h9) rfl hin rfl (by decide +kernel) rfl rfl (Nat.le_of_ble_eq_true rfl) dX0_init_9 (fun H locs hP hD hS => ?_)
  have hP : va_P (dC, dI) vwCl [(h0, .inr (0, [.ref q0, .null, .null, .null, .int 0, .int 0, .int 0, .int 0])), (q0, .inl (cA, 20, .inl (fun _ => 0)))] H := hP
  have hD : va_D A [(h0, .inr (0, [.ref q0, .null, .null, .null, .int 0, .int 0, .int 0, .int 0])), (q0, .inl (cA, 20, .inl (fun _ => 0)))] := hD
  refine lv_aload_n hx hb dX0_init_12 rfl (lv_at hl 0 rfl) ?_
  refine lv_bipush (v := nI 20) hx hb dX0_init_13 (by decide) ?_
  refine ix_newa hx hb harr hK hP hD hS hA 20 (by decide) (Nat.le_of_ble_eq_true rfl) (Nat.le_of_ble_eq_true rfl) dX0_init_15 (fun q1 H hP hD hS => ?_)
  have hP : va_P (dC, dI) vwCl [(h0, .inr (0, [.ref q0, .null, .null, .null, .int 0, .int 0, .int 0, .int 0])), (q0, .inl (cA, 20, .inl (fun _ => 0))), (q1, .inl (cA, 20, .inl (fun _ => 0)))] H := hP
  have hD : va_D A [(h0, .inr (0, [.ref q0, .null, .null, .null, .int 0, .int 0, .int 0, .int 0])), (q0, .inl (cA, 20, .inl (fun _ => 0))), (q1, .inl (cA, 20, .inl (fun _ => 0)))] := hD
  refine W.widen (k := 2) (n := 40) (Nat.le_of_ble_eq_true rfl) (Nat.le_of_ble_eq_true rfl) ?_
  refine va_putF (D := (dC, dI)) (ci := 0) (v := .ref q1) (ty := .array .int) (C := RX0) (T := TX0) (N := 8) hx hb hts ix_uw0 tyX0 tyX0_ok nmX0 hown hK hP hD hS 0 rfl rfl 1 (by decide) (hts (.fieldLink RX0 15 "ColdGrid$CellEnergy" "toRight" "[I") (ix_wd_in (j := 108) (by decide +kernel))) (fun _ h9 => h9) rfl hin rfl (by decide +kernel) rfl rfl (Nat.le_of_ble_eq_true rfl) dX0_init_17 (fun H locs hP hD hS => ?_)
  have hP : va_P (dC, dI) vwCl [(h0, .inr (0, [.ref q0, .ref q1, .null, .null, .int 0, .int 0, .int 0, .int 0])), (q0, .inl (cA, 20, .inl (fun _ => 0))), (q1, .inl (cA, 20, .inl (fun _ => 0)))] H := hP
  have hD : va_D A [(h0, .inr (0, [.ref q0, .ref q1, .null, .null, .int 0, .int 0, .int 0, .int 0])), (q0, .inl (cA, 20, .inl (fun _ => 0))), (q1, .inl (cA, 20, .inl (fun _ => 0)))] := hD
  refine lv_aload_n hx hb dX0_init_20 rfl (lv_at hl 0 rfl) ?_
  refine lv_bipush (v := nI 20) hx hb dX0_init_21 (by decide) ?_
  refine ix_newa hx hb harr hK hP hD hS hA 20 (by decide) (Nat.le_of_ble_eq_true rfl) (Nat.le_of_ble_eq_true rfl) dX0_init_23 (fun q2 H hP hD hS => ?_)
  have hP : va_P (dC, dI) vwCl [(h0, .inr (0, [.ref q0, .ref q1, .null, .null, .int 0, .int 0, .int 0, .int 0])), (q0, .inl (cA, 20, .inl (fun _ => 0))), (q1, .inl (cA, 20, .inl (fun _ => 0))), (q2, .inl (cA, 20, .inl (fun _ => 0)))] H := hP
  have hD : va_D A [(h0, .inr (0, [.ref q0, .ref q1, .null, .null, .int 0, .int 0, .int 0, .int 0])), (q0, .inl (cA, 20, .inl (fun _ => 0))), (q1, .inl (cA, 20, .inl (fun _ => 0))), (q2, .inl (cA, 20, .inl (fun _ => 0)))] := hD
  refine W.widen (k := 3) (n := 60) (Nat.le_of_ble_eq_true rfl) (Nat.le_of_ble_eq_true rfl) ?_
  refine va_putF (D := (dC, dI)) (ci := 0) (v := .ref q2) (ty := .array .int) (C := RX0) (T := TX0) (N := 8) hx hb hts ix_uw0 tyX0 tyX0_ok nmX0 hown hK hP hD hS 0 rfl rfl 2 (by decide) (hts (.fieldLink RX0 18 "ColdGrid$CellEnergy" "toBelow" "[I") (ix_wd_in (j := 109) (by decide +kernel))) (fun _ h9 => h9) rfl hin rfl (by decide +kernel) rfl rfl (Nat.le_of_ble_eq_true rfl) dX0_init_25 (fun H locs hP hD hS => ?_)
  have hP : va_P (dC, dI) vwCl [(h0, .inr (0, [.ref q0, .ref q1, .ref q2, .null, .int 0, .int 0, .int 0, .int 0])), (q0, .inl (cA, 20, .inl (fun _ => 0))), (q1, .inl (cA, 20, .inl (fun _ => 0))), (q2, .inl (cA, 20, .inl (fun _ => 0)))] H := hP
  have hD : va_D A [(h0, .inr (0, [.ref q0, .ref q1, .ref q2, .null, .int 0, .int 0, .int 0, .int 0])), (q0, .inl (cA, 20, .inl (fun _ => 0))), (q1, .inl (cA, 20, .inl (fun _ => 0))), (q2, .inl (cA, 20, .inl (fun _ => 0)))] := hD
  refine lv_aload_n hx hb dX0_init_28 rfl (lv_at hl 0 rfl) ?_
  refine lv_bipush (v := nI 14) hx hb dX0_init_29 (by decide) ?_
  refine ix_newa hx hb harr hK hP hD hS hA 14 (by decide) (Nat.le_of_ble_eq_true rfl) (Nat.le_of_ble_eq_true rfl) dX0_init_31 (fun q3 H hP hD hS => ?_)
  have hP : va_P (dC, dI) vwCl [(h0, .inr (0, [.ref q0, .ref q1, .ref q2, .null, .int 0, .int 0, .int 0, .int 0])), (q0, .inl (cA, 20, .inl (fun _ => 0))), (q1, .inl (cA, 20, .inl (fun _ => 0))), (q2, .inl (cA, 20, .inl (fun _ => 0))), (q3, .inl (cA, 14, .inl (fun _ => 0)))] H := hP
  have hD : va_D A [(h0, .inr (0, [.ref q0, .ref q1, .ref q2, .null, .int 0, .int 0, .int 0, .int 0])), (q0, .inl (cA, 20, .inl (fun _ => 0))), (q1, .inl (cA, 20, .inl (fun _ => 0))), (q2, .inl (cA, 20, .inl (fun _ => 0))), (q3, .inl (cA, 14, .inl (fun _ => 0)))] := hD
  refine W.widen (k := 4) (n := 74) (Nat.le_of_ble_eq_true rfl) (Nat.le_of_ble_eq_true rfl) ?_
  refine va_putF (D := (dC, dI)) (ci := 0) (v := .ref q3) (ty := .array .int) (C := RX0) (T := TX0) (N := 8) hx hb hts ix_uw0 tyX0 tyX0_ok nmX0 hown hK hP hD hS 0 rfl rfl 3 (by decide) (hts (.fieldLink RX0 21 "ColdGrid$CellEnergy" "laid" "[I") (ix_wd_in (j := 110) (by decide +kernel))) (fun _ h9 => h9) rfl hin rfl (by decide +kernel) rfl rfl (Nat.le_of_ble_eq_true rfl) dX0_init_33 (fun H locs hP hD hS => ?_)
  have hP : va_P (dC, dI) vwCl [(h0, .inr (0, [.ref q0, .ref q1, .ref q2, .ref q3, .int 0, .int 0, .int 0, .int 0])), (q0, .inl (cA, 20, .inl (fun _ => 0))), (q1, .inl (cA, 20, .inl (fun _ => 0))), (q2, .inl (cA, 20, .inl (fun _ => 0))), (q3, .inl (cA, 14, .inl (fun _ => 0)))] H := hP
  have hD : va_D A [(h0, .inr (0, [.ref q0, .ref q1, .ref q2, .ref q3, .int 0, .int 0, .int 0, .int 0])), (q0, .inl (cA, 20, .inl (fun _ => 0))), (q1, .inl (cA, 20, .inl (fun _ => 0))), (q2, .inl (cA, 20, .inl (fun _ => 0))), (q3, .inl (cA, 14, .inl (fun _ => 0)))] := hD
  refine lv_aload_n hx hb dX0_init_36 rfl (lv_at hl 0 rfl) ?_
  refine lv_iconst (v := 0) hx hb dX0_init_37 (by decide) ?_
  refine va_put (D := (dC, dI)) (ci := 0) (v := .int 0) (ty := .int) (C := RX0) (T := TX0) (N := 8) hx hb hts ix_uw0 tyX0 tyX0_ok nmX0 hown hK hP hD hS 0 rfl rfl 4 (by decide) (hts (.fieldLink RX0 24 "ColdGrid$CellEnergy" "laidCells" "I") (ix_wd_in (j := 111) (by decide +kernel))) (fun _ h9 => h9) rfl (by decide +kernel) rfl rfl (Nat.le_of_ble_eq_true rfl) dX0_init_38 (fun H locs hP hD hS => ?_)
  have hP : va_P (dC, dI) vwCl [(h0, .inr (0, [.ref q0, .ref q1, .ref q2, .ref q3, .int 0, .int 0, .int 0, .int 0])), (q0, .inl (cA, 20, .inl (fun _ => 0))), (q1, .inl (cA, 20, .inl (fun _ => 0))), (q2, .inl (cA, 20, .inl (fun _ => 0))), (q3, .inl (cA, 14, .inl (fun _ => 0)))] H := hP
  have hD : va_D A [(h0, .inr (0, [.ref q0, .ref q1, .ref q2, .ref q3, .int 0, .int 0, .int 0, .int 0])), (q0, .inl (cA, 20, .inl (fun _ => 0))), (q1, .inl (cA, 20, .inl (fun _ => 0))), (q2, .inl (cA, 20, .inl (fun _ => 0))), (q3, .inl (cA, 14, .inl (fun _ => 0)))] := hD
  refine lv_aload_n hx hb dX0_init_41 rfl (lv_at hl 0 rfl) ?_
  refine lv_iconst (v := 0) hx hb dX0_init_42 (by decide) ?_
  refine va_put (D := (dC, dI)) (ci := 0) (v := .int 0) (ty := .int) (C := RX0) (T := TX0) (N := 8) hx hb hts ix_uw0 tyX0 tyX0_ok nmX0 hown hK hP hD hS 0 rfl rfl 5 (by decide) (hts (.fieldLink RX0 28 "ColdGrid$CellEnergy" "constant" "I") (ix_wd_in (j := 112) (by decide +kernel))) (fun _ h9 => h9) rfl (by decide +kernel) rfl rfl (Nat.le_of_ble_eq_true rfl) dX0_init_43 (fun H locs hP hD hS => ?_)
  have hP : va_P (dC, dI) vwCl [(h0, .inr (0, [.ref q0, .ref q1, .ref q2, .ref q3, .int 0, .int 0, .int 0, .int 0])), (q0, .inl (cA, 20, .inl (fun _ => 0))), (q1, .inl (cA, 20, .inl (fun _ => 0))), (q2, .inl (cA, 20, .inl (fun _ => 0))), (q3, .inl (cA, 14, .inl (fun _ => 0)))] H := hP
  have hD : va_D A [(h0, .inr (0, [.ref q0, .ref q1, .ref q2, .ref q3, .int 0, .int 0, .int 0, .int 0])), (q0, .inl (cA, 20, .inl (fun _ => 0))), (q1, .inl (cA, 20, .inl (fun _ => 0))), (q2, .inl (cA, 20, .inl (fun _ => 0))), (q3, .inl (cA, 14, .inl (fun _ => 0)))] := hD
  refine lv_aload_n hx hb dX0_init_46 rfl (lv_at hl 0 rfl) ?_
  refine lv_iconst (v := 0) hx hb dX0_init_47 (by decide) ?_
  refine va_put (D := (dC, dI)) (ci := 0) (v := .int 0) (ty := .int) (C := RX0) (T := TX0) (N := 8) hx hb hts ix_uw0 tyX0 tyX0_ok nmX0 hown hK hP hD hS 0 rfl rfl 6 (by decide) (hts (.fieldLink RX0 31 "ColdGrid$CellEnergy" "boundToRight" "I") (ix_wd_in (j := 113) (by decide +kernel))) (fun _ h9 => h9) rfl (by decide +kernel) rfl rfl (Nat.le_of_ble_eq_true rfl) dX0_init_48 (fun H locs hP hD hS => ?_)
  have hP : va_P (dC, dI) vwCl [(h0, .inr (0, [.ref q0, .ref q1, .ref q2, .ref q3, .int 0, .int 0, .int 0, .int 0])), (q0, .inl (cA, 20, .inl (fun _ => 0))), (q1, .inl (cA, 20, .inl (fun _ => 0))), (q2, .inl (cA, 20, .inl (fun _ => 0))), (q3, .inl (cA, 14, .inl (fun _ => 0)))] H := hP
  have hD : va_D A [(h0, .inr (0, [.ref q0, .ref q1, .ref q2, .ref q3, .int 0, .int 0, .int 0, .int 0])), (q0, .inl (cA, 20, .inl (fun _ => 0))), (q1, .inl (cA, 20, .inl (fun _ => 0))), (q2, .inl (cA, 20, .inl (fun _ => 0))), (q3, .inl (cA, 14, .inl (fun _ => 0)))] := hD
  refine lv_aload_n hx hb dX0_init_51 rfl (lv_at hl 0 rfl) ?_
  refine lv_iconst (v := 0) hx hb dX0_init_52 (by decide) ?_
  refine va_put (D := (dC, dI)) (ci := 0) (v := .int 0) (ty := .int) (C := RX0) (T := TX0) (N := 8) hx hb hts ix_uw0 tyX0 tyX0_ok nmX0 hown hK hP hD hS 0 rfl rfl 7 (by decide) (hts (.fieldLink RX0 34 "ColdGrid$CellEnergy" "boundToBelow" "I") (ix_wd_in (j := 114) (by decide +kernel))) (fun _ h9 => h9) rfl (by decide +kernel) rfl rfl (Nat.le_of_ble_eq_true rfl) dX0_init_53 (fun H locs hP hD hS => ?_)
  have hP : va_P (dC, dI) vwCl [(h0, .inr (0, [.ref q0, .ref q1, .ref q2, .ref q3, .int 0, .int 0, .int 0, .int 0])), (q0, .inl (cA, 20, .inl (fun _ => 0))), (q1, .inl (cA, 20, .inl (fun _ => 0))), (q2, .inl (cA, 20, .inl (fun _ => 0))), (q3, .inl (cA, 14, .inl (fun _ => 0)))] H := hP
  have hD : va_D A [(h0, .inr (0, [.ref q0, .ref q1, .ref q2, .ref q3, .int 0, .int 0, .int 0, .int 0])), (q0, .inl (cA, 20, .inl (fun _ => 0))), (q1, .inl (cA, 20, .inl (fun _ => 0))), (q2, .inl (cA, 20, .inl (fun _ => 0))), (q3, .inl (cA, 14, .inl (fun _ => 0)))] := hD
  exact W.vret hx hb hr (fun t ht hW => ⟨⟨fun i => [q0, q1, q2, q3].getD i 0, rfl, trivial, by rw [ht]; exact hP, va_K.moved hW.alike hK, hD⟩, hS.F ht⟩) hS.2.2 dX0_init_56
theorem dX5_init_0 : decode cX5_init 0 = .ok (.aload_n 0, 1) := by decide +kernel
theorem dX5_init_1 : decode cX5_init 1 = .ok (.invokespecial 1, 3) := by decide +kernel
theorem dX5_init_4 : decode cX5_init 4 = .ok (.aload_n 0, 1) := by decide +kernel
theorem dX5_init_5 : decode cX5_init 5 = .ok (.iconst 4, 1) := by decide +kernel
theorem dX5_init_6 : decode cX5_init 6 = .ok (.putfield 7, 3) := by decide +kernel
theorem dX5_init_9 : decode cX5_init 9 = .ok (.aload_n 0, 1) := by decide +kernel
theorem dX5_init_10 : decode cX5_init 10 = .ok (.bipush 64, 2) := by decide +kernel
theorem dX5_init_12 : decode cX5_init 12 = .ok (.newarray .int, 2) := by decide +kernel
theorem dX5_init_14 : decode cX5_init 14 = .ok (.putfield 13, 3) := by decide +kernel
theorem dX5_init_17 : decode cX5_init 17 = .ok (.aload_n 0, 1) := by decide +kernel
theorem dX5_init_18 : decode cX5_init 18 = .ok (.bipush 6, 2) := by decide +kernel
theorem dX5_init_20 : decode cX5_init 20 = .ok (.newarray .int, 2) := by decide +kernel
theorem dX5_init_22 : decode cX5_init 22 = .ok (.putfield 17, 3) := by decide +kernel
theorem dX5_init_25 : decode cX5_init 25 = .ok (.aload_n 0, 1) := by decide +kernel
theorem dX5_init_26 : decode cX5_init 26 = .ok (.bipush 6, 2) := by decide +kernel
theorem dX5_init_28 : decode cX5_init 28 = .ok (.newarray .int, 2) := by decide +kernel
theorem dX5_init_30 : decode cX5_init 30 = .ok (.putfield 20, 3) := by decide +kernel
theorem dX5_init_33 : decode cX5_init 33 = .ok (.aload_n 0, 1) := by decide +kernel
theorem dX5_init_34 : decode cX5_init 34 = .ok (.bipush 8, 2) := by decide +kernel
theorem dX5_init_36 : decode cX5_init 36 = .ok (.newarray .int, 2) := by decide +kernel
theorem dX5_init_38 : decode cX5_init 38 = .ok (.putfield 23, 3) := by decide +kernel
theorem dX5_init_41 : decode cX5_init 41 = .ok (.aload_n 0, 1) := by decide +kernel
theorem dX5_init_42 : decode cX5_init 42 = .ok (.bipush 14, 2) := by decide +kernel
theorem dX5_init_44 : decode cX5_init 44 = .ok (.newarray .int, 2) := by decide +kernel
theorem dX5_init_46 : decode cX5_init 46 = .ok (.putfield 26, 3) := by decide +kernel
theorem dX5_init_49 : decode cX5_init 49 = .ok (.aload_n 0, 1) := by decide +kernel
theorem dX5_init_50 : decode cX5_init 50 = .ok (.bipush 64, 2) := by decide +kernel
theorem dX5_init_52 : decode cX5_init 52 = .ok (.newarray .int, 2) := by decide +kernel
theorem dX5_init_54 : decode cX5_init 54 = .ok (.putfield 29, 3) := by decide +kernel
theorem dX5_init_57 : decode cX5_init 57 = .ok (.aload_n 0, 1) := by decide +kernel
theorem dX5_init_58 : decode cX5_init 58 = .ok (.bipush 64, 2) := by decide +kernel
theorem dX5_init_60 : decode cX5_init 60 = .ok (.newarray .int, 2) := by decide +kernel
theorem dX5_init_62 : decode cX5_init 62 = .ok (.putfield 32, 3) := by decide +kernel
theorem dX5_init_65 : decode cX5_init 65 = .ok (.aload_n 0, 1) := by decide +kernel
theorem dX5_init_66 : decode cX5_init 66 = .ok (.sipush 256, 3) := by decide +kernel
theorem dX5_init_69 : decode cX5_init 69 = .ok (.newarray .int, 2) := by decide +kernel
theorem dX5_init_71 : decode cX5_init 71 = .ok (.putfield 35, 3) := by decide +kernel
theorem dX5_init_74 : decode cX5_init 74 = .ok (.return_, 1) := by decide +kernel
set_option maxHeartbeats 4000000 in
set_option maxRecDepth 100000 in
theorem n_X5 (l : Launch) (dC : Nat → ClassId) (dI : Nat → Nat → Nat) (cA : ClassId) (h0 sz : Nat) : Met l yX5_init (.code yX5_init cX5_init 1 none :: ix_gw) ({ frames := 1, cells := 8, slots := 482, locals := 12 }) (va_Pc [.ref h0] (fun U => U.heap.size = sz ∧ va_P (dC, dI) vwCl [(h0, .inr (5, [.int 0, .int 0, .null, .int 0, .null, .null, .int 0, .null, .int 0, .int 0, .int 0, .null, .null, .null, .null]))] U.heap ∧ va_K (dC, dI) vwCl [(cA, .int)] U ∧ va_D (fun _ => True) [(h0, .inr (5, [.int 0, .int 0, .null, .int 0, .null, .null, .int 0, .null, .int 0, .int 0, .int 0, .null, .null, .null, .null]))])) (va_Qv (fun ad : Nat → Nat => ad 0 = h0) (fun ad t => va_P (dC, dI) vwCl (ix_mw ad cA (mw 4 0 (fun _ => 0) 0 (fun _ => 0) (fun _ => 0) 0 (fun _ => 0) 0 0 0 (fun _ => 0) (fun _ => 0) (fun _ => 0) (fun _ => 0))) t.heap ∧ va_K (dC, dI) vwCl [(cA, .int)] t ∧ va_D (va_A [(h0, .inr (5, [.int 0, .int 0, .null, .int 0, .null, .null, .int 0, .null, .int 0, .int 0, .int 0, .null, .null, .null, .null]))] sz) (ix_mw ad cA (mw 4 0 (fun _ => 0) 0 (fun _ => 0) (fun _ => 0) 0 (fun _ => 0) 0 0 0 (fun _ => 0) (fun _ => 0) (fun _ => 0) (fun _ => 0)))) (va_A [(h0, .inr (5, [.int 0, .int 0, .null, .int 0, .null, .null, .int 0, .null, .int 0, .int 0, .int 0, .null, .null, .null, .null]))] sz)) 8 482 (va_A [(h0, .inr (5, [.int 0, .int 0, .null, .int 0, .null, .null, .int 0, .null, .int 0, .int 0, .int 0, .null, .null, .null, .null]))] sz) := by
  refine ix_ofW (cc := cX5_init) (maxL := 1) (ret := none) (by decide +kernel) rfl ?_
  intro p e s m args below meth c s₁ B hml hv
  obtain ⟨rfl, hsz, hP, hK, hD0⟩ := hv
  have hx := B.exec
  have hb := B.bytes
  have hr := B.returns
  have hts0 := atoms_spec (ws := .code yX5_init cX5_init 1 none :: ix_gw) B.pre
  have hts : ∀ w ∈ ix_gw, w.before ([Value.ref h0] : List Value).toArray s = true := fun w hw => hts0 w (List.mem_cons_of_mem _ hw)
  have hown : s.vm.findClass RX5 = some m.cls := findClass_of_methodNamed B.named
  have hlocks := B.notSynchronized
  have hin : meth.name = "<init>" := (name_of_methodNamed B.named B.method).1
  have harr : (Cond.arrayClass .int).before ([Value.ref h0] : List Value).toArray s = true := (hts (.arrayClass .int) (ix_wd_in (j := 71) (by decide +kernel)))
  subst hsz
  have hD := hD0.self (sz := s.heap.size)
  generalize hAe : va_A [(h0, .inr (5, [.int 0, .int 0, .null, .int 0, .null, .null, .int 0, .null, .int 0, .int 0, .int 0, .null, .null, .null, .null]))] s.heap.size = A at hD ⊢
  have hA : ∀ q : Nat, s.heap.size ≤ q → A q := fun q h => by rw [← hAe]; exact Or.inr h
  have hS : va_S A s.heap s.heap [] := va_S.rf
  have hl := lv_entry ([.ref h0]) (n := 1) (Nat.le_of_ble_eq_true rfl)
  rw [lg_entry_eq]
  generalize (lg_sl ([.ref h0]) ++ List.replicate (1 - (lg_sl ([.ref h0])).length) Slot.unset).toArray = ls at hl ⊢
  have hl : lv_has ls 1 [(0, .ref h0)] := hl
  refine lv_aload_n hx hb dX5_init_0 rfl (lv_at hl 0 rfl) ?_
  refine W.objInit hx hb hown (hts (.methodLink RX5 1 objectInit) (ix_wd_in (j := 532) (by decide +kernel))) (hts (.instanceMethod objectInit) (ix_wd_in (j := 50) (by decide +kernel))) (hts (.code objectInit ⟨#[0xb1]⟩ 1 none) (ix_wd_in (j := 51) (by decide +kernel))) rfl (by rw [hml]; exact hl.1) rfl dX5_init_1 (Nat.le_of_ble_eq_true rfl) (Nat.le_of_ble_eq_true rfl) ?_
  refine W.eq (g2 := F0 m 4 ls []) rfl ?_
  refine lv_aload_n hx hb dX5_init_4 rfl (lv_at hl 0 rfl) ?_
  refine lv_iconst (v := 4) hx hb dX5_init_5 (by decide) ?_
  refine va_put (D := (dC, dI)) (ci := 5) (v := .int 4) (ty := .int) (C := RX5) (T := TX5) (N := 15) hx hb hts ix_uw5 tyX5 tyX5_ok nmX5 hown hK hP hD hS 0 rfl rfl 0 (by decide) (hts (.fieldLink RX5 7 "ColdGridModel" "n" "I") (ix_wd_in (j := 533) (by decide +kernel))) (fun _ h9 => h9) rfl (by decide +kernel) rfl rfl (Nat.le_of_ble_eq_true rfl) dX5_init_6 (fun H locs hP hD hS => ?_)
  have hP : va_P (dC, dI) vwCl [(h0, .inr (5, [.int 4, .int 0, .null, .int 0, .null, .null, .int 0, .null, .int 0, .int 0, .int 0, .null, .null, .null, .null]))] H := hP
  have hD : va_D A [(h0, .inr (5, [.int 4, .int 0, .null, .int 0, .null, .null, .int 0, .null, .int 0, .int 0, .int 0, .null, .null, .null, .null]))] := hD
  refine lv_aload_n hx hb dX5_init_9 rfl (lv_at hl 0 rfl) ?_
  refine lv_bipush (v := nI 64) hx hb dX5_init_10 (by decide) ?_
  refine ix_newa hx hb harr hK hP hD hS hA 64 (by decide) (Nat.le_of_ble_eq_true rfl) (Nat.le_of_ble_eq_true rfl) dX5_init_12 (fun q0 H hP hD hS => ?_)
  have hP : va_P (dC, dI) vwCl [(h0, .inr (5, [.int 4, .int 0, .null, .int 0, .null, .null, .int 0, .null, .int 0, .int 0, .int 0, .null, .null, .null, .null])), (q0, .inl (cA, 64, .inl (fun _ => 0)))] H := hP
  have hD : va_D A [(h0, .inr (5, [.int 4, .int 0, .null, .int 0, .null, .null, .int 0, .null, .int 0, .int 0, .int 0, .null, .null, .null, .null])), (q0, .inl (cA, 64, .inl (fun _ => 0)))] := hD
  refine W.widen (k := 1) (n := 64) (Nat.le_of_ble_eq_true rfl) (Nat.le_of_ble_eq_true rfl) ?_
  refine va_putF (D := (dC, dI)) (ci := 5) (v := .ref q0) (ty := .array .int) (C := RX5) (T := TX5) (N := 15) hx hb hts ix_uw5 tyX5 tyX5_ok nmX5 hown hK hP hD hS 0 rfl rfl 2 (by decide) (hts (.fieldLink RX5 13 "ColdGridModel" "weights" "[I") (ix_wd_in (j := 535) (by decide +kernel))) (fun _ h9 => h9) rfl hin rfl (by decide +kernel) rfl rfl (Nat.le_of_ble_eq_true rfl) dX5_init_14 (fun H locs hP hD hS => ?_)
  have hP : va_P (dC, dI) vwCl [(h0, .inr (5, [.int 4, .int 0, .ref q0, .int 0, .null, .null, .int 0, .null, .int 0, .int 0, .int 0, .null, .null, .null, .null])), (q0, .inl (cA, 64, .inl (fun _ => 0)))] H := hP
  have hD : va_D A [(h0, .inr (5, [.int 4, .int 0, .ref q0, .int 0, .null, .null, .int 0, .null, .int 0, .int 0, .int 0, .null, .null, .null, .null])), (q0, .inl (cA, 64, .inl (fun _ => 0)))] := hD
  refine lv_aload_n hx hb dX5_init_17 rfl (lv_at hl 0 rfl) ?_
  refine lv_bipush (v := nI 6) hx hb dX5_init_18 (by decide) ?_
  refine ix_newa hx hb harr hK hP hD hS hA 6 (by decide) (Nat.le_of_ble_eq_true rfl) (Nat.le_of_ble_eq_true rfl) dX5_init_20 (fun q1 H hP hD hS => ?_)
  have hP : va_P (dC, dI) vwCl [(h0, .inr (5, [.int 4, .int 0, .ref q0, .int 0, .null, .null, .int 0, .null, .int 0, .int 0, .int 0, .null, .null, .null, .null])), (q0, .inl (cA, 64, .inl (fun _ => 0))), (q1, .inl (cA, 6, .inl (fun _ => 0)))] H := hP
  have hD : va_D A [(h0, .inr (5, [.int 4, .int 0, .ref q0, .int 0, .null, .null, .int 0, .null, .int 0, .int 0, .int 0, .null, .null, .null, .null])), (q0, .inl (cA, 64, .inl (fun _ => 0))), (q1, .inl (cA, 6, .inl (fun _ => 0)))] := hD
  refine W.widen (k := 2) (n := 70) (Nat.le_of_ble_eq_true rfl) (Nat.le_of_ble_eq_true rfl) ?_
  refine va_putF (D := (dC, dI)) (ci := 5) (v := .ref q1) (ty := .array .int) (C := RX5) (T := TX5) (N := 15) hx hb hts ix_uw5 tyX5 tyX5_ok nmX5 hown hK hP hD hS 0 rfl rfl 4 (by decide) (hts (.fieldLink RX5 17 "ColdGridModel" "lawSet" "[I") (ix_wd_in (j := 537) (by decide +kernel))) (fun _ h9 => h9) rfl hin rfl (by decide +kernel) rfl rfl (Nat.le_of_ble_eq_true rfl) dX5_init_22 (fun H locs hP hD hS => ?_)
  have hP : va_P (dC, dI) vwCl [(h0, .inr (5, [.int 4, .int 0, .ref q0, .int 0, .ref q1, .null, .int 0, .null, .int 0, .int 0, .int 0, .null, .null, .null, .null])), (q0, .inl (cA, 64, .inl (fun _ => 0))), (q1, .inl (cA, 6, .inl (fun _ => 0)))] H := hP
  have hD : va_D A [(h0, .inr (5, [.int 4, .int 0, .ref q0, .int 0, .ref q1, .null, .int 0, .null, .int 0, .int 0, .int 0, .null, .null, .null, .null])), (q0, .inl (cA, 64, .inl (fun _ => 0))), (q1, .inl (cA, 6, .inl (fun _ => 0)))] := hD
  refine lv_aload_n hx hb dX5_init_25 rfl (lv_at hl 0 rfl) ?_
  refine lv_bipush (v := nI 6) hx hb dX5_init_26 (by decide) ?_
  refine ix_newa hx hb harr hK hP hD hS hA 6 (by decide) (Nat.le_of_ble_eq_true rfl) (Nat.le_of_ble_eq_true rfl) dX5_init_28 (fun q2 H hP hD hS => ?_)
  have hP : va_P (dC, dI) vwCl [(h0, .inr (5, [.int 4, .int 0, .ref q0, .int 0, .ref q1, .null, .int 0, .null, .int 0, .int 0, .int 0, .null, .null, .null, .null])), (q0, .inl (cA, 64, .inl (fun _ => 0))), (q1, .inl (cA, 6, .inl (fun _ => 0))), (q2, .inl (cA, 6, .inl (fun _ => 0)))] H := hP
  have hD : va_D A [(h0, .inr (5, [.int 4, .int 0, .ref q0, .int 0, .ref q1, .null, .int 0, .null, .int 0, .int 0, .int 0, .null, .null, .null, .null])), (q0, .inl (cA, 64, .inl (fun _ => 0))), (q1, .inl (cA, 6, .inl (fun _ => 0))), (q2, .inl (cA, 6, .inl (fun _ => 0)))] := hD
  refine W.widen (k := 3) (n := 76) (Nat.le_of_ble_eq_true rfl) (Nat.le_of_ble_eq_true rfl) ?_
  refine va_putF (D := (dC, dI)) (ci := 5) (v := .ref q2) (ty := .array .int) (C := RX5) (T := TX5) (N := 15) hx hb hts ix_uw5 tyX5 tyX5_ok nmX5 hown hK hP hD hS 0 rfl rfl 5 (by decide) (hts (.fieldLink RX5 20 "ColdGridModel" "lawMany" "[I") (ix_wd_in (j := 538) (by decide +kernel))) (fun _ h9 => h9) rfl hin rfl (by decide +kernel) rfl rfl (Nat.le_of_ble_eq_true rfl) dX5_init_30 (fun H locs hP hD hS => ?_)
  have hP : va_P (dC, dI) vwCl [(h0, .inr (5, [.int 4, .int 0, .ref q0, .int 0, .ref q1, .ref q2, .int 0, .null, .int 0, .int 0, .int 0, .null, .null, .null, .null])), (q0, .inl (cA, 64, .inl (fun _ => 0))), (q1, .inl (cA, 6, .inl (fun _ => 0))), (q2, .inl (cA, 6, .inl (fun _ => 0)))] H := hP
  have hD : va_D A [(h0, .inr (5, [.int 4, .int 0, .ref q0, .int 0, .ref q1, .ref q2, .int 0, .null, .int 0, .int 0, .int 0, .null, .null, .null, .null])), (q0, .inl (cA, 64, .inl (fun _ => 0))), (q1, .inl (cA, 6, .inl (fun _ => 0))), (q2, .inl (cA, 6, .inl (fun _ => 0)))] := hD
  refine lv_aload_n hx hb dX5_init_33 rfl (lv_at hl 0 rfl) ?_
  refine lv_bipush (v := nI 8) hx hb dX5_init_34 (by decide) ?_
  refine ix_newa hx hb harr hK hP hD hS hA 8 (by decide) (Nat.le_of_ble_eq_true rfl) (Nat.le_of_ble_eq_true rfl) dX5_init_36 (fun q3 H hP hD hS => ?_)
  have hP : va_P (dC, dI) vwCl [(h0, .inr (5, [.int 4, .int 0, .ref q0, .int 0, .ref q1, .ref q2, .int 0, .null, .int 0, .int 0, .int 0, .null, .null, .null, .null])), (q0, .inl (cA, 64, .inl (fun _ => 0))), (q1, .inl (cA, 6, .inl (fun _ => 0))), (q2, .inl (cA, 6, .inl (fun _ => 0))), (q3, .inl (cA, 8, .inl (fun _ => 0)))] H := hP
  have hD : va_D A [(h0, .inr (5, [.int 4, .int 0, .ref q0, .int 0, .ref q1, .ref q2, .int 0, .null, .int 0, .int 0, .int 0, .null, .null, .null, .null])), (q0, .inl (cA, 64, .inl (fun _ => 0))), (q1, .inl (cA, 6, .inl (fun _ => 0))), (q2, .inl (cA, 6, .inl (fun _ => 0))), (q3, .inl (cA, 8, .inl (fun _ => 0)))] := hD
  refine W.widen (k := 4) (n := 84) (Nat.le_of_ble_eq_true rfl) (Nat.le_of_ble_eq_true rfl) ?_
  refine va_putF (D := (dC, dI)) (ci := 5) (v := .ref q3) (ty := .array .int) (C := RX5) (T := TX5) (N := 15) hx hb hts ix_uw5 tyX5 tyX5_ok nmX5 hown hK hP hD hS 0 rfl rfl 7 (by decide) (hts (.fieldLink RX5 23 "ColdGridModel" "chains" "[I") (ix_wd_in (j := 540) (by decide +kernel))) (fun _ h9 => h9) rfl hin rfl (by decide +kernel) rfl rfl (Nat.le_of_ble_eq_true rfl) dX5_init_38 (fun H locs hP hD hS => ?_)
  have hP : va_P (dC, dI) vwCl [(h0, .inr (5, [.int 4, .int 0, .ref q0, .int 0, .ref q1, .ref q2, .int 0, .ref q3, .int 0, .int 0, .int 0, .null, .null, .null, .null])), (q0, .inl (cA, 64, .inl (fun _ => 0))), (q1, .inl (cA, 6, .inl (fun _ => 0))), (q2, .inl (cA, 6, .inl (fun _ => 0))), (q3, .inl (cA, 8, .inl (fun _ => 0)))] H := hP
  have hD : va_D A [(h0, .inr (5, [.int 4, .int 0, .ref q0, .int 0, .ref q1, .ref q2, .int 0, .ref q3, .int 0, .int 0, .int 0, .null, .null, .null, .null])), (q0, .inl (cA, 64, .inl (fun _ => 0))), (q1, .inl (cA, 6, .inl (fun _ => 0))), (q2, .inl (cA, 6, .inl (fun _ => 0))), (q3, .inl (cA, 8, .inl (fun _ => 0)))] := hD
  refine lv_aload_n hx hb dX5_init_41 rfl (lv_at hl 0 rfl) ?_
  refine lv_bipush (v := nI 14) hx hb dX5_init_42 (by decide) ?_
  refine ix_newa hx hb harr hK hP hD hS hA 14 (by decide) (Nat.le_of_ble_eq_true rfl) (Nat.le_of_ble_eq_true rfl) dX5_init_44 (fun q4 H hP hD hS => ?_)
  have hP : va_P (dC, dI) vwCl [(h0, .inr (5, [.int 4, .int 0, .ref q0, .int 0, .ref q1, .ref q2, .int 0, .ref q3, .int 0, .int 0, .int 0, .null, .null, .null, .null])), (q0, .inl (cA, 64, .inl (fun _ => 0))), (q1, .inl (cA, 6, .inl (fun _ => 0))), (q2, .inl (cA, 6, .inl (fun _ => 0))), (q3, .inl (cA, 8, .inl (fun _ => 0))), (q4, .inl (cA, 14, .inl (fun _ => 0)))] H := hP
  have hD : va_D A [(h0, .inr (5, [.int 4, .int 0, .ref q0, .int 0, .ref q1, .ref q2, .int 0, .ref q3, .int 0, .int 0, .int 0, .null, .null, .null, .null])), (q0, .inl (cA, 64, .inl (fun _ => 0))), (q1, .inl (cA, 6, .inl (fun _ => 0))), (q2, .inl (cA, 6, .inl (fun _ => 0))), (q3, .inl (cA, 8, .inl (fun _ => 0))), (q4, .inl (cA, 14, .inl (fun _ => 0)))] := hD
  refine W.widen (k := 5) (n := 98) (Nat.le_of_ble_eq_true rfl) (Nat.le_of_ble_eq_true rfl) ?_
  refine va_putF (D := (dC, dI)) (ci := 5) (v := .ref q4) (ty := .array .int) (C := RX5) (T := TX5) (N := 15) hx hb hts ix_uw5 tyX5 tyX5_ok nmX5 hown hK hP hD hS 0 rfl rfl 11 (by decide) (hts (.fieldLink RX5 26 "ColdGridModel" "cells" "[I") (ix_wd_in (j := 544) (by decide +kernel))) (fun _ h9 => h9) rfl hin rfl (by decide +kernel) rfl rfl (Nat.le_of_ble_eq_true rfl) dX5_init_46 (fun H locs hP hD hS => ?_)
  have hP : va_P (dC, dI) vwCl [(h0, .inr (5, [.int 4, .int 0, .ref q0, .int 0, .ref q1, .ref q2, .int 0, .ref q3, .int 0, .int 0, .int 0, .ref q4, .null, .null, .null])), (q0, .inl (cA, 64, .inl (fun _ => 0))), (q1, .inl (cA, 6, .inl (fun _ => 0))), (q2, .inl (cA, 6, .inl (fun _ => 0))), (q3, .inl (cA, 8, .inl (fun _ => 0))), (q4, .inl (cA, 14, .inl (fun _ => 0)))] H := hP
  have hD : va_D A [(h0, .inr (5, [.int 4, .int 0, .ref q0, .int 0, .ref q1, .ref q2, .int 0, .ref q3, .int 0, .int 0, .int 0, .ref q4, .null, .null, .null])), (q0, .inl (cA, 64, .inl (fun _ => 0))), (q1, .inl (cA, 6, .inl (fun _ => 0))), (q2, .inl (cA, 6, .inl (fun _ => 0))), (q3, .inl (cA, 8, .inl (fun _ => 0))), (q4, .inl (cA, 14, .inl (fun _ => 0)))] := hD
  refine lv_aload_n hx hb dX5_init_49 rfl (lv_at hl 0 rfl) ?_
  refine lv_bipush (v := nI 64) hx hb dX5_init_50 (by decide) ?_
  refine ix_newa hx hb harr hK hP hD hS hA 64 (by decide) (Nat.le_of_ble_eq_true rfl) (Nat.le_of_ble_eq_true rfl) dX5_init_52 (fun q5 H hP hD hS => ?_)
  have hP : va_P (dC, dI) vwCl [(h0, .inr (5, [.int 4, .int 0, .ref q0, .int 0, .ref q1, .ref q2, .int 0, .ref q3, .int 0, .int 0, .int 0, .ref q4, .null, .null, .null])), (q0, .inl (cA, 64, .inl (fun _ => 0))), (q1, .inl (cA, 6, .inl (fun _ => 0))), (q2, .inl (cA, 6, .inl (fun _ => 0))), (q3, .inl (cA, 8, .inl (fun _ => 0))), (q4, .inl (cA, 14, .inl (fun _ => 0))), (q5, .inl (cA, 64, .inl (fun _ => 0)))] H := hP
  have hD : va_D A [(h0, .inr (5, [.int 4, .int 0, .ref q0, .int 0, .ref q1, .ref q2, .int 0, .ref q3, .int 0, .int 0, .int 0, .ref q4, .null, .null, .null])), (q0, .inl (cA, 64, .inl (fun _ => 0))), (q1, .inl (cA, 6, .inl (fun _ => 0))), (q2, .inl (cA, 6, .inl (fun _ => 0))), (q3, .inl (cA, 8, .inl (fun _ => 0))), (q4, .inl (cA, 14, .inl (fun _ => 0))), (q5, .inl (cA, 64, .inl (fun _ => 0)))] := hD
  refine W.widen (k := 6) (n := 162) (Nat.le_of_ble_eq_true rfl) (Nat.le_of_ble_eq_true rfl) ?_
  refine va_putF (D := (dC, dI)) (ci := 5) (v := .ref q5) (ty := .array .int) (C := RX5) (T := TX5) (N := 15) hx hb hts ix_uw5 tyX5 tyX5_ok nmX5 hown hK hP hD hS 0 rfl rfl 12 (by decide) (hts (.fieldLink RX5 29 "ColdGridModel" "links" "[I") (ix_wd_in (j := 545) (by decide +kernel))) (fun _ h9 => h9) rfl hin rfl (by decide +kernel) rfl rfl (Nat.le_of_ble_eq_true rfl) dX5_init_54 (fun H locs hP hD hS => ?_)
  have hP : va_P (dC, dI) vwCl [(h0, .inr (5, [.int 4, .int 0, .ref q0, .int 0, .ref q1, .ref q2, .int 0, .ref q3, .int 0, .int 0, .int 0, .ref q4, .ref q5, .null, .null])), (q0, .inl (cA, 64, .inl (fun _ => 0))), (q1, .inl (cA, 6, .inl (fun _ => 0))), (q2, .inl (cA, 6, .inl (fun _ => 0))), (q3, .inl (cA, 8, .inl (fun _ => 0))), (q4, .inl (cA, 14, .inl (fun _ => 0))), (q5, .inl (cA, 64, .inl (fun _ => 0)))] H := hP
  have hD : va_D A [(h0, .inr (5, [.int 4, .int 0, .ref q0, .int 0, .ref q1, .ref q2, .int 0, .ref q3, .int 0, .int 0, .int 0, .ref q4, .ref q5, .null, .null])), (q0, .inl (cA, 64, .inl (fun _ => 0))), (q1, .inl (cA, 6, .inl (fun _ => 0))), (q2, .inl (cA, 6, .inl (fun _ => 0))), (q3, .inl (cA, 8, .inl (fun _ => 0))), (q4, .inl (cA, 14, .inl (fun _ => 0))), (q5, .inl (cA, 64, .inl (fun _ => 0)))] := hD
  refine lv_aload_n hx hb dX5_init_57 rfl (lv_at hl 0 rfl) ?_
  refine lv_bipush (v := nI 64) hx hb dX5_init_58 (by decide) ?_
  refine ix_newa hx hb harr hK hP hD hS hA 64 (by decide) (Nat.le_of_ble_eq_true rfl) (Nat.le_of_ble_eq_true rfl) dX5_init_60 (fun q6 H hP hD hS => ?_)
  have hP : va_P (dC, dI) vwCl [(h0, .inr (5, [.int 4, .int 0, .ref q0, .int 0, .ref q1, .ref q2, .int 0, .ref q3, .int 0, .int 0, .int 0, .ref q4, .ref q5, .null, .null])), (q0, .inl (cA, 64, .inl (fun _ => 0))), (q1, .inl (cA, 6, .inl (fun _ => 0))), (q2, .inl (cA, 6, .inl (fun _ => 0))), (q3, .inl (cA, 8, .inl (fun _ => 0))), (q4, .inl (cA, 14, .inl (fun _ => 0))), (q5, .inl (cA, 64, .inl (fun _ => 0))), (q6, .inl (cA, 64, .inl (fun _ => 0)))] H := hP
  have hD : va_D A [(h0, .inr (5, [.int 4, .int 0, .ref q0, .int 0, .ref q1, .ref q2, .int 0, .ref q3, .int 0, .int 0, .int 0, .ref q4, .ref q5, .null, .null])), (q0, .inl (cA, 64, .inl (fun _ => 0))), (q1, .inl (cA, 6, .inl (fun _ => 0))), (q2, .inl (cA, 6, .inl (fun _ => 0))), (q3, .inl (cA, 8, .inl (fun _ => 0))), (q4, .inl (cA, 14, .inl (fun _ => 0))), (q5, .inl (cA, 64, .inl (fun _ => 0))), (q6, .inl (cA, 64, .inl (fun _ => 0)))] := hD
  refine W.widen (k := 7) (n := 226) (Nat.le_of_ble_eq_true rfl) (Nat.le_of_ble_eq_true rfl) ?_
  refine va_putF (D := (dC, dI)) (ci := 5) (v := .ref q6) (ty := .array .int) (C := RX5) (T := TX5) (N := 15) hx hb hts ix_uw5 tyX5 tyX5_ok nmX5 hown hK hP hD hS 0 rfl rfl 13 (by decide) (hts (.fieldLink RX5 32 "ColdGridModel" "kept" "[I") (ix_wd_in (j := 546) (by decide +kernel))) (fun _ h9 => h9) rfl hin rfl (by decide +kernel) rfl rfl (Nat.le_of_ble_eq_true rfl) dX5_init_62 (fun H locs hP hD hS => ?_)
  have hP : va_P (dC, dI) vwCl [(h0, .inr (5, [.int 4, .int 0, .ref q0, .int 0, .ref q1, .ref q2, .int 0, .ref q3, .int 0, .int 0, .int 0, .ref q4, .ref q5, .ref q6, .null])), (q0, .inl (cA, 64, .inl (fun _ => 0))), (q1, .inl (cA, 6, .inl (fun _ => 0))), (q2, .inl (cA, 6, .inl (fun _ => 0))), (q3, .inl (cA, 8, .inl (fun _ => 0))), (q4, .inl (cA, 14, .inl (fun _ => 0))), (q5, .inl (cA, 64, .inl (fun _ => 0))), (q6, .inl (cA, 64, .inl (fun _ => 0)))] H := hP
  have hD : va_D A [(h0, .inr (5, [.int 4, .int 0, .ref q0, .int 0, .ref q1, .ref q2, .int 0, .ref q3, .int 0, .int 0, .int 0, .ref q4, .ref q5, .ref q6, .null])), (q0, .inl (cA, 64, .inl (fun _ => 0))), (q1, .inl (cA, 6, .inl (fun _ => 0))), (q2, .inl (cA, 6, .inl (fun _ => 0))), (q3, .inl (cA, 8, .inl (fun _ => 0))), (q4, .inl (cA, 14, .inl (fun _ => 0))), (q5, .inl (cA, 64, .inl (fun _ => 0))), (q6, .inl (cA, 64, .inl (fun _ => 0)))] := hD
  refine lv_aload_n hx hb dX5_init_65 rfl (lv_at hl 0 rfl) ?_
  refine lv_sipush (v := nI 256) hx hb dX5_init_66 (by decide) ?_
  refine ix_newa hx hb harr hK hP hD hS hA 256 (by decide) (Nat.le_of_ble_eq_true rfl) (Nat.le_of_ble_eq_true rfl) dX5_init_69 (fun q7 H hP hD hS => ?_)
  have hP : va_P (dC, dI) vwCl [(h0, .inr (5, [.int 4, .int 0, .ref q0, .int 0, .ref q1, .ref q2, .int 0, .ref q3, .int 0, .int 0, .int 0, .ref q4, .ref q5, .ref q6, .null])), (q0, .inl (cA, 64, .inl (fun _ => 0))), (q1, .inl (cA, 6, .inl (fun _ => 0))), (q2, .inl (cA, 6, .inl (fun _ => 0))), (q3, .inl (cA, 8, .inl (fun _ => 0))), (q4, .inl (cA, 14, .inl (fun _ => 0))), (q5, .inl (cA, 64, .inl (fun _ => 0))), (q6, .inl (cA, 64, .inl (fun _ => 0))), (q7, .inl (cA, 256, .inl (fun _ => 0)))] H := hP
  have hD : va_D A [(h0, .inr (5, [.int 4, .int 0, .ref q0, .int 0, .ref q1, .ref q2, .int 0, .ref q3, .int 0, .int 0, .int 0, .ref q4, .ref q5, .ref q6, .null])), (q0, .inl (cA, 64, .inl (fun _ => 0))), (q1, .inl (cA, 6, .inl (fun _ => 0))), (q2, .inl (cA, 6, .inl (fun _ => 0))), (q3, .inl (cA, 8, .inl (fun _ => 0))), (q4, .inl (cA, 14, .inl (fun _ => 0))), (q5, .inl (cA, 64, .inl (fun _ => 0))), (q6, .inl (cA, 64, .inl (fun _ => 0))), (q7, .inl (cA, 256, .inl (fun _ => 0)))] := hD
  refine W.widen (k := 8) (n := 482) (Nat.le_of_ble_eq_true rfl) (Nat.le_of_ble_eq_true rfl) ?_
  refine va_putF (D := (dC, dI)) (ci := 5) (v := .ref q7) (ty := .array .int) (C := RX5) (T := TX5) (N := 15) hx hb hts ix_uw5 tyX5 tyX5_ok nmX5 hown hK hP hD hS 0 rfl rfl 14 (by decide) (hts (.fieldLink RX5 35 "ColdGridModel" "before" "[I") (ix_wd_in (j := 547) (by decide +kernel))) (fun _ h9 => h9) rfl hin rfl (by decide +kernel) rfl rfl (Nat.le_of_ble_eq_true rfl) dX5_init_71 (fun H locs hP hD hS => ?_)
  have hP : va_P (dC, dI) vwCl [(h0, .inr (5, [.int 4, .int 0, .ref q0, .int 0, .ref q1, .ref q2, .int 0, .ref q3, .int 0, .int 0, .int 0, .ref q4, .ref q5, .ref q6, .ref q7])), (q0, .inl (cA, 64, .inl (fun _ => 0))), (q1, .inl (cA, 6, .inl (fun _ => 0))), (q2, .inl (cA, 6, .inl (fun _ => 0))), (q3, .inl (cA, 8, .inl (fun _ => 0))), (q4, .inl (cA, 14, .inl (fun _ => 0))), (q5, .inl (cA, 64, .inl (fun _ => 0))), (q6, .inl (cA, 64, .inl (fun _ => 0))), (q7, .inl (cA, 256, .inl (fun _ => 0)))] H := hP
  have hD : va_D A [(h0, .inr (5, [.int 4, .int 0, .ref q0, .int 0, .ref q1, .ref q2, .int 0, .ref q3, .int 0, .int 0, .int 0, .ref q4, .ref q5, .ref q6, .ref q7])), (q0, .inl (cA, 64, .inl (fun _ => 0))), (q1, .inl (cA, 6, .inl (fun _ => 0))), (q2, .inl (cA, 6, .inl (fun _ => 0))), (q3, .inl (cA, 8, .inl (fun _ => 0))), (q4, .inl (cA, 14, .inl (fun _ => 0))), (q5, .inl (cA, 64, .inl (fun _ => 0))), (q6, .inl (cA, 64, .inl (fun _ => 0))), (q7, .inl (cA, 256, .inl (fun _ => 0)))] := hD
  have hP9 := hP.sub (ws' := ix_mw (fun i => [h0, q0, q1, q2, q3, q4, q5, q6, q7].getD i 0) cA (mw 4 0 (fun _ => 0) 0 (fun _ => 0) (fun _ => 0) 0 (fun _ => 0) 0 0 0 (fun _ => 0) (fun _ => 0) (fun _ => 0) (fun _ => 0))) [0, 1, 2, 3, 4, 5, 6, 7, 8] rfl
  have hD9 := hD.sub (ws' := ix_mw (fun i => [h0, q0, q1, q2, q3, q4, q5, q6, q7].getD i 0) cA (mw 4 0 (fun _ => 0) 0 (fun _ => 0) (fun _ => 0) 0 (fun _ => 0) 0 0 0 (fun _ => 0) (fun _ => 0) (fun _ => 0) (fun _ => 0))) [0, 1, 2, 3, 4, 5, 6, 7, 8] (by decide) rfl
  exact W.vret hx hb hr (fun t ht hW => ⟨⟨fun i => [h0, q0, q1, q2, q3, q4, q5, q6, q7].getD i 0, rfl, rfl, by rw [ht]; exact hP9, va_K.moved hW.alike hK, hD9⟩, hS.F ht⟩) hS.2.2 dX5_init_74
theorem dX4_init_0 : decode cX4_init 0 = .ok (.aload_n 0, 1) := by decide +kernel
theorem dX4_init_1 : decode cX4_init 1 = .ok (.invokespecial 1, 3) := by decide +kernel
theorem dX4_init_4 : decode cX4_init 4 = .ok (.aload_n 0, 1) := by decide +kernel
theorem dX4_init_5 : decode cX4_init 5 = .ok (.new 7, 3) := by decide +kernel
theorem dX4_init_8 : decode cX4_init 8 = .ok (.dup, 1) := by decide +kernel
theorem dX4_init_9 : decode cX4_init 9 = .ok (.invokespecial 9, 3) := by decide +kernel
theorem dX4_init_12 : decode cX4_init 12 = .ok (.putfield 10, 3) := by decide +kernel
theorem dX4_init_15 : decode cX4_init 15 = .ok (.aload_n 0, 1) := by decide +kernel
theorem dX4_init_16 : decode cX4_init 16 = .ok (.new 16, 3) := by decide +kernel
theorem dX4_init_19 : decode cX4_init 19 = .ok (.dup, 1) := by decide +kernel
theorem dX4_init_20 : decode cX4_init 20 = .ok (.invokespecial 18, 3) := by decide +kernel
theorem dX4_init_23 : decode cX4_init 23 = .ok (.putfield 19, 3) := by decide +kernel
theorem dX4_init_26 : decode cX4_init 26 = .ok (.aload_n 0, 1) := by decide +kernel
theorem dX4_init_27 : decode cX4_init 27 = .ok (.new 23, 3) := by decide +kernel
theorem dX4_init_30 : decode cX4_init 30 = .ok (.dup, 1) := by decide +kernel
theorem dX4_init_31 : decode cX4_init 31 = .ok (.invokespecial 25, 3) := by decide +kernel
theorem dX4_init_34 : decode cX4_init 34 = .ok (.putfield 26, 3) := by decide +kernel
theorem dX4_init_37 : decode cX4_init 37 = .ok (.aload_n 0, 1) := by decide +kernel
theorem dX4_init_38 : decode cX4_init 38 = .ok (.new 30, 3) := by decide +kernel
theorem dX4_init_41 : decode cX4_init 41 = .ok (.dup, 1) := by decide +kernel
theorem dX4_init_42 : decode cX4_init 42 = .ok (.invokespecial 32, 3) := by decide +kernel
theorem dX4_init_45 : decode cX4_init 45 = .ok (.putfield 33, 3) := by decide +kernel
theorem dX4_init_48 : decode cX4_init 48 = .ok (.aload_n 0, 1) := by decide +kernel
theorem dX4_init_49 : decode cX4_init 49 = .ok (.sipush 256, 3) := by decide +kernel
theorem dX4_init_52 : decode cX4_init 52 = .ok (.newarray .int, 2) := by decide +kernel
theorem dX4_init_54 : decode cX4_init 54 = .ok (.putfield 37, 3) := by decide +kernel
theorem dX4_init_57 : decode cX4_init 57 = .ok (.aload_n 0, 1) := by decide +kernel
theorem dX4_init_58 : decode cX4_init 58 = .ok (.sipush 256, 3) := by decide +kernel
theorem dX4_init_61 : decode cX4_init 61 = .ok (.newarray .int, 2) := by decide +kernel
theorem dX4_init_63 : decode cX4_init 63 = .ok (.putfield 41, 3) := by decide +kernel
theorem dX4_init_66 : decode cX4_init 66 = .ok (.return_, 1) := by decide +kernel
set_option maxHeartbeats 4000000 in
set_option maxRecDepth 100000 in
theorem n_X4 (l : Launch) (dC : Nat → ClassId) (dI : Nat → Nat → Nat) (cA : ClassId) (h0 sz : Nat) : Met l yX4_init (.code yX4_init cX4_init 1 none :: ix_gw) ({ frames := 2, cells := 15, slots := 751, locals := 32 }) (va_Pc [.ref h0] (fun U => U.heap.size = sz ∧ va_P (dC, dI) vwCl [(h0, .inr (4, [.null, .null, .null, .null, .null, .null]))] U.heap ∧ va_K (dC, dI) vwCl [(cA, .int)] U ∧ va_D (fun _ => True) [(h0, .inr (4, [.null, .null, .null, .null, .null, .null]))] ∧ ix_NW U)) (va_Qv (fun ad : Nat → Nat => ad 0 = h0) (fun ad t => va_P (dC, dI) vwCl (ix_mw ad cA (cw 4 0 (fun _ => 0) (fun _ => 0) 0 (fun _ => 0) (fun _ => 0) 0 (fun _ => 0) (fun _ => 0) (fun _ => 0) (fun _ => 0) (fun _ => 0) (fun _ => 0) (fun _ => 0) 0 0 0 0)) t.heap ∧ va_K (dC, dI) vwCl [(cA, .int)] t ∧ va_D (va_A [(h0, .inr (4, [.null, .null, .null, .null, .null, .null]))] sz) (ix_mw ad cA (cw 4 0 (fun _ => 0) (fun _ => 0) 0 (fun _ => 0) (fun _ => 0) 0 (fun _ => 0) (fun _ => 0) (fun _ => 0) (fun _ => 0) (fun _ => 0) (fun _ => 0) (fun _ => 0) 0 0 0 0))) (va_A [(h0, .inr (4, [.null, .null, .null, .null, .null, .null]))] sz)) 15 751 (va_A [(h0, .inr (4, [.null, .null, .null, .null, .null, .null]))] sz) := by
  refine ix_ofW (cc := cX4_init) (maxL := 1) (ret := none) (by decide +kernel) rfl ?_
  intro p e s m args below meth c s₁ B hml hv
  obtain ⟨rfl, hsz, hP, hK, hD0, hN⟩ := hv
  have hx := B.exec
  have hb := B.bytes
  have hr := B.returns
  have hts0 := atoms_spec (ws := .code yX4_init cX4_init 1 none :: ix_gw) B.pre
  have hts : ∀ w ∈ ix_gw, w.before ([Value.ref h0] : List Value).toArray s = true := fun w hw => hts0 w (List.mem_cons_of_mem _ hw)
  have hown : s.vm.findClass RX4 = some m.cls := findClass_of_methodNamed B.named
  have hlocks := B.notSynchronized
  have hin : meth.name = "<init>" := (name_of_methodNamed B.named B.method).1
  have harr : (Cond.arrayClass .int).before ([Value.ref h0] : List Value).toArray s = true := (hts (.arrayClass .int) (ix_wd_in (j := 71) (by decide +kernel)))
  subst hsz
  have hD := hD0.self (sz := s.heap.size)
  generalize hAe : va_A [(h0, .inr (4, [.null, .null, .null, .null, .null, .null]))] s.heap.size = A at hD ⊢
  have hA : ∀ q : Nat, s.heap.size ≤ q → A q := fun q h => by rw [← hAe]; exact Or.inr h
  have hS : va_S A s.heap s.heap [] := va_S.rf
  have hl := lv_entry ([.ref h0]) (n := 1) (Nat.le_of_ble_eq_true rfl)
  rw [lg_entry_eq]
  generalize (lg_sl ([.ref h0]) ++ List.replicate (1 - (lg_sl ([.ref h0])).length) Slot.unset).toArray = ls at hl ⊢
  have hl : lv_has ls 1 [(0, .ref h0)] := hl
  refine lv_aload_n hx hb dX4_init_0 rfl (lv_at hl 0 rfl) ?_
  refine W.objInit hx hb hown (hts (.methodLink RX4 1 objectInit) (ix_wd_in (j := 49) (by decide +kernel))) (hts (.instanceMethod objectInit) (ix_wd_in (j := 50) (by decide +kernel))) (hts (.code objectInit ⟨#[0xb1]⟩ 1 none) (ix_wd_in (j := 51) (by decide +kernel))) rfl (by rw [hml]; exact hl.1) rfl dX4_init_1 (Nat.le_of_ble_eq_true rfl) (Nat.le_of_ble_eq_true rfl) ?_
  refine W.eq (g2 := F0 m 4 ls []) rfl ?_
  refine lv_aload_n hx hb dX4_init_4 rfl (lv_at hl 0 rfl) ?_
  refine va_new (ci := 3) (fs := [.null, .null, .int 0, .int 0]) (C := RX3) (T := TX3) (N := 4) hx hb hts ix_uw3 tyX3 tyX3_ok hown (hts (.classLink RX4 7 RX3) (ix_wd_in (j := 52) (by decide +kernel))) (hts (.instantiable RX3 4) (ix_wd_in (j := 53) (by decide +kernel))) (hts (.initialized RX3) (ix_wd_in (j := 37) (by decide +kernel))) hK hP hD hS hA rfl (by decide +kernel) (Nat.le_of_ble_eq_true rfl) (Nat.le_of_ble_eq_true rfl) dX4_init_5 (fun o3 H hP hD hS => ?_)
  have hP : va_P (dC, dI) vwCl [(h0, .inr (4, [.null, .null, .null, .null, .null, .null])), (o3, .inr (3, [.null, .null, .int 0, .int 0]))] H := hP
  have hD : va_D A [(h0, .inr (4, [.null, .null, .null, .null, .null, .null])), (o3, .inr (3, [.null, .null, .int 0, .int 0]))] := hD
  refine W.widen (k := 1) (n := 4) (Nat.le_of_ble_eq_true rfl) (Nat.le_of_ble_eq_true rfl) ?_
  refine lv_dup hx hb dX4_init_8 rfl ?_
  have hPc := hP.sub (ws' := [(o3, .inr (3, [.null, .null, .int 0, .int 0]))]) [1] rfl
  have hDc := hD.sub (ws' := [(o3, .inr (3, [.null, .null, .int 0, .int 0]))]) [1] (by decide) rfl
  have hFc := va_free (wc := [(o3, .inr (3, [.null, .null, .int 0, .int 0]))]) hD hS hA [1] rfl
  refine va_callv (va_runIN (As := []) (rest := [.ref o3, .ref h0]) (host := "ColdGrid") ⟨hx, hb, hml, hown, hts⟩ (n_X3 l dC dI cA o3 H.size) ⟨va_cnB 0 hts (n_good (ix_wd_in (j := 56) (by decide +kernel))) rfl rfl rfl (hN _ (ix_wn_in (j := 54) (by decide +kernel)) rfl) (hts (.initialized RX3) (ix_wd_in (j := 37) (by decide +kernel))) (by decide +kernel) ⟨(Nat.le_of_ble_eq_true rfl), (Nat.le_of_ble_eq_true rfl)⟩, rfl, (hts (.instanceMethod yX3_init) (ix_wd_in (j := 55) (by decide +kernel)))⟩ ⟨fun a U g mk q => by obtain ⟨q0, q1, qP, qK, qD⟩ := q; exact ⟨q0, q1, qP, va_K.moved (u := U) (U := U.calling g mk a) (Vm.Alike.refl U.vm) qK, qD⟩, fun U hU hW => ⟨rfl, by rw [hU], by rw [hU]; exact hPc, va_K.moved hW.alike hK, hDc.weaken (fun _ _ _ _ => trivial)⟩⟩ rfl rfl hl.1 rfl (lv_room (Nat.le_of_ble_eq_true rfl)) dX4_init_9 ⟨(Nat.le_of_ble_eq_true rfl), (Nat.le_of_ble_eq_true rfl)⟩) hS (fun q _ h => hFc q h) hFc (fun u3 t H1 locs ht hvm h9 hB hz1 hk1 hS => ?_)
  obtain ⟨hP1, hK1, hD1⟩ := hB
  rw [ht] at hP1
  obtain ⟨hP, hD⟩ := va_join (wr := [(h0, .inr (4, [.null, .null, .null, .null, .null, .null]))]) (w1 := [(o3, .inr (3, [.ref (u3 0), .ref (u3 1), .int 4, .int 0])), ((u3 0), .inl (cA, 64, .inl (fun _ => 0))), ((u3 1), .inl (cA, 64, .inl (fun _ => 0)))]) hP hD [1] [0] rfl rfl (by decide) (by decide) hk1 hFc hP1 hD1
  generalize H1 = H at hP hS ⊢
  have hP : va_P (dC, dI) vwCl [(h0, .inr (4, [.null, .null, .null, .null, .null, .null])), (o3, .inr (3, [.ref (u3 0), .ref (u3 1), .int 4, .int 0])), ((u3 0), .inl (cA, 64, .inl (fun _ => 0))), ((u3 1), .inl (cA, 64, .inl (fun _ => 0)))] H := hP
  have hD : va_D A [(h0, .inr (4, [.null, .null, .null, .null, .null, .null])), (o3, .inr (3, [.ref (u3 0), .ref (u3 1), .int 4, .int 0])), ((u3 0), .inl (cA, 64, .inl (fun _ => 0))), ((u3 1), .inl (cA, 64, .inl (fun _ => 0)))] := hD
  refine W.widen (k := 3) (n := 132) (Nat.le_of_ble_eq_true rfl) (Nat.le_of_ble_eq_true rfl) ?_
  refine va_putF (D := (dC, dI)) (ci := 4) (v := .ref o3) (ty := .object "ColdGrid$Weights") (C := RX4) (T := TX4) (N := 6) hx hb hts ix_uw4 tyX4 tyX4_ok nmX4 hown hK hP hD hS 0 rfl rfl 0 (by decide) (hts (.fieldLink RX4 10 "ColdGrid" "weights" "LColdGrid$Weights;") (ix_wd_in (j := 132) (by decide +kernel))) (fun _ h9 => h9) rfl hin rfl (by decide +kernel) rfl rfl (Nat.le_of_ble_eq_true rfl) dX4_init_12 (fun H locs hP hD hS => ?_)
  have hP : va_P (dC, dI) vwCl [(h0, .inr (4, [.ref o3, .null, .null, .null, .null, .null])), (o3, .inr (3, [.ref (u3 0), .ref (u3 1), .int 4, .int 0])), ((u3 0), .inl (cA, 64, .inl (fun _ => 0))), ((u3 1), .inl (cA, 64, .inl (fun _ => 0)))] H := hP
  have hD : va_D A [(h0, .inr (4, [.ref o3, .null, .null, .null, .null, .null])), (o3, .inr (3, [.ref (u3 0), .ref (u3 1), .int 4, .int 0])), ((u3 0), .inl (cA, 64, .inl (fun _ => 0))), ((u3 1), .inl (cA, 64, .inl (fun _ => 0)))] := hD
  refine lv_aload_n hx hb dX4_init_15 rfl (lv_at hl 0 rfl) ?_
  refine va_new (ci := 2) (fs := [.null, .null, .int 0]) (C := RX2) (T := TX2) (N := 3) hx hb hts ix_uw2 tyX2 tyX2_ok hown (hts (.classLink RX4 16 RX2) (ix_wd_in (j := 72) (by decide +kernel))) (hts (.instantiable RX2 3) (ix_wd_in (j := 73) (by decide +kernel))) (hts (.initialized RX2) (ix_wd_in (j := 38) (by decide +kernel))) hK hP hD hS hA rfl (by decide +kernel) (Nat.le_of_ble_eq_true rfl) (Nat.le_of_ble_eq_true rfl) dX4_init_16 (fun o2 H hP hD hS => ?_)
  have hP : va_P (dC, dI) vwCl [(h0, .inr (4, [.ref o3, .null, .null, .null, .null, .null])), (o3, .inr (3, [.ref (u3 0), .ref (u3 1), .int 4, .int 0])), ((u3 0), .inl (cA, 64, .inl (fun _ => 0))), ((u3 1), .inl (cA, 64, .inl (fun _ => 0))), (o2, .inr (2, [.null, .null, .int 0]))] H := hP
  have hD : va_D A [(h0, .inr (4, [.ref o3, .null, .null, .null, .null, .null])), (o3, .inr (3, [.ref (u3 0), .ref (u3 1), .int 4, .int 0])), ((u3 0), .inl (cA, 64, .inl (fun _ => 0))), ((u3 1), .inl (cA, 64, .inl (fun _ => 0))), (o2, .inr (2, [.null, .null, .int 0]))] := hD
  refine W.widen (k := 4) (n := 135) (Nat.le_of_ble_eq_true rfl) (Nat.le_of_ble_eq_true rfl) ?_
  refine lv_dup hx hb dX4_init_19 rfl ?_
  have hPc := hP.sub (ws' := [(o2, .inr (2, [.null, .null, .int 0]))]) [4] rfl
  have hDc := hD.sub (ws' := [(o2, .inr (2, [.null, .null, .int 0]))]) [4] (by decide) rfl
  have hFc := va_free (wc := [(o2, .inr (2, [.null, .null, .int 0]))]) hD hS hA [4] rfl
  refine va_callv (va_runIN (As := []) (rest := [.ref o2, .ref h0]) (host := "ColdGrid") ⟨hx, hb, hml, hown, hts⟩ (n_X2 l dC dI cA o2 H.size) ⟨va_cnB 0 hts (n_good (ix_wd_in (j := 76) (by decide +kernel))) rfl rfl rfl (hN _ (ix_wn_in (j := 74) (by decide +kernel)) rfl) (hts (.initialized RX2) (ix_wd_in (j := 38) (by decide +kernel))) (by decide +kernel) ⟨(Nat.le_of_ble_eq_true rfl), (Nat.le_of_ble_eq_true rfl)⟩, rfl, (hts (.instanceMethod yX2_init) (ix_wd_in (j := 75) (by decide +kernel)))⟩ ⟨fun a U g mk q => by obtain ⟨q0, q1, qP, qK, qD⟩ := q; exact ⟨q0, q1, qP, va_K.moved (u := U) (U := U.calling g mk a) (Vm.Alike.refl U.vm) qK, qD⟩, fun U hU hW => ⟨rfl, by rw [hU], by rw [hU]; exact hPc, va_K.moved hW.alike hK, hDc.weaken (fun _ _ _ _ => trivial)⟩⟩ rfl rfl hl.1 rfl (lv_room (Nat.le_of_ble_eq_true rfl)) dX4_init_20 ⟨(Nat.le_of_ble_eq_true rfl), (Nat.le_of_ble_eq_true rfl)⟩) hS (fun q _ h => hFc q h) hFc (fun u2 t H1 locs ht hvm h9 hB hz1 hk1 hS => ?_)
  obtain ⟨hP1, hK1, hD1⟩ := hB
  rw [ht] at hP1
  obtain ⟨hP, hD⟩ := va_join (wr := [(h0, .inr (4, [.ref o3, .null, .null, .null, .null, .null])), (o3, .inr (3, [.ref (u3 0), .ref (u3 1), .int 4, .int 0])), ((u3 0), .inl (cA, 64, .inl (fun _ => 0))), ((u3 1), .inl (cA, 64, .inl (fun _ => 0)))]) (w1 := [(o2, .inr (2, [.ref (u2 0), .ref (u2 1), .int 0])), ((u2 0), .inl (cA, 6, .inl (fun _ => 0))), ((u2 1), .inl (cA, 6, .inl (fun _ => 0)))]) hP hD [4] [0, 1, 2, 3] rfl rfl (by decide) (by decide) hk1 hFc hP1 hD1
  generalize H1 = H at hP hS ⊢
  have hP : va_P (dC, dI) vwCl [(h0, .inr (4, [.ref o3, .null, .null, .null, .null, .null])), (o3, .inr (3, [.ref (u3 0), .ref (u3 1), .int 4, .int 0])), ((u3 0), .inl (cA, 64, .inl (fun _ => 0))), ((u3 1), .inl (cA, 64, .inl (fun _ => 0))), (o2, .inr (2, [.ref (u2 0), .ref (u2 1), .int 0])), ((u2 0), .inl (cA, 6, .inl (fun _ => 0))), ((u2 1), .inl (cA, 6, .inl (fun _ => 0)))] H := hP
  have hD : va_D A [(h0, .inr (4, [.ref o3, .null, .null, .null, .null, .null])), (o3, .inr (3, [.ref (u3 0), .ref (u3 1), .int 4, .int 0])), ((u3 0), .inl (cA, 64, .inl (fun _ => 0))), ((u3 1), .inl (cA, 64, .inl (fun _ => 0))), (o2, .inr (2, [.ref (u2 0), .ref (u2 1), .int 0])), ((u2 0), .inl (cA, 6, .inl (fun _ => 0))), ((u2 1), .inl (cA, 6, .inl (fun _ => 0)))] := hD
  refine W.widen (k := 6) (n := 147) (Nat.le_of_ble_eq_true rfl) (Nat.le_of_ble_eq_true rfl) ?_
  refine va_putF (D := (dC, dI)) (ci := 4) (v := .ref o2) (ty := .object "ColdGrid$Laws") (C := RX4) (T := TX4) (N := 6) hx hb hts ix_uw4 tyX4 tyX4_ok nmX4 hown hK hP hD hS 0 rfl rfl 1 (by decide) (hts (.fieldLink RX4 19 "ColdGrid" "laws" "LColdGrid$Laws;") (ix_wd_in (j := 133) (by decide +kernel))) (fun _ h9 => h9) rfl hin rfl (by decide +kernel) rfl rfl (Nat.le_of_ble_eq_true rfl) dX4_init_23 (fun H locs hP hD hS => ?_)
  have hP : va_P (dC, dI) vwCl [(h0, .inr (4, [.ref o3, .ref o2, .null, .null, .null, .null])), (o3, .inr (3, [.ref (u3 0), .ref (u3 1), .int 4, .int 0])), ((u3 0), .inl (cA, 64, .inl (fun _ => 0))), ((u3 1), .inl (cA, 64, .inl (fun _ => 0))), (o2, .inr (2, [.ref (u2 0), .ref (u2 1), .int 0])), ((u2 0), .inl (cA, 6, .inl (fun _ => 0))), ((u2 1), .inl (cA, 6, .inl (fun _ => 0)))] H := hP
  have hD : va_D A [(h0, .inr (4, [.ref o3, .ref o2, .null, .null, .null, .null])), (o3, .inr (3, [.ref (u3 0), .ref (u3 1), .int 4, .int 0])), ((u3 0), .inl (cA, 64, .inl (fun _ => 0))), ((u3 1), .inl (cA, 64, .inl (fun _ => 0))), (o2, .inr (2, [.ref (u2 0), .ref (u2 1), .int 0])), ((u2 0), .inl (cA, 6, .inl (fun _ => 0))), ((u2 1), .inl (cA, 6, .inl (fun _ => 0)))] := hD
  refine lv_aload_n hx hb dX4_init_26 rfl (lv_at hl 0 rfl) ?_
  refine va_new (ci := 1) (fs := [.null, .int 0]) (C := RX1) (T := TX1) (N := 2) hx hb hts ix_uw1 tyX1 tyX1_ok hown (hts (.classLink RX4 23 RX1) (ix_wd_in (j := 88) (by decide +kernel))) (hts (.instantiable RX1 2) (ix_wd_in (j := 89) (by decide +kernel))) (hts (.initialized RX1) (ix_wd_in (j := 39) (by decide +kernel))) hK hP hD hS hA rfl (by decide +kernel) (Nat.le_of_ble_eq_true rfl) (Nat.le_of_ble_eq_true rfl) dX4_init_27 (fun o1 H hP hD hS => ?_)
  have hP : va_P (dC, dI) vwCl [(h0, .inr (4, [.ref o3, .ref o2, .null, .null, .null, .null])), (o3, .inr (3, [.ref (u3 0), .ref (u3 1), .int 4, .int 0])), ((u3 0), .inl (cA, 64, .inl (fun _ => 0))), ((u3 1), .inl (cA, 64, .inl (fun _ => 0))), (o2, .inr (2, [.ref (u2 0), .ref (u2 1), .int 0])), ((u2 0), .inl (cA, 6, .inl (fun _ => 0))), ((u2 1), .inl (cA, 6, .inl (fun _ => 0))), (o1, .inr (1, [.null, .int 0]))] H := hP
  have hD : va_D A [(h0, .inr (4, [.ref o3, .ref o2, .null, .null, .null, .null])), (o3, .inr (3, [.ref (u3 0), .ref (u3 1), .int 4, .int 0])), ((u3 0), .inl (cA, 64, .inl (fun _ => 0))), ((u3 1), .inl (cA, 64, .inl (fun _ => 0))), (o2, .inr (2, [.ref (u2 0), .ref (u2 1), .int 0])), ((u2 0), .inl (cA, 6, .inl (fun _ => 0))), ((u2 1), .inl (cA, 6, .inl (fun _ => 0))), (o1, .inr (1, [.null, .int 0]))] := hD
  refine W.widen (k := 7) (n := 149) (Nat.le_of_ble_eq_true rfl) (Nat.le_of_ble_eq_true rfl) ?_
  refine lv_dup hx hb dX4_init_30 rfl ?_
  have hPc := hP.sub (ws' := [(o1, .inr (1, [.null, .int 0]))]) [7] rfl
  have hDc := hD.sub (ws' := [(o1, .inr (1, [.null, .int 0]))]) [7] (by decide) rfl
  have hFc := va_free (wc := [(o1, .inr (1, [.null, .int 0]))]) hD hS hA [7] rfl
  refine va_callv (va_runIN (As := []) (rest := [.ref o1, .ref h0]) (host := "ColdGrid") ⟨hx, hb, hml, hown, hts⟩ (n_X1 l dC dI cA o1 H.size) ⟨va_cnB 0 hts (n_good (ix_wd_in (j := 92) (by decide +kernel))) rfl rfl rfl (hN _ (ix_wn_in (j := 90) (by decide +kernel)) rfl) (hts (.initialized RX1) (ix_wd_in (j := 39) (by decide +kernel))) (by decide +kernel) ⟨(Nat.le_of_ble_eq_true rfl), (Nat.le_of_ble_eq_true rfl)⟩, rfl, (hts (.instanceMethod yX1_init) (ix_wd_in (j := 91) (by decide +kernel)))⟩ ⟨fun a U g mk q => by obtain ⟨q0, q1, qP, qK, qD⟩ := q; exact ⟨q0, q1, qP, va_K.moved (u := U) (U := U.calling g mk a) (Vm.Alike.refl U.vm) qK, qD⟩, fun U hU hW => ⟨rfl, by rw [hU], by rw [hU]; exact hPc, va_K.moved hW.alike hK, hDc.weaken (fun _ _ _ _ => trivial)⟩⟩ rfl rfl hl.1 rfl (lv_room (Nat.le_of_ble_eq_true rfl)) dX4_init_31 ⟨(Nat.le_of_ble_eq_true rfl), (Nat.le_of_ble_eq_true rfl)⟩) hS (fun q _ h => hFc q h) hFc (fun u1 t H1 locs ht hvm h9 hB hz1 hk1 hS => ?_)
  obtain ⟨hP1, hK1, hD1⟩ := hB
  rw [ht] at hP1
  obtain ⟨hP, hD⟩ := va_join (wr := [(h0, .inr (4, [.ref o3, .ref o2, .null, .null, .null, .null])), (o3, .inr (3, [.ref (u3 0), .ref (u3 1), .int 4, .int 0])), ((u3 0), .inl (cA, 64, .inl (fun _ => 0))), ((u3 1), .inl (cA, 64, .inl (fun _ => 0))), (o2, .inr (2, [.ref (u2 0), .ref (u2 1), .int 0])), ((u2 0), .inl (cA, 6, .inl (fun _ => 0))), ((u2 1), .inl (cA, 6, .inl (fun _ => 0)))]) (w1 := [(o1, .inr (1, [.ref (u1 0), .int 0])), ((u1 0), .inl (cA, 8, .inl (fun _ => 0)))]) hP hD [7] [0, 1, 2, 3, 4, 5, 6] rfl rfl (by decide) (by decide) hk1 hFc hP1 hD1
  generalize H1 = H at hP hS ⊢
  have hP : va_P (dC, dI) vwCl [(h0, .inr (4, [.ref o3, .ref o2, .null, .null, .null, .null])), (o3, .inr (3, [.ref (u3 0), .ref (u3 1), .int 4, .int 0])), ((u3 0), .inl (cA, 64, .inl (fun _ => 0))), ((u3 1), .inl (cA, 64, .inl (fun _ => 0))), (o2, .inr (2, [.ref (u2 0), .ref (u2 1), .int 0])), ((u2 0), .inl (cA, 6, .inl (fun _ => 0))), ((u2 1), .inl (cA, 6, .inl (fun _ => 0))), (o1, .inr (1, [.ref (u1 0), .int 0])), ((u1 0), .inl (cA, 8, .inl (fun _ => 0)))] H := hP
  have hD : va_D A [(h0, .inr (4, [.ref o3, .ref o2, .null, .null, .null, .null])), (o3, .inr (3, [.ref (u3 0), .ref (u3 1), .int 4, .int 0])), ((u3 0), .inl (cA, 64, .inl (fun _ => 0))), ((u3 1), .inl (cA, 64, .inl (fun _ => 0))), (o2, .inr (2, [.ref (u2 0), .ref (u2 1), .int 0])), ((u2 0), .inl (cA, 6, .inl (fun _ => 0))), ((u2 1), .inl (cA, 6, .inl (fun _ => 0))), (o1, .inr (1, [.ref (u1 0), .int 0])), ((u1 0), .inl (cA, 8, .inl (fun _ => 0)))] := hD
  refine W.widen (k := 8) (n := 157) (Nat.le_of_ble_eq_true rfl) (Nat.le_of_ble_eq_true rfl) ?_
  refine va_putF (D := (dC, dI)) (ci := 4) (v := .ref o1) (ty := .object "ColdGrid$Grid") (C := RX4) (T := TX4) (N := 6) hx hb hts ix_uw4 tyX4 tyX4_ok nmX4 hown hK hP hD hS 0 rfl rfl 2 (by decide) (hts (.fieldLink RX4 26 "ColdGrid" "grid" "LColdGrid$Grid;") (ix_wd_in (j := 134) (by decide +kernel))) (fun _ h9 => h9) rfl hin rfl (by decide +kernel) rfl rfl (Nat.le_of_ble_eq_true rfl) dX4_init_34 (fun H locs hP hD hS => ?_)
  have hP : va_P (dC, dI) vwCl [(h0, .inr (4, [.ref o3, .ref o2, .ref o1, .null, .null, .null])), (o3, .inr (3, [.ref (u3 0), .ref (u3 1), .int 4, .int 0])), ((u3 0), .inl (cA, 64, .inl (fun _ => 0))), ((u3 1), .inl (cA, 64, .inl (fun _ => 0))), (o2, .inr (2, [.ref (u2 0), .ref (u2 1), .int 0])), ((u2 0), .inl (cA, 6, .inl (fun _ => 0))), ((u2 1), .inl (cA, 6, .inl (fun _ => 0))), (o1, .inr (1, [.ref (u1 0), .int 0])), ((u1 0), .inl (cA, 8, .inl (fun _ => 0)))] H := hP
  have hD : va_D A [(h0, .inr (4, [.ref o3, .ref o2, .ref o1, .null, .null, .null])), (o3, .inr (3, [.ref (u3 0), .ref (u3 1), .int 4, .int 0])), ((u3 0), .inl (cA, 64, .inl (fun _ => 0))), ((u3 1), .inl (cA, 64, .inl (fun _ => 0))), (o2, .inr (2, [.ref (u2 0), .ref (u2 1), .int 0])), ((u2 0), .inl (cA, 6, .inl (fun _ => 0))), ((u2 1), .inl (cA, 6, .inl (fun _ => 0))), (o1, .inr (1, [.ref (u1 0), .int 0])), ((u1 0), .inl (cA, 8, .inl (fun _ => 0)))] := hD
  refine lv_aload_n hx hb dX4_init_37 rfl (lv_at hl 0 rfl) ?_
  refine va_new (ci := 0) (fs := [.null, .null, .null, .null, .int 0, .int 0, .int 0, .int 0]) (C := RX0) (T := TX0) (N := 8) hx hb hts ix_uw0 tyX0 tyX0_ok hown (hts (.classLink RX4 30 RX0) (ix_wd_in (j := 101) (by decide +kernel))) (hts (.instantiable RX0 8) (ix_wd_in (j := 102) (by decide +kernel))) (hts (.initialized RX0) (ix_wd_in (j := 40) (by decide +kernel))) hK hP hD hS hA rfl (by decide +kernel) (Nat.le_of_ble_eq_true rfl) (Nat.le_of_ble_eq_true rfl) dX4_init_38 (fun o0 H hP hD hS => ?_)
  have hP : va_P (dC, dI) vwCl [(h0, .inr (4, [.ref o3, .ref o2, .ref o1, .null, .null, .null])), (o3, .inr (3, [.ref (u3 0), .ref (u3 1), .int 4, .int 0])), ((u3 0), .inl (cA, 64, .inl (fun _ => 0))), ((u3 1), .inl (cA, 64, .inl (fun _ => 0))), (o2, .inr (2, [.ref (u2 0), .ref (u2 1), .int 0])), ((u2 0), .inl (cA, 6, .inl (fun _ => 0))), ((u2 1), .inl (cA, 6, .inl (fun _ => 0))), (o1, .inr (1, [.ref (u1 0), .int 0])), ((u1 0), .inl (cA, 8, .inl (fun _ => 0))), (o0, .inr (0, [.null, .null, .null, .null, .int 0, .int 0, .int 0, .int 0]))] H := hP
  have hD : va_D A [(h0, .inr (4, [.ref o3, .ref o2, .ref o1, .null, .null, .null])), (o3, .inr (3, [.ref (u3 0), .ref (u3 1), .int 4, .int 0])), ((u3 0), .inl (cA, 64, .inl (fun _ => 0))), ((u3 1), .inl (cA, 64, .inl (fun _ => 0))), (o2, .inr (2, [.ref (u2 0), .ref (u2 1), .int 0])), ((u2 0), .inl (cA, 6, .inl (fun _ => 0))), ((u2 1), .inl (cA, 6, .inl (fun _ => 0))), (o1, .inr (1, [.ref (u1 0), .int 0])), ((u1 0), .inl (cA, 8, .inl (fun _ => 0))), (o0, .inr (0, [.null, .null, .null, .null, .int 0, .int 0, .int 0, .int 0]))] := hD
  refine W.widen (k := 9) (n := 165) (Nat.le_of_ble_eq_true rfl) (Nat.le_of_ble_eq_true rfl) ?_
  refine lv_dup hx hb dX4_init_41 rfl ?_
  have hPc := hP.sub (ws' := [(o0, .inr (0, [.null, .null, .null, .null, .int 0, .int 0, .int 0, .int 0]))]) [9] rfl
  have hDc := hD.sub (ws' := [(o0, .inr (0, [.null, .null, .null, .null, .int 0, .int 0, .int 0, .int 0]))]) [9] (by decide) rfl
  have hFc := va_free (wc := [(o0, .inr (0, [.null, .null, .null, .null, .int 0, .int 0, .int 0, .int 0]))]) hD hS hA [9] rfl
  refine va_callv (va_runIN (As := []) (rest := [.ref o0, .ref h0]) (host := "ColdGrid") ⟨hx, hb, hml, hown, hts⟩ (n_X0 l dC dI cA o0 H.size) ⟨va_cnB 0 hts (n_good (ix_wd_in (j := 105) (by decide +kernel))) rfl rfl rfl (hN _ (ix_wn_in (j := 103) (by decide +kernel)) rfl) (hts (.initialized RX0) (ix_wd_in (j := 40) (by decide +kernel))) (by decide +kernel) ⟨(Nat.le_of_ble_eq_true rfl), (Nat.le_of_ble_eq_true rfl)⟩, rfl, (hts (.instanceMethod yX0_init) (ix_wd_in (j := 104) (by decide +kernel)))⟩ ⟨fun a U g mk q => by obtain ⟨q0, q1, qP, qK, qD⟩ := q; exact ⟨q0, q1, qP, va_K.moved (u := U) (U := U.calling g mk a) (Vm.Alike.refl U.vm) qK, qD⟩, fun U hU hW => ⟨rfl, by rw [hU], by rw [hU]; exact hPc, va_K.moved hW.alike hK, hDc.weaken (fun _ _ _ _ => trivial)⟩⟩ rfl rfl hl.1 rfl (lv_room (Nat.le_of_ble_eq_true rfl)) dX4_init_42 ⟨(Nat.le_of_ble_eq_true rfl), (Nat.le_of_ble_eq_true rfl)⟩) hS (fun q _ h => hFc q h) hFc (fun u0 t H1 locs ht hvm h9 hB hz1 hk1 hS => ?_)
  obtain ⟨hP1, hK1, hD1⟩ := hB
  rw [ht] at hP1
  obtain ⟨hP, hD⟩ := va_join (wr := [(h0, .inr (4, [.ref o3, .ref o2, .ref o1, .null, .null, .null])), (o3, .inr (3, [.ref (u3 0), .ref (u3 1), .int 4, .int 0])), ((u3 0), .inl (cA, 64, .inl (fun _ => 0))), ((u3 1), .inl (cA, 64, .inl (fun _ => 0))), (o2, .inr (2, [.ref (u2 0), .ref (u2 1), .int 0])), ((u2 0), .inl (cA, 6, .inl (fun _ => 0))), ((u2 1), .inl (cA, 6, .inl (fun _ => 0))), (o1, .inr (1, [.ref (u1 0), .int 0])), ((u1 0), .inl (cA, 8, .inl (fun _ => 0)))]) (w1 := [(o0, .inr (0, [.ref (u0 0), .ref (u0 1), .ref (u0 2), .ref (u0 3), .int 0, .int 0, .int 0, .int 0])), ((u0 0), .inl (cA, 20, .inl (fun _ => 0))), ((u0 1), .inl (cA, 20, .inl (fun _ => 0))), ((u0 2), .inl (cA, 20, .inl (fun _ => 0))), ((u0 3), .inl (cA, 14, .inl (fun _ => 0)))]) hP hD [9] [0, 1, 2, 3, 4, 5, 6, 7, 8] rfl rfl (by decide) (by decide) hk1 hFc hP1 hD1
  generalize H1 = H at hP hS ⊢
  have hP : va_P (dC, dI) vwCl [(h0, .inr (4, [.ref o3, .ref o2, .ref o1, .null, .null, .null])), (o3, .inr (3, [.ref (u3 0), .ref (u3 1), .int 4, .int 0])), ((u3 0), .inl (cA, 64, .inl (fun _ => 0))), ((u3 1), .inl (cA, 64, .inl (fun _ => 0))), (o2, .inr (2, [.ref (u2 0), .ref (u2 1), .int 0])), ((u2 0), .inl (cA, 6, .inl (fun _ => 0))), ((u2 1), .inl (cA, 6, .inl (fun _ => 0))), (o1, .inr (1, [.ref (u1 0), .int 0])), ((u1 0), .inl (cA, 8, .inl (fun _ => 0))), (o0, .inr (0, [.ref (u0 0), .ref (u0 1), .ref (u0 2), .ref (u0 3), .int 0, .int 0, .int 0, .int 0])), ((u0 0), .inl (cA, 20, .inl (fun _ => 0))), ((u0 1), .inl (cA, 20, .inl (fun _ => 0))), ((u0 2), .inl (cA, 20, .inl (fun _ => 0))), ((u0 3), .inl (cA, 14, .inl (fun _ => 0)))] H := hP
  have hD : va_D A [(h0, .inr (4, [.ref o3, .ref o2, .ref o1, .null, .null, .null])), (o3, .inr (3, [.ref (u3 0), .ref (u3 1), .int 4, .int 0])), ((u3 0), .inl (cA, 64, .inl (fun _ => 0))), ((u3 1), .inl (cA, 64, .inl (fun _ => 0))), (o2, .inr (2, [.ref (u2 0), .ref (u2 1), .int 0])), ((u2 0), .inl (cA, 6, .inl (fun _ => 0))), ((u2 1), .inl (cA, 6, .inl (fun _ => 0))), (o1, .inr (1, [.ref (u1 0), .int 0])), ((u1 0), .inl (cA, 8, .inl (fun _ => 0))), (o0, .inr (0, [.ref (u0 0), .ref (u0 1), .ref (u0 2), .ref (u0 3), .int 0, .int 0, .int 0, .int 0])), ((u0 0), .inl (cA, 20, .inl (fun _ => 0))), ((u0 1), .inl (cA, 20, .inl (fun _ => 0))), ((u0 2), .inl (cA, 20, .inl (fun _ => 0))), ((u0 3), .inl (cA, 14, .inl (fun _ => 0)))] := hD
  refine W.widen (k := 13) (n := 239) (Nat.le_of_ble_eq_true rfl) (Nat.le_of_ble_eq_true rfl) ?_
  refine va_putF (D := (dC, dI)) (ci := 4) (v := .ref o0) (ty := .object "ColdGrid$CellEnergy") (C := RX4) (T := TX4) (N := 6) hx hb hts ix_uw4 tyX4 tyX4_ok nmX4 hown hK hP hD hS 0 rfl rfl 3 (by decide) (hts (.fieldLink RX4 33 "ColdGrid" "cellEnergy" "LColdGrid$CellEnergy;") (ix_wd_in (j := 135) (by decide +kernel))) (fun _ h9 => h9) rfl hin rfl (by decide +kernel) rfl rfl (Nat.le_of_ble_eq_true rfl) dX4_init_45 (fun H locs hP hD hS => ?_)
  have hP : va_P (dC, dI) vwCl [(h0, .inr (4, [.ref o3, .ref o2, .ref o1, .ref o0, .null, .null])), (o3, .inr (3, [.ref (u3 0), .ref (u3 1), .int 4, .int 0])), ((u3 0), .inl (cA, 64, .inl (fun _ => 0))), ((u3 1), .inl (cA, 64, .inl (fun _ => 0))), (o2, .inr (2, [.ref (u2 0), .ref (u2 1), .int 0])), ((u2 0), .inl (cA, 6, .inl (fun _ => 0))), ((u2 1), .inl (cA, 6, .inl (fun _ => 0))), (o1, .inr (1, [.ref (u1 0), .int 0])), ((u1 0), .inl (cA, 8, .inl (fun _ => 0))), (o0, .inr (0, [.ref (u0 0), .ref (u0 1), .ref (u0 2), .ref (u0 3), .int 0, .int 0, .int 0, .int 0])), ((u0 0), .inl (cA, 20, .inl (fun _ => 0))), ((u0 1), .inl (cA, 20, .inl (fun _ => 0))), ((u0 2), .inl (cA, 20, .inl (fun _ => 0))), ((u0 3), .inl (cA, 14, .inl (fun _ => 0)))] H := hP
  have hD : va_D A [(h0, .inr (4, [.ref o3, .ref o2, .ref o1, .ref o0, .null, .null])), (o3, .inr (3, [.ref (u3 0), .ref (u3 1), .int 4, .int 0])), ((u3 0), .inl (cA, 64, .inl (fun _ => 0))), ((u3 1), .inl (cA, 64, .inl (fun _ => 0))), (o2, .inr (2, [.ref (u2 0), .ref (u2 1), .int 0])), ((u2 0), .inl (cA, 6, .inl (fun _ => 0))), ((u2 1), .inl (cA, 6, .inl (fun _ => 0))), (o1, .inr (1, [.ref (u1 0), .int 0])), ((u1 0), .inl (cA, 8, .inl (fun _ => 0))), (o0, .inr (0, [.ref (u0 0), .ref (u0 1), .ref (u0 2), .ref (u0 3), .int 0, .int 0, .int 0, .int 0])), ((u0 0), .inl (cA, 20, .inl (fun _ => 0))), ((u0 1), .inl (cA, 20, .inl (fun _ => 0))), ((u0 2), .inl (cA, 20, .inl (fun _ => 0))), ((u0 3), .inl (cA, 14, .inl (fun _ => 0)))] := hD
  refine lv_aload_n hx hb dX4_init_48 rfl (lv_at hl 0 rfl) ?_
  refine lv_sipush (v := nI 256) hx hb dX4_init_49 (by decide) ?_
  refine ix_newa hx hb harr hK hP hD hS hA 256 (by decide) (Nat.le_of_ble_eq_true rfl) (Nat.le_of_ble_eq_true rfl) dX4_init_52 (fun q0 H hP hD hS => ?_)
  have hP : va_P (dC, dI) vwCl [(h0, .inr (4, [.ref o3, .ref o2, .ref o1, .ref o0, .null, .null])), (o3, .inr (3, [.ref (u3 0), .ref (u3 1), .int 4, .int 0])), ((u3 0), .inl (cA, 64, .inl (fun _ => 0))), ((u3 1), .inl (cA, 64, .inl (fun _ => 0))), (o2, .inr (2, [.ref (u2 0), .ref (u2 1), .int 0])), ((u2 0), .inl (cA, 6, .inl (fun _ => 0))), ((u2 1), .inl (cA, 6, .inl (fun _ => 0))), (o1, .inr (1, [.ref (u1 0), .int 0])), ((u1 0), .inl (cA, 8, .inl (fun _ => 0))), (o0, .inr (0, [.ref (u0 0), .ref (u0 1), .ref (u0 2), .ref (u0 3), .int 0, .int 0, .int 0, .int 0])), ((u0 0), .inl (cA, 20, .inl (fun _ => 0))), ((u0 1), .inl (cA, 20, .inl (fun _ => 0))), ((u0 2), .inl (cA, 20, .inl (fun _ => 0))), ((u0 3), .inl (cA, 14, .inl (fun _ => 0))), (q0, .inl (cA, 256, .inl (fun _ => 0)))] H := hP
  have hD : va_D A [(h0, .inr (4, [.ref o3, .ref o2, .ref o1, .ref o0, .null, .null])), (o3, .inr (3, [.ref (u3 0), .ref (u3 1), .int 4, .int 0])), ((u3 0), .inl (cA, 64, .inl (fun _ => 0))), ((u3 1), .inl (cA, 64, .inl (fun _ => 0))), (o2, .inr (2, [.ref (u2 0), .ref (u2 1), .int 0])), ((u2 0), .inl (cA, 6, .inl (fun _ => 0))), ((u2 1), .inl (cA, 6, .inl (fun _ => 0))), (o1, .inr (1, [.ref (u1 0), .int 0])), ((u1 0), .inl (cA, 8, .inl (fun _ => 0))), (o0, .inr (0, [.ref (u0 0), .ref (u0 1), .ref (u0 2), .ref (u0 3), .int 0, .int 0, .int 0, .int 0])), ((u0 0), .inl (cA, 20, .inl (fun _ => 0))), ((u0 1), .inl (cA, 20, .inl (fun _ => 0))), ((u0 2), .inl (cA, 20, .inl (fun _ => 0))), ((u0 3), .inl (cA, 14, .inl (fun _ => 0))), (q0, .inl (cA, 256, .inl (fun _ => 0)))] := hD
  refine W.widen (k := 14) (n := 495) (Nat.le_of_ble_eq_true rfl) (Nat.le_of_ble_eq_true rfl) ?_
  refine va_putF (D := (dC, dI)) (ci := 4) (v := .ref q0) (ty := .array .int) (C := RX4) (T := TX4) (N := 6) hx hb hts ix_uw4 tyX4 tyX4_ok nmX4 hown hK hP hD hS 0 rfl rfl 4 (by decide) (hts (.fieldLink RX4 37 "ColdGrid" "row" "[I") (ix_wd_in (j := 136) (by decide +kernel))) (fun _ h9 => h9) rfl hin rfl (by decide +kernel) rfl rfl (Nat.le_of_ble_eq_true rfl) dX4_init_54 (fun H locs hP hD hS => ?_)
  have hP : va_P (dC, dI) vwCl [(h0, .inr (4, [.ref o3, .ref o2, .ref o1, .ref o0, .ref q0, .null])), (o3, .inr (3, [.ref (u3 0), .ref (u3 1), .int 4, .int 0])), ((u3 0), .inl (cA, 64, .inl (fun _ => 0))), ((u3 1), .inl (cA, 64, .inl (fun _ => 0))), (o2, .inr (2, [.ref (u2 0), .ref (u2 1), .int 0])), ((u2 0), .inl (cA, 6, .inl (fun _ => 0))), ((u2 1), .inl (cA, 6, .inl (fun _ => 0))), (o1, .inr (1, [.ref (u1 0), .int 0])), ((u1 0), .inl (cA, 8, .inl (fun _ => 0))), (o0, .inr (0, [.ref (u0 0), .ref (u0 1), .ref (u0 2), .ref (u0 3), .int 0, .int 0, .int 0, .int 0])), ((u0 0), .inl (cA, 20, .inl (fun _ => 0))), ((u0 1), .inl (cA, 20, .inl (fun _ => 0))), ((u0 2), .inl (cA, 20, .inl (fun _ => 0))), ((u0 3), .inl (cA, 14, .inl (fun _ => 0))), (q0, .inl (cA, 256, .inl (fun _ => 0)))] H := hP
  have hD : va_D A [(h0, .inr (4, [.ref o3, .ref o2, .ref o1, .ref o0, .ref q0, .null])), (o3, .inr (3, [.ref (u3 0), .ref (u3 1), .int 4, .int 0])), ((u3 0), .inl (cA, 64, .inl (fun _ => 0))), ((u3 1), .inl (cA, 64, .inl (fun _ => 0))), (o2, .inr (2, [.ref (u2 0), .ref (u2 1), .int 0])), ((u2 0), .inl (cA, 6, .inl (fun _ => 0))), ((u2 1), .inl (cA, 6, .inl (fun _ => 0))), (o1, .inr (1, [.ref (u1 0), .int 0])), ((u1 0), .inl (cA, 8, .inl (fun _ => 0))), (o0, .inr (0, [.ref (u0 0), .ref (u0 1), .ref (u0 2), .ref (u0 3), .int 0, .int 0, .int 0, .int 0])), ((u0 0), .inl (cA, 20, .inl (fun _ => 0))), ((u0 1), .inl (cA, 20, .inl (fun _ => 0))), ((u0 2), .inl (cA, 20, .inl (fun _ => 0))), ((u0 3), .inl (cA, 14, .inl (fun _ => 0))), (q0, .inl (cA, 256, .inl (fun _ => 0)))] := hD
  refine lv_aload_n hx hb dX4_init_57 rfl (lv_at hl 0 rfl) ?_
  refine lv_sipush (v := nI 256) hx hb dX4_init_58 (by decide) ?_
  refine ix_newa hx hb harr hK hP hD hS hA 256 (by decide) (Nat.le_of_ble_eq_true rfl) (Nat.le_of_ble_eq_true rfl) dX4_init_61 (fun q1 H hP hD hS => ?_)
  have hP : va_P (dC, dI) vwCl [(h0, .inr (4, [.ref o3, .ref o2, .ref o1, .ref o0, .ref q0, .null])), (o3, .inr (3, [.ref (u3 0), .ref (u3 1), .int 4, .int 0])), ((u3 0), .inl (cA, 64, .inl (fun _ => 0))), ((u3 1), .inl (cA, 64, .inl (fun _ => 0))), (o2, .inr (2, [.ref (u2 0), .ref (u2 1), .int 0])), ((u2 0), .inl (cA, 6, .inl (fun _ => 0))), ((u2 1), .inl (cA, 6, .inl (fun _ => 0))), (o1, .inr (1, [.ref (u1 0), .int 0])), ((u1 0), .inl (cA, 8, .inl (fun _ => 0))), (o0, .inr (0, [.ref (u0 0), .ref (u0 1), .ref (u0 2), .ref (u0 3), .int 0, .int 0, .int 0, .int 0])), ((u0 0), .inl (cA, 20, .inl (fun _ => 0))), ((u0 1), .inl (cA, 20, .inl (fun _ => 0))), ((u0 2), .inl (cA, 20, .inl (fun _ => 0))), ((u0 3), .inl (cA, 14, .inl (fun _ => 0))), (q0, .inl (cA, 256, .inl (fun _ => 0))), (q1, .inl (cA, 256, .inl (fun _ => 0)))] H := hP
  have hD : va_D A [(h0, .inr (4, [.ref o3, .ref o2, .ref o1, .ref o0, .ref q0, .null])), (o3, .inr (3, [.ref (u3 0), .ref (u3 1), .int 4, .int 0])), ((u3 0), .inl (cA, 64, .inl (fun _ => 0))), ((u3 1), .inl (cA, 64, .inl (fun _ => 0))), (o2, .inr (2, [.ref (u2 0), .ref (u2 1), .int 0])), ((u2 0), .inl (cA, 6, .inl (fun _ => 0))), ((u2 1), .inl (cA, 6, .inl (fun _ => 0))), (o1, .inr (1, [.ref (u1 0), .int 0])), ((u1 0), .inl (cA, 8, .inl (fun _ => 0))), (o0, .inr (0, [.ref (u0 0), .ref (u0 1), .ref (u0 2), .ref (u0 3), .int 0, .int 0, .int 0, .int 0])), ((u0 0), .inl (cA, 20, .inl (fun _ => 0))), ((u0 1), .inl (cA, 20, .inl (fun _ => 0))), ((u0 2), .inl (cA, 20, .inl (fun _ => 0))), ((u0 3), .inl (cA, 14, .inl (fun _ => 0))), (q0, .inl (cA, 256, .inl (fun _ => 0))), (q1, .inl (cA, 256, .inl (fun _ => 0)))] := hD
  refine W.widen (k := 15) (n := 751) (Nat.le_of_ble_eq_true rfl) (Nat.le_of_ble_eq_true rfl) ?_
  refine va_putF (D := (dC, dI)) (ci := 4) (v := .ref q1) (ty := .array .int) (C := RX4) (T := TX4) (N := 6) hx hb hts ix_uw4 tyX4 tyX4_ok nmX4 hown hK hP hD hS 0 rfl rfl 5 (by decide) (hts (.fieldLink RX4 41 "ColdGrid" "otherRow" "[I") (ix_wd_in (j := 137) (by decide +kernel))) (fun _ h9 => h9) rfl hin rfl (by decide +kernel) rfl rfl (Nat.le_of_ble_eq_true rfl) dX4_init_63 (fun H locs hP hD hS => ?_)
  have hP : va_P (dC, dI) vwCl [(h0, .inr (4, [.ref o3, .ref o2, .ref o1, .ref o0, .ref q0, .ref q1])), (o3, .inr (3, [.ref (u3 0), .ref (u3 1), .int 4, .int 0])), ((u3 0), .inl (cA, 64, .inl (fun _ => 0))), ((u3 1), .inl (cA, 64, .inl (fun _ => 0))), (o2, .inr (2, [.ref (u2 0), .ref (u2 1), .int 0])), ((u2 0), .inl (cA, 6, .inl (fun _ => 0))), ((u2 1), .inl (cA, 6, .inl (fun _ => 0))), (o1, .inr (1, [.ref (u1 0), .int 0])), ((u1 0), .inl (cA, 8, .inl (fun _ => 0))), (o0, .inr (0, [.ref (u0 0), .ref (u0 1), .ref (u0 2), .ref (u0 3), .int 0, .int 0, .int 0, .int 0])), ((u0 0), .inl (cA, 20, .inl (fun _ => 0))), ((u0 1), .inl (cA, 20, .inl (fun _ => 0))), ((u0 2), .inl (cA, 20, .inl (fun _ => 0))), ((u0 3), .inl (cA, 14, .inl (fun _ => 0))), (q0, .inl (cA, 256, .inl (fun _ => 0))), (q1, .inl (cA, 256, .inl (fun _ => 0)))] H := hP
  have hD : va_D A [(h0, .inr (4, [.ref o3, .ref o2, .ref o1, .ref o0, .ref q0, .ref q1])), (o3, .inr (3, [.ref (u3 0), .ref (u3 1), .int 4, .int 0])), ((u3 0), .inl (cA, 64, .inl (fun _ => 0))), ((u3 1), .inl (cA, 64, .inl (fun _ => 0))), (o2, .inr (2, [.ref (u2 0), .ref (u2 1), .int 0])), ((u2 0), .inl (cA, 6, .inl (fun _ => 0))), ((u2 1), .inl (cA, 6, .inl (fun _ => 0))), (o1, .inr (1, [.ref (u1 0), .int 0])), ((u1 0), .inl (cA, 8, .inl (fun _ => 0))), (o0, .inr (0, [.ref (u0 0), .ref (u0 1), .ref (u0 2), .ref (u0 3), .int 0, .int 0, .int 0, .int 0])), ((u0 0), .inl (cA, 20, .inl (fun _ => 0))), ((u0 1), .inl (cA, 20, .inl (fun _ => 0))), ((u0 2), .inl (cA, 20, .inl (fun _ => 0))), ((u0 3), .inl (cA, 14, .inl (fun _ => 0))), (q0, .inl (cA, 256, .inl (fun _ => 0))), (q1, .inl (cA, 256, .inl (fun _ => 0)))] := hD
  have hP9 := hP.sub (ws' := ix_mw (fun i => [h0, o3, o2, o1, o0, q0, q1, (u3 0), (u3 1), (u2 0), (u2 1), (u1 0), (u0 0), (u0 1), (u0 2), (u0 3)].getD i 0) cA (cw 4 0 (fun _ => 0) (fun _ => 0) 0 (fun _ => 0) (fun _ => 0) 0 (fun _ => 0) (fun _ => 0) (fun _ => 0) (fun _ => 0) (fun _ => 0) (fun _ => 0) (fun _ => 0) 0 0 0 0)) [0, 1, 4, 7, 9, 14, 15, 2, 3, 5, 6, 8, 10, 11, 12, 13] rfl
  have hD9 := hD.sub (ws' := ix_mw (fun i => [h0, o3, o2, o1, o0, q0, q1, (u3 0), (u3 1), (u2 0), (u2 1), (u1 0), (u0 0), (u0 1), (u0 2), (u0 3)].getD i 0) cA (cw 4 0 (fun _ => 0) (fun _ => 0) 0 (fun _ => 0) (fun _ => 0) 0 (fun _ => 0) (fun _ => 0) (fun _ => 0) (fun _ => 0) (fun _ => 0) (fun _ => 0) (fun _ => 0) 0 0 0 0)) [0, 1, 4, 7, 9, 14, 15, 2, 3, 5, 6, 8, 10, 11, 12, 13] (by decide) rfl
  exact W.vret hx hb hr (fun t ht hW => ⟨⟨fun i => [h0, o3, o2, o1, o0, q0, q1, (u3 0), (u3 1), (u2 0), (u2 1), (u1 0), (u0 0), (u0 1), (u0 2), (u0 3)].getD i 0, rfl, rfl, by rw [ht]; exact hP9, va_K.moved hW.alike hK, hD9⟩, hS.F ht⟩) hS.2.2 dX4_init_66
end
