section
-- ===== PART A: goes FIRST, ahead of the names: the tables' words, and 'selects' of the private methods out of them =====
/-- a private method of a class that the tables say can be made, by its rows of tables_1 -/
def lw_okq (q : MethodName × Nat) : Prop := (q.1.cls ≠ "java/lang/invoke/MethodHandle" ∧ q.1.cls ≠ "java/lang/invoke/VarHandle") ∧ Cond.instantiable q.1.cls q.2 ∈ tables_1 ∧ Cond.privateMethod q.1 ∈ tables_1 ∧ Cond.instanceMethod q.1 ∈ tables_1
theorem lw_p0 : lw_okq (⟨"OneRing$Text", "fits", "(I)Z"⟩, 2) := ⟨⟨by decide +kernel, by decide +kernel⟩, List.mem_of_getElem? (i := 19) (by decide +kernel), List.mem_of_getElem? (i := 213) (by decide +kernel), List.mem_of_getElem? (i := 214) (by decide +kernel)⟩
theorem lw_p1 : lw_okq (⟨"OneRing$Text", "fitsWedding", "(I)Z"⟩, 2) := ⟨⟨by decide +kernel, by decide +kernel⟩, List.mem_of_getElem? (i := 19) (by decide +kernel), List.mem_of_getElem? (i := 217) (by decide +kernel), List.mem_of_getElem? (i := 218) (by decide +kernel)⟩
theorem lw_p2 : lw_okq (⟨"OneRing$Text", "isFigure", "(III)Z"⟩, 2) := ⟨⟨by decide +kernel, by decide +kernel⟩, List.mem_of_getElem? (i := 19) (by decide +kernel), List.mem_of_getElem? (i := 221) (by decide +kernel), List.mem_of_getElem? (i := 222) (by decide +kernel)⟩
theorem lw_p3 : lw_okq (⟨"OneRing$Acts", "standAt", "(I)LOneRing$Stand;"⟩, 3) := ⟨⟨by decide +kernel, by decide +kernel⟩, List.mem_of_getElem? (i := 86) (by decide +kernel), List.mem_of_getElem? (i := 314) (by decide +kernel), List.mem_of_getElem? (i := 315) (by decide +kernel)⟩
theorem lw_p4 : lw_okq (⟨"OneRing$Search", "allows", "(II)Z"⟩, 10) := ⟨⟨by decide +kernel, by decide +kernel⟩, List.mem_of_getElem? (i := 106) (by decide +kernel), List.mem_of_getElem? (i := 372) (by decide +kernel), List.mem_of_getElem? (i := 373) (by decide +kernel)⟩
theorem lw_p5 : lw_okq (⟨"OneRing$Search", "record", "(IIII)V"⟩, 10) := ⟨⟨by decide +kernel, by decide +kernel⟩, List.mem_of_getElem? (i := 106) (by decide +kernel), List.mem_of_getElem? (i := 380) (by decide +kernel), List.mem_of_getElem? (i := 381) (by decide +kernel)⟩
theorem lw_p6 : lw_okq (⟨"OneRing", "mostFrom", "(LOneRing$Stand;)I"⟩, 13) := ⟨⟨by decide +kernel, by decide +kernel⟩, List.mem_of_getElem? (i := 11) (by decide +kernel), List.mem_of_getElem? (i := 393) (by decide +kernel), List.mem_of_getElem? (i := 394) (by decide +kernel)⟩
theorem lw_p7 : lw_okq (⟨"OneRing", "fillMostOf", "()V"⟩, 13) := ⟨⟨by decide +kernel, by decide +kernel⟩, List.mem_of_getElem? (i := 11) (by decide +kernel), List.mem_of_getElem? (i := 451) (by decide +kernel), List.mem_of_getElem? (i := 452) (by decide +kernel)⟩
theorem lw_p8 : lw_okq (⟨"OneRing", "isAtRest", "(IIII)Z"⟩, 13) := ⟨⟨by decide +kernel, by decide +kernel⟩, List.mem_of_getElem? (i := 11) (by decide +kernel), List.mem_of_getElem? (i := 468) (by decide +kernel), List.mem_of_getElem? (i := 469) (by decide +kernel)⟩
theorem lw_p9 : lw_okq (⟨"OneRing", "gain", "(IIII)I"⟩, 13) := ⟨⟨by decide +kernel, by decide +kernel⟩, List.mem_of_getElem? (i := 11) (by decide +kernel), List.mem_of_getElem? (i := 472) (by decide +kernel), List.mem_of_getElem? (i := 473) (by decide +kernel)⟩
theorem lw_p10 : lw_okq (⟨"OneRing", "isRowOfOpenWeddings", "(II)Z"⟩, 13) := ⟨⟨by decide +kernel, by decide +kernel⟩, List.mem_of_getElem? (i := 11) (by decide +kernel), List.mem_of_getElem? (i := 480) (by decide +kernel), List.mem_of_getElem? (i := 481) (by decide +kernel)⟩
theorem lw_p11 : lw_okq (⟨"OneRing", "weightOfFalls", "(IIII)I"⟩, 13) := ⟨⟨by decide +kernel, by decide +kernel⟩, List.mem_of_getElem? (i := 11) (by decide +kernel), List.mem_of_getElem? (i := 484) (by decide +kernel), List.mem_of_getElem? (i := 485) (by decide +kernel)⟩
theorem lw_p12 : lw_okq (⟨"OneRing", "holdsWithFalls", "(III)Z"⟩, 13) := ⟨⟨by decide +kernel, by decide +kernel⟩, List.mem_of_getElem? (i := 11) (by decide +kernel), List.mem_of_getElem? (i := 488) (by decide +kernel), List.mem_of_getElem? (i := 489) (by decide +kernel)⟩
theorem lw_p13 : lw_okq (⟨"OneRing", "isSlot", "(I)Z"⟩, 13) := ⟨⟨by decide +kernel, by decide +kernel⟩, List.mem_of_getElem? (i := 11) (by decide +kernel), List.mem_of_getElem? (i := 506) (by decide +kernel), List.mem_of_getElem? (i := 507) (by decide +kernel)⟩
theorem lw_p14 : lw_okq (⟨"OneRing", "holdingNext", "()I"⟩, 13) := ⟨⟨by decide +kernel, by decide +kernel⟩, List.mem_of_getElem? (i := 11) (by decide +kernel), List.mem_of_getElem? (i := 518) (by decide +kernel), List.mem_of_getElem? (i := 519) (by decide +kernel)⟩
theorem lw_p15 : lw_okq (⟨"OneRingModel", "mayBe", "(I)Z"⟩, 21) := ⟨⟨by decide +kernel, by decide +kernel⟩, List.mem_of_getElem? (i := 522) (by decide +kernel), List.mem_of_getElem? (i := 608) (by decide +kernel), List.mem_of_getElem? (i := 609) (by decide +kernel)⟩
def lw_privs_1 : List (MethodName × Nat) := [(⟨"OneRing$Text", "fits", "(I)Z"⟩, 2), (⟨"OneRing$Text", "fitsWedding", "(I)Z"⟩, 2), (⟨"OneRing$Text", "isFigure", "(III)Z"⟩, 2), (⟨"OneRing$Acts", "standAt", "(I)LOneRing$Stand;"⟩, 3), (⟨"OneRing$Search", "allows", "(II)Z"⟩, 10), (⟨"OneRing$Search", "record", "(IIII)V"⟩, 10), (⟨"OneRing", "mostFrom", "(LOneRing$Stand;)I"⟩, 13), (⟨"OneRing", "fillMostOf", "()V"⟩, 13), (⟨"OneRing", "isAtRest", "(IIII)Z"⟩, 13), (⟨"OneRing", "gain", "(IIII)I"⟩, 13), (⟨"OneRing", "isRowOfOpenWeddings", "(II)Z"⟩, 13), (⟨"OneRing", "weightOfFalls", "(IIII)I"⟩, 13), (⟨"OneRing", "holdsWithFalls", "(III)Z"⟩, 13), (⟨"OneRing", "isSlot", "(I)Z"⟩, 13), (⟨"OneRing", "holdingNext", "()I"⟩, 13), (⟨"OneRingModel", "mayBe", "(I)Z"⟩, 21)]
theorem lw_r1 : ∀ q ∈ lw_privs_1, lw_okq q := List.forall_mem_cons.mpr ⟨lw_p0, List.forall_mem_cons.mpr ⟨lw_p1, List.forall_mem_cons.mpr ⟨lw_p2, List.forall_mem_cons.mpr ⟨lw_p3, List.forall_mem_cons.mpr ⟨lw_p4, List.forall_mem_cons.mpr ⟨lw_p5, List.forall_mem_cons.mpr ⟨lw_p6, List.forall_mem_cons.mpr ⟨lw_p7, List.forall_mem_cons.mpr ⟨lw_p8, List.forall_mem_cons.mpr ⟨lw_p9, List.forall_mem_cons.mpr ⟨lw_p10, List.forall_mem_cons.mpr ⟨lw_p11, List.forall_mem_cons.mpr ⟨lw_p12, List.forall_mem_cons.mpr ⟨lw_p13, List.forall_mem_cons.mpr ⟨lw_p14, List.forall_mem_cons.mpr ⟨lw_p15, fun _ h => absurd h List.not_mem_nil⟩⟩⟩⟩⟩⟩⟩⟩⟩⟩⟩⟩⟩⟩⟩⟩
theorem lw_p16 : lw_okq (⟨"OneRingModel", "isWedding", "(I)Z"⟩, 21) := ⟨⟨by decide +kernel, by decide +kernel⟩, List.mem_of_getElem? (i := 522) (by decide +kernel), List.mem_of_getElem? (i := 624) (by decide +kernel), List.mem_of_getElem? (i := 625) (by decide +kernel)⟩
theorem lw_p17 : lw_okq (⟨"OneRingModel", "beginsNow", "(II)I"⟩, 21) := ⟨⟨by decide +kernel, by decide +kernel⟩, List.mem_of_getElem? (i := 522) (by decide +kernel), List.mem_of_getElem? (i := 628) (by decide +kernel), List.mem_of_getElem? (i := 629) (by decide +kernel)⟩
theorem lw_p18 : lw_okq (⟨"OneRingModel", "begins", "(IIIII)I"⟩, 21) := ⟨⟨by decide +kernel, by decide +kernel⟩, List.mem_of_getElem? (i := 522) (by decide +kernel), List.mem_of_getElem? (i := 635) (by decide +kernel), List.mem_of_getElem? (i := 636) (by decide +kernel)⟩
theorem lw_p19 : lw_okq (⟨"OneRingModel", "wayOn", "(III)I"⟩, 21) := ⟨⟨by decide +kernel, by decide +kernel⟩, List.mem_of_getElem? (i := 522) (by decide +kernel), List.mem_of_getElem? (i := 639) (by decide +kernel), List.mem_of_getElem? (i := 640) (by decide +kernel)⟩
theorem lw_p20 : lw_okq (⟨"OneRingModel", "lasts", "(I)I"⟩, 21) := ⟨⟨by decide +kernel, by decide +kernel⟩, List.mem_of_getElem? (i := 522) (by decide +kernel), List.mem_of_getElem? (i := 643) (by decide +kernel), List.mem_of_getElem? (i := 644) (by decide +kernel)⟩
theorem lw_p21 : lw_okq (⟨"OneRingModel", "keepAct", "()V"⟩, 21) := ⟨⟨by decide +kernel, by decide +kernel⟩, List.mem_of_getElem? (i := 522) (by decide +kernel), List.mem_of_getElem? (i := 663) (by decide +kernel), List.mem_of_getElem? (i := 664) (by decide +kernel)⟩
theorem lw_p22 : lw_okq (⟨"OneRingModel", "wedOn", "(II)Z"⟩, 21) := ⟨⟨by decide +kernel, by decide +kernel⟩, List.mem_of_getElem? (i := 522) (by decide +kernel), List.mem_of_getElem? (i := 667) (by decide +kernel), List.mem_of_getElem? (i := 668) (by decide +kernel)⟩
theorem lw_p23 : lw_okq (⟨"OneRingModel", "behind", "(II)I"⟩, 21) := ⟨⟨by decide +kernel, by decide +kernel⟩, List.mem_of_getElem? (i := 522) (by decide +kernel), List.mem_of_getElem? (i := 671) (by decide +kernel), List.mem_of_getElem? (i := 672) (by decide +kernel)⟩
theorem lw_p24 : lw_okq (⟨"OneRingModel", "every", "()I"⟩, 21) := ⟨⟨by decide +kernel, by decide +kernel⟩, List.mem_of_getElem? (i := 522) (by decide +kernel), List.mem_of_getElem? (i := 696) (by decide +kernel), List.mem_of_getElem? (i := 697) (by decide +kernel)⟩
theorem lw_p25 : lw_okq (⟨"OneRingModel", "mostOn", "(II)I"⟩, 21) := ⟨⟨by decide +kernel, by decide +kernel⟩, List.mem_of_getElem? (i := 522) (by decide +kernel), List.mem_of_getElem? (i := 700) (by decide +kernel), List.mem_of_getElem? (i := 701) (by decide +kernel)⟩
theorem lw_p26 : lw_okq (⟨"OneRingModel", "noteEarlier", "(III)V"⟩, 21) := ⟨⟨by decide +kernel, by decide +kernel⟩, List.mem_of_getElem? (i := 522) (by decide +kernel), List.mem_of_getElem? (i := 704) (by decide +kernel), List.mem_of_getElem? (i := 705) (by decide +kernel)⟩
theorem lw_p27 : lw_okq (⟨"OneRingModel", "firstRow", "(I)I"⟩, 21) := ⟨⟨by decide +kernel, by decide +kernel⟩, List.mem_of_getElem? (i := 522) (by decide +kernel), List.mem_of_getElem? (i := 711) (by decide +kernel), List.mem_of_getElem? (i := 712) (by decide +kernel)⟩
theorem lw_p28 : lw_okq (⟨"OneRingModel", "goesOn", "(III)Z"⟩, 21) := ⟨⟨by decide +kernel, by decide +kernel⟩, List.mem_of_getElem? (i := 522) (by decide +kernel), List.mem_of_getElem? (i := 715) (by decide +kernel), List.mem_of_getElem? (i := 716) (by decide +kernel)⟩
theorem lw_p29 : lw_okq (⟨"OneRingModel", "layTrial", "()V"⟩, 21) := ⟨⟨by decide +kernel, by decide +kernel⟩, List.mem_of_getElem? (i := 522) (by decide +kernel), List.mem_of_getElem? (i := 719) (by decide +kernel), List.mem_of_getElem? (i := 720) (by decide +kernel)⟩
theorem lw_p30 : lw_okq (⟨"OneRingModel", "endOf", "(I)I"⟩, 21) := ⟨⟨by decide +kernel, by decide +kernel⟩, List.mem_of_getElem? (i := 522) (by decide +kernel), List.mem_of_getElem? (i := 724) (by decide +kernel), List.mem_of_getElem? (i := 725) (by decide +kernel)⟩
theorem lw_p31 : lw_okq (⟨"OneRingModel", "rowBy", "(II)I"⟩, 21) := ⟨⟨by decide +kernel, by decide +kernel⟩, List.mem_of_getElem? (i := 522) (by decide +kernel), List.mem_of_getElem? (i := 763) (by decide +kernel), List.mem_of_getElem? (i := 764) (by decide +kernel)⟩
def lw_privs_2 : List (MethodName × Nat) := [(⟨"OneRingModel", "isWedding", "(I)Z"⟩, 21), (⟨"OneRingModel", "beginsNow", "(II)I"⟩, 21), (⟨"OneRingModel", "begins", "(IIIII)I"⟩, 21), (⟨"OneRingModel", "wayOn", "(III)I"⟩, 21), (⟨"OneRingModel", "lasts", "(I)I"⟩, 21), (⟨"OneRingModel", "keepAct", "()V"⟩, 21), (⟨"OneRingModel", "wedOn", "(II)Z"⟩, 21), (⟨"OneRingModel", "behind", "(II)I"⟩, 21), (⟨"OneRingModel", "every", "()I"⟩, 21), (⟨"OneRingModel", "mostOn", "(II)I"⟩, 21), (⟨"OneRingModel", "noteEarlier", "(III)V"⟩, 21), (⟨"OneRingModel", "firstRow", "(I)I"⟩, 21), (⟨"OneRingModel", "goesOn", "(III)Z"⟩, 21), (⟨"OneRingModel", "layTrial", "()V"⟩, 21), (⟨"OneRingModel", "endOf", "(I)I"⟩, 21), (⟨"OneRingModel", "rowBy", "(II)I"⟩, 21)]
theorem lw_r2 : ∀ q ∈ lw_privs_2, lw_okq q := List.forall_mem_cons.mpr ⟨lw_p16, List.forall_mem_cons.mpr ⟨lw_p17, List.forall_mem_cons.mpr ⟨lw_p18, List.forall_mem_cons.mpr ⟨lw_p19, List.forall_mem_cons.mpr ⟨lw_p20, List.forall_mem_cons.mpr ⟨lw_p21, List.forall_mem_cons.mpr ⟨lw_p22, List.forall_mem_cons.mpr ⟨lw_p23, List.forall_mem_cons.mpr ⟨lw_p24, List.forall_mem_cons.mpr ⟨lw_p25, List.forall_mem_cons.mpr ⟨lw_p26, List.forall_mem_cons.mpr ⟨lw_p27, List.forall_mem_cons.mpr ⟨lw_p28, List.forall_mem_cons.mpr ⟨lw_p29, List.forall_mem_cons.mpr ⟨lw_p30, List.forall_mem_cons.mpr ⟨lw_p31, fun _ h => absurd h List.not_mem_nil⟩⟩⟩⟩⟩⟩⟩⟩⟩⟩⟩⟩⟩⟩⟩⟩
theorem lw_p32 : lw_okq (⟨"OneRingModel", "isSeen", "(I)Z"⟩, 21) := ⟨⟨by decide +kernel, by decide +kernel⟩, List.mem_of_getElem? (i := 522) (by decide +kernel), List.mem_of_getElem? (i := 767) (by decide +kernel), List.mem_of_getElem? (i := 768) (by decide +kernel)⟩
theorem lw_p33 : lw_okq (⟨"OneRingModel", "isRest", "(IIII)Z"⟩, 21) := ⟨⟨by decide +kernel, by decide +kernel⟩, List.mem_of_getElem? (i := 522) (by decide +kernel), List.mem_of_getElem? (i := 785) (by decide +kernel), List.mem_of_getElem? (i := 786) (by decide +kernel)⟩
theorem lw_p34 : lw_okq (⟨"OneRingModel", "gain", "(IIII)I"⟩, 21) := ⟨⟨by decide +kernel, by decide +kernel⟩, List.mem_of_getElem? (i := 522) (by decide +kernel), List.mem_of_getElem? (i := 789) (by decide +kernel), List.mem_of_getElem? (i := 790) (by decide +kernel)⟩
theorem lw_p35 : lw_okq (⟨"OneRingModel", "bringsOf", "(I)I"⟩, 21) := ⟨⟨by decide +kernel, by decide +kernel⟩, List.mem_of_getElem? (i := 522) (by decide +kernel), List.mem_of_getElem? (i := 793) (by decide +kernel), List.mem_of_getElem? (i := 794) (by decide +kernel)⟩
theorem lw_p36 : lw_okq (⟨"OneRingModel", "areOpen", "(II)Z"⟩, 21) := ⟨⟨by decide +kernel, by decide +kernel⟩, List.mem_of_getElem? (i := 522) (by decide +kernel), List.mem_of_getElem? (i := 802) (by decide +kernel), List.mem_of_getElem? (i := 803) (by decide +kernel)⟩
theorem lw_p37 : lw_okq (⟨"OneRingModel", "waysIn", "(II)I"⟩, 21) := ⟨⟨by decide +kernel, by decide +kernel⟩, List.mem_of_getElem? (i := 522) (by decide +kernel), List.mem_of_getElem? (i := 806) (by decide +kernel), List.mem_of_getElem? (i := 807) (by decide +kernel)⟩
theorem lw_p38 : lw_okq (⟨"OneRingModel", "holds", "(III)Z"⟩, 21) := ⟨⟨by decide +kernel, by decide +kernel⟩, List.mem_of_getElem? (i := 522) (by decide +kernel), List.mem_of_getElem? (i := 813) (by decide +kernel), List.mem_of_getElem? (i := 814) (by decide +kernel)⟩
def lw_privs_3 : List (MethodName × Nat) := [(⟨"OneRingModel", "isSeen", "(I)Z"⟩, 21), (⟨"OneRingModel", "isRest", "(IIII)Z"⟩, 21), (⟨"OneRingModel", "gain", "(IIII)I"⟩, 21), (⟨"OneRingModel", "bringsOf", "(I)I"⟩, 21), (⟨"OneRingModel", "areOpen", "(II)Z"⟩, 21), (⟨"OneRingModel", "waysIn", "(II)I"⟩, 21), (⟨"OneRingModel", "holds", "(III)Z"⟩, 21)]
theorem lw_r3 : ∀ q ∈ lw_privs_3, lw_okq q := List.forall_mem_cons.mpr ⟨lw_p32, List.forall_mem_cons.mpr ⟨lw_p33, List.forall_mem_cons.mpr ⟨lw_p34, List.forall_mem_cons.mpr ⟨lw_p35, List.forall_mem_cons.mpr ⟨lw_p36, List.forall_mem_cons.mpr ⟨lw_p37, List.forall_mem_cons.mpr ⟨lw_p38, fun _ h => absurd h List.not_mem_nil⟩⟩⟩⟩⟩⟩⟩
def lw_privs : List (MethodName × Nat) := lw_privs_1 ++ (lw_privs_2 ++ (lw_privs_3))
def lw_tbl : List Cond := k2_sels lw_privs ++ tables_1
theorem lw_privs_ok : ∀ q ∈ lw_privs, lw_okq q := by
  show ∀ q ∈ lw_privs_1 ++ (lw_privs_2 ++ (lw_privs_3)), lw_okq q
  exact List.forall_mem_append.mpr ⟨lw_r1, List.forall_mem_append.mpr ⟨lw_r2, lw_r3⟩⟩
def RX0 : String := "OneRing$Acts"
def TX0 : u_T := fun k => match k with
  | 0 => ("OneRing$Acts", "before", "[LOneRing$Stand;", true)
  | 1 => ("OneRing$Acts", "oldest", "I", false)
  | _ => ("OneRing$Acts", "size", "I", false)
def tyX0 : Nat → FieldType := fun k => match k with
  | 0 => .array (.object "OneRing$Stand")
  | 1 => .int
  | _ => .int
abbrev wsX00 : List Cond := u_ws RX0 TX0 3
theorem nmX0 : ∀ a, a < 3 → ∀ b, b < 3 → a ≠ b → (TX0 a).2.1 ≠ (TX0 b).2.1 := by decide +kernel
theorem tyX0_ok : ∀ k, k < 3 → parseFieldDescriptor (TX0 k).2.2.1 = some (tyX0 k) := by decide +kernel
abbrev cX0_init : ByteArray := prog_2_method_1_code
def yX0_init : MethodName := ⟨RX0, "<init>", "()V"⟩
abbrev cX0_clear : ByteArray := prog_2_method_2_code
def yX0_clear : MethodName := ⟨RX0, "clear", "()V"⟩
abbrev cX0_standAt : ByteArray := prog_2_method_3_code
def yX0_standAt : MethodName := ⟨RX0, "standAt", "(I)LOneRing$Stand;"⟩
abbrev cX0_remember : ByteArray := prog_2_method_4_code
def yX0_remember : MethodName := ⟨RX0, "remember", "(LOneRing$Stand;)V"⟩
abbrev cX0_takeBack : ByteArray := prog_2_method_5_code
def yX0_takeBack : MethodName := ⟨RX0, "takeBack", "(LOneRing$Stand;)Z"⟩
def RX1 : String := "OneRing$Parish"
def TX1 : u_T := fun k => match k with
  | 0 => ("OneRing$Parish", "figures", "[I", true)
  | 1 => ("OneRing$Parish", "lasting", "[I", true)
  | 2 => ("OneRing$Parish", "size", "I", false)
  | _ => ("OneRing$Parish", "sunset", "I", false)
def tyX1 : Nat → FieldType := fun k => match k with
  | 0 => .array .int
  | 1 => .array .int
  | 2 => .int
  | _ => .int
abbrev wsX10 : List Cond := u_ws RX1 TX1 4
theorem nmX1 : ∀ a, a < 4 → ∀ b, b < 4 → a ≠ b → (TX1 a).2.1 ≠ (TX1 b).2.1 := by decide +kernel
theorem tyX1_ok : ∀ k, k < 4 → parseFieldDescriptor (TX1 k).2.2.1 = some (tyX1 k) := by decide +kernel
abbrev cX1_init : ByteArray := prog_3_method_1_code
def yX1_init : MethodName := ⟨RX1, "<init>", "()V"⟩
abbrev cX1_readFrom : ByteArray := prog_3_method_2_code
def yX1_readFrom : MethodName := ⟨RX1, "readFrom", "(LOneRing$Text;)V"⟩
abbrev cX1_has : ByteArray := prog_3_method_3_code
def yX1_has : MethodName := ⟨RX1, "has", "(I)Z"⟩
abbrev cX1_everyone : ByteArray := prog_3_method_4_code
def yX1_everyone : MethodName := ⟨RX1, "everyone", "()I"⟩
abbrev cX1_figure : ByteArray := prog_3_method_5_code
def yX1_figure : MethodName := ⟨RX1, "figure", "(II)I"⟩
abbrev cX1_begin : ByteArray := prog_3_method_6_code
def yX1_begin : MethodName := ⟨RX1, "begin", "(III)I"⟩
abbrev cX1_ringFree : ByteArray := prog_3_method_7_code
def yX1_ringFree : MethodName := ⟨RX1, "ringFree", "(II)I"⟩
abbrev cX1_beginOn : ByteArray := prog_3_method_8_code
def yX1_beginOn : MethodName := ⟨RX1, "beginOn", "(LOneRing$Stand;I)I"⟩
abbrev cX1_celebrate : ByteArray := prog_3_method_9_code
def yX1_celebrate : MethodName := ⟨RX1, "celebrate", "(LOneRing$Stand;I)Z"⟩
def RX2 : String := "OneRing$Search"
def TX2 : u_T := fun k => match k with
  | 0 => ("OneRing$Search", "start", "LOneRing$Stand;", true)
  | 1 => ("OneRing$Search", "allowed", "[I", true)
  | 2 => ("OneRing$Search", "holding", "[I", true)
  | 3 => ("OneRing$Search", "limit", "I", false)
  | 4 => ("OneRing$Search", "longest", "I", false)
  | 5 => ("OneRing$Search", "first", "I", false)
  | 6 => ("OneRing$Search", "end", "I", false)
  | 7 => ("OneRing$Search", "found", "I", false)
  | 8 => ("OneRing$Search", "inAll", "I", false)
  | _ => ("OneRing$Search", "inAny", "I", false)
def tyX2 : Nat → FieldType := fun k => match k with
  | 0 => .object "OneRing$Stand"
  | 1 => .array .int
  | 2 => .array .int
  | 3 => .int
  | 4 => .int
  | 5 => .int
  | 6 => .int
  | 7 => .int
  | 8 => .int
  | _ => .int
abbrev wsX20 : List Cond := u_ws RX2 TX2 10
theorem nmX2 : ∀ a, a < 10 → ∀ b, b < 10 → a ≠ b → (TX2 a).2.1 ≠ (TX2 b).2.1 := by decide +kernel
theorem tyX2_ok : ∀ k, k < 10 → parseFieldDescriptor (TX2 k).2.2.1 = some (tyX2 k) := by decide +kernel
abbrev cX2_init : ByteArray := prog_4_method_1_code
def yX2_init : MethodName := ⟨RX2, "<init>", "()V"⟩
abbrev cX2_runFrom : ByteArray := prog_4_method_2_code
def yX2_runFrom : MethodName := ⟨RX2, "runFrom", "(LOneRing$Parish;LOneRing$Stand;)V"⟩
abbrev cX2_reset : ByteArray := prog_4_method_3_code
def yX2_reset : MethodName := ⟨RX2, "reset", "(LOneRing$Stand;I)V"⟩
abbrev cX2_allowOnly : ByteArray := prog_4_method_4_code
def yX2_allowOnly : MethodName := ⟨RX2, "allowOnly", "(II)V"⟩
abbrev cX2_run : ByteArray := prog_4_method_5_code
def yX2_run : MethodName := ⟨RX2, "run", "(LOneRing$Parish;)V"⟩
abbrev cX2_allows : ByteArray := prog_4_method_6_code
def yX2_allows : MethodName := ⟨RX2, "allows", "(II)Z"⟩
abbrev cX2_record : ByteArray := prog_4_method_7_code
def yX2_record : MethodName := ⟨RX2, "record", "(IIII)V"⟩
abbrev cX2_goOn : ByteArray := prog_4_method_8_code
def yX2_goOn : MethodName := ⟨RX2, "goOn", "(LOneRing$Search;LOneRing$Parish;IIIII)V"⟩
def RX3 : String := "OneRing$Stand"
def TX3 : u_T := fun k => match k with
  | 0 => ("OneRing$Stand", "roads", "[I", true)
  | 1 => ("OneRing$Stand", "hour", "I", false)
  | 2 => ("OneRing$Stand", "church", "I", false)
  | _ => ("OneRing$Stand", "wedSet", "I", false)
def tyX3 : Nat → FieldType := fun k => match k with
  | 0 => .array .int
  | 1 => .int
  | 2 => .int
  | _ => .int
abbrev wsX30 : List Cond := u_ws RX3 TX3 4
theorem nmX3 : ∀ a, a < 4 → ∀ b, b < 4 → a ≠ b → (TX3 a).2.1 ≠ (TX3 b).2.1 := by decide +kernel
theorem tyX3_ok : ∀ k, k < 4 → parseFieldDescriptor (TX3 k).2.2.1 = some (tyX3 k) := by decide +kernel
abbrev cX3_init : ByteArray := prog_5_method_1_code
def yX3_init : MethodName := ⟨RX3, "<init>", "()V"⟩
abbrev cX3_take : ByteArray := prog_5_method_2_code
def yX3_take : MethodName := ⟨RX3, "take", "(LOneRing$Stand;)V"⟩
abbrev cX3_readFrom : ByteArray := prog_5_method_3_code
def yX3_readFrom : MethodName := ⟨RX3, "readFrom", "(LOneRing$Text;)V"⟩
abbrev cX3_isWed : ByteArray := prog_5_method_4_code
def yX3_isWed : MethodName := ⟨RX3, "isWed", "(I)Z"⟩
abbrev cX3_shorten : ByteArray := prog_5_method_5_code
def yX3_shorten : MethodName := ⟨RX3, "shorten", "(I)V"⟩
abbrev cX3_hoursBetween : ByteArray := prog_5_method_6_code
def yX3_hoursBetween : MethodName := ⟨RX3, "hoursBetween", "(II)I"⟩
def RX4 : String := "OneRing$Text"
def TX4 : u_T := fun k => match k with
  | 0 => ("OneRing$Text", "letters", "[I", true)
  | _ => ("OneRing$Text", "length", "I", false)
def tyX4 : Nat → FieldType := fun k => match k with
  | 0 => .array .int
  | _ => .int
abbrev wsX40 : List Cond := u_ws RX4 TX4 2
theorem nmX4 : ∀ a, a < 2 → ∀ b, b < 2 → a ≠ b → (TX4 a).2.1 ≠ (TX4 b).2.1 := by decide +kernel
theorem tyX4_ok : ∀ k, k < 2 → parseFieldDescriptor (TX4 k).2.2.1 = some (tyX4 k) := by decide +kernel
abbrev cX4_init : ByteArray := prog_6_method_1_code
def yX4_init : MethodName := ⟨RX4, "<init>", "()V"⟩
abbrev cX4_add : ByteArray := prog_6_method_2_code
def yX4_add : MethodName := ⟨RX4, "add", "(I)Z"⟩
abbrev cX4_figure : ByteArray := prog_6_method_3_code
def yX4_figure : MethodName := ⟨RX4, "figure", "(I)I"⟩
abbrev cX4_firstFault : ByteArray := prog_6_method_4_code
def yX4_firstFault : MethodName := ⟨RX4, "firstFault", "()I"⟩
abbrev cX4_fits : ByteArray := prog_6_method_5_code
def yX4_fits : MethodName := ⟨RX4, "fits", "(I)Z"⟩
abbrev cX4_fitsWedding : ByteArray := prog_6_method_6_code
def yX4_fitsWedding : MethodName := ⟨RX4, "fitsWedding", "(I)Z"⟩
abbrev cX4_isFigure : ByteArray := prog_6_method_7_code
def yX4_isFigure : MethodName := ⟨RX4, "isFigure", "(III)Z"⟩
def RX5 : String := "OneRing"
def TX5 : u_T := fun k => match k with
  | 0 => ("OneRing", "text", "LOneRing$Text;", true)
  | 1 => ("OneRing", "told", "LOneRing$Parish;", true)
  | 2 => ("OneRing", "now", "LOneRing$Stand;", true)
  | 3 => ("OneRing", "trial", "LOneRing$Stand;", true)
  | 4 => ("OneRing", "acts", "LOneRing$Acts;", true)
  | 5 => ("OneRing", "search", "LOneRing$Search;", true)
  | 6 => ("OneRing", "kept", "[LOneRing$Stand;", true)
  | 7 => ("OneRing", "wasKept", "[Z", true)
  | 8 => ("OneRing", "seenBehind", "[I", true)
  | 9 => ("OneRing", "seenChurch", "[I", true)
  | 10 => ("OneRing", "mostOf", "[I", true)
  | 11 => ("OneRing", "seen", "I", false)
  | _ => ("OneRing", "theSeed", "J", false)
def tyX5 : Nat → FieldType := fun k => match k with
  | 0 => .object "OneRing$Text"
  | 1 => .object "OneRing$Parish"
  | 2 => .object "OneRing$Stand"
  | 3 => .object "OneRing$Stand"
  | 4 => .object "OneRing$Acts"
  | 5 => .object "OneRing$Search"
  | 6 => .array (.object "OneRing$Stand")
  | 7 => .array .boolean
  | 8 => .array .int
  | 9 => .array .int
  | 10 => .array .int
  | 11 => .int
  | _ => .long
abbrev wsX50 : List Cond := u_ws RX5 TX5 13
theorem nmX5 : ∀ a, a < 13 → ∀ b, b < 13 → a ≠ b → (TX5 a).2.1 ≠ (TX5 b).2.1 := by decide +kernel
theorem tyX5_ok : ∀ k, k < 13 → parseFieldDescriptor (TX5 k).2.2.1 = some (tyX5 k) := by decide +kernel
abbrev cX5_init : ByteArray := prog_1_method_1_code
def yX5_init : MethodName := ⟨RX5, "<init>", "()V"⟩
abbrev cX5_write : ByteArray := prog_1_method_2_code
def yX5_write : MethodName := ⟨RX5, "write", "(I)I"⟩
abbrev cX5_wipe : ByteArray := prog_1_method_3_code
def yX5_wipe : MethodName := ⟨RX5, "wipe", "()I"⟩
abbrev cX5_fault : ByteArray := prog_1_method_4_code
def yX5_fault : MethodName := ⟨RX5, "fault", "()I"⟩
abbrev cX5_parish : ByteArray := prog_1_method_5_code
def yX5_parish : MethodName := ⟨RX5, "parish", "()I"⟩
abbrev cX5_wedding : ByteArray := prog_1_method_6_code
def yX5_wedding : MethodName := ⟨RX5, "wedding", "(II)I"⟩
abbrev cX5_road : ByteArray := prog_1_method_7_code
def yX5_road : MethodName := ⟨RX5, "road", "(I)I"⟩
abbrev cX5_way : ByteArray := prog_1_method_8_code
def yX5_way : MethodName := ⟨RX5, "way", "(II)I"⟩
abbrev cX5_wed : ByteArray := prog_1_method_9_code
def yX5_wed : MethodName := ⟨RX5, "wed", "(I)I"⟩
abbrev cX5_carry : ByteArray := prog_1_method_10_code
def yX5_carry : MethodName := ⟨RX5, "carry", "(I)I"⟩
abbrev cX5_linger : ByteArray := prog_1_method_11_code
def yX5_linger : MethodName := ⟨RX5, "linger", "()I"⟩
abbrev cX5_mend : ByteArray := prog_1_method_12_code
def yX5_mend : MethodName := ⟨RX5, "mend", "(I)I"⟩
abbrev cX5_undo : ByteArray := prog_1_method_13_code
def yX5_undo : MethodName := ⟨RX5, "undo", "()I"⟩
abbrev cX5_most : ByteArray := prog_1_method_14_code
def yX5_most : MethodName := ⟨RX5, "most", "(I)I"⟩
abbrev cX5_slack : ByteArray := prog_1_method_15_code
def yX5_slack : MethodName := ⟨RX5, "slack", "()I"⟩
abbrev cX5_mending : ByteArray := prog_1_method_16_code
def yX5_mending : MethodName := ⟨RX5, "mending", "(Z)I"⟩
abbrev cX5_judge : ByteArray := prog_1_method_17_code
def yX5_judge : MethodName := ⟨RX5, "judge", "(II)I"⟩
abbrev cX5_later : ByteArray := prog_1_method_18_code
def yX5_later : MethodName := ⟨RX5, "later", "(I)I"⟩
abbrev cX5_see : ByteArray := prog_1_method_19_code
def yX5_see : MethodName := ⟨RX5, "see", "(II)I"⟩
abbrev cX5_unsee : ByteArray := prog_1_method_20_code
def yX5_unsee : MethodName := ⟨RX5, "unsee", "()I"⟩
abbrev cX5_rows : ByteArray := prog_1_method_21_code
def yX5_rows : MethodName := ⟨RX5, "rows", "(II)I"⟩
abbrev cX5_share : ByteArray := prog_1_method_22_code
def yX5_share : MethodName := ⟨RX5, "share", "(IZ)I"⟩
abbrev cX5_rests : ByteArray := prog_1_method_23_code
def yX5_rests : MethodName := ⟨RX5, "rests", "(III)I"⟩
abbrev cX5_falls : ByteArray := prog_1_method_24_code
def yX5_falls : MethodName := ⟨RX5, "falls", "(IIIZ)I"⟩
abbrev cX5_seed : ByteArray := prog_1_method_25_code
def yX5_seed : MethodName := ⟨RX5, "seed", "(J)J"⟩
abbrev cX5_summers : ByteArray := prog_1_method_26_code
def yX5_summers : MethodName := ⟨RX5, "summers", "(I)I"⟩
abbrev cX5_keep : ByteArray := prog_1_method_27_code
def yX5_keep : MethodName := ⟨RX5, "keep", "(I)I"⟩
abbrev cX5_again : ByteArray := prog_1_method_28_code
def yX5_again : MethodName := ⟨RX5, "again", "(I)I"⟩
abbrev cX5_count : ByteArray := prog_1_method_29_code
def yX5_count : MethodName := ⟨RX5, "count", "(I)I"⟩
abbrev cX5_isChurch : ByteArray := prog_1_method_30_code
def yX5_isChurch : MethodName := ⟨RX5, "isChurch", "(I)Z"⟩
abbrev cX5_isRoad : ByteArray := prog_1_method_31_code
def yX5_isRoad : MethodName := ⟨RX5, "isRoad", "(I)Z"⟩
abbrev cX5_isSlot : ByteArray := prog_1_method_32_code
def yX5_isSlot : MethodName := ⟨RX5, "isSlot", "(I)Z"⟩
abbrev cX5_at : ByteArray := prog_1_method_33_code
def yX5_at : MethodName := ⟨RX5, "at", "([II)I"⟩
abbrev cX5_isRow : ByteArray := prog_1_method_34_code
def yX5_isRow : MethodName := ⟨RX5, "isRow", "(II)Z"⟩
abbrev cX5_weddingInRow : ByteArray := prog_1_method_35_code
def yX5_weddingInRow : MethodName := ⟨RX5, "weddingInRow", "(III)I"⟩
abbrev cX5_holdingNext : ByteArray := prog_1_method_36_code
def yX5_holdingNext : MethodName := ⟨RX5, "holdingNext", "()I"⟩
abbrev cX5_mostFrom : ByteArray := prog_1_method_37_code
def yX5_mostFrom : MethodName := ⟨RX5, "mostFrom", "(LOneRing$Stand;)I"⟩
abbrev cX5_fraction : ByteArray := prog_1_method_38_code
def yX5_fraction : MethodName := ⟨RX5, "fraction", "(IIZ)I"⟩
abbrev cX5_greatestDivisor : ByteArray := prog_1_method_39_code
def yX5_greatestDivisor : MethodName := ⟨RX5, "greatestDivisor", "(II)I"⟩
abbrev cX5_fillMostOf : ByteArray := prog_1_method_40_code
def yX5_fillMostOf : MethodName := ⟨RX5, "fillMostOf", "()V"⟩
abbrev cX5_isAtRest : ByteArray := prog_1_method_41_code
def yX5_isAtRest : MethodName := ⟨RX5, "isAtRest", "(IIII)Z"⟩
abbrev cX5_gain : ByteArray := prog_1_method_42_code
def yX5_gain : MethodName := ⟨RX5, "gain", "(IIII)I"⟩
abbrev cX5_isRowOfOpenWeddings : ByteArray := prog_1_method_43_code
def yX5_isRowOfOpenWeddings : MethodName := ⟨RX5, "isRowOfOpenWeddings", "(II)Z"⟩
abbrev cX5_weightOfFalls : ByteArray := prog_1_method_44_code
def yX5_weightOfFalls : MethodName := ⟨RX5, "weightOfFalls", "(IIII)I"⟩
abbrev cX5_holdsWithFalls : ByteArray := prog_1_method_45_code
def yX5_holdsWithFalls : MethodName := ⟨RX5, "holdsWithFalls", "(III)Z"⟩
def RX6 : String := "OneRingModel"
def TX6 : u_T := fun k => match k with
  | 0 => ("OneRingModel", "weddings", "I", false)
  | 1 => ("OneRingModel", "sunset", "I", false)
  | 2 => ("OneRingModel", "church", "[I", true)
  | 3 => ("OneRingModel", "from", "[I", true)
  | 4 => ("OneRingModel", "upTo", "[I", true)
  | 5 => ("OneRingModel", "hours", "[I", true)
  | 6 => ("OneRingModel", "kind", "[I", true)
  | 7 => ("OneRingModel", "now", "[I", true)
  | 8 => ("OneRingModel", "text", "[I", true)
  | 9 => ("OneRingModel", "length", "I", false)
  | 10 => ("OneRingModel", "acts", "I", false)
  | 11 => ("OneRingModel", "next", "I", false)
  | 12 => ("OneRingModel", "row", "[I", true)
  | 13 => ("OneRingModel", "earliest", "[I", true)
  | 14 => ("OneRingModel", "seen", "I", false)
  | 15 => ("OneRingModel", "seenBehind", "[I", true)
  | 16 => ("OneRingModel", "seenIn", "[I", true)
  | 17 => ("OneRingModel", "mosts", "[I", true)
  | 18 => ("OneRingModel", "seed", "J", false)
  | 19 => ("OneRingModel", "isKept", "[Z", true)
  | _ => ("OneRingModel", "kept", "[I", true)
def tyX6 : Nat → FieldType := fun k => match k with
  | 0 => .int
  | 1 => .int
  | 2 => .array .int
  | 3 => .array .int
  | 4 => .array .int
  | 5 => .array .int
  | 6 => .array .int
  | 7 => .array .int
  | 8 => .array .int
  | 9 => .int
  | 10 => .int
  | 11 => .int
  | 12 => .array .int
  | 13 => .array .int
  | 14 => .int
  | 15 => .array .int
  | 16 => .array .int
  | 17 => .array .int
  | 18 => .long
  | 19 => .array .boolean
  | _ => .array .int
abbrev wsX60 : List Cond := u_ws RX6 TX6 21
theorem nmX6 : ∀ a, a < 21 → ∀ b, b < 21 → a ≠ b → (TX6 a).2.1 ≠ (TX6 b).2.1 := by decide +kernel
theorem tyX6_ok : ∀ k, k < 21 → parseFieldDescriptor (TX6 k).2.2.1 = some (tyX6 k) := by decide +kernel
abbrev cX6_init : ByteArray := prog_8_method_1_code
def yX6_init : MethodName := ⟨RX6, "<init>", "()V"⟩
abbrev cX6_in : ByteArray := prog_8_method_3_code
def yX6_in : MethodName := ⟨RX6, "in", "(JJJ)Z"⟩
abbrev cX6_has : ByteArray := prog_8_method_4_code
def yX6_has : MethodName := ⟨RX6, "has", "(II)Z"⟩
abbrev cX6_ones : ByteArray := prog_8_method_5_code
def yX6_ones : MethodName := ⟨RX6, "ones", "(I)I"⟩
abbrev cX6_write : ByteArray := prog_8_method_6_code
def yX6_write : MethodName := ⟨RX6, "write", "(I)I"⟩
abbrev cX6_wipe : ByteArray := prog_8_method_7_code
def yX6_wipe : MethodName := ⟨RX6, "wipe", "()I"⟩
abbrev cX6_mayBe : ByteArray := prog_8_method_8_code
def yX6_mayBe : MethodName := ⟨RX6, "mayBe", "(I)Z"⟩
abbrev cX6_fault : ByteArray := prog_8_method_9_code
def yX6_fault : MethodName := ⟨RX6, "fault", "()I"⟩
abbrev cX6_parish : ByteArray := prog_8_method_10_code
def yX6_parish : MethodName := ⟨RX6, "parish", "()I"⟩
abbrev cX6_isWedding : ByteArray := prog_8_method_11_code
def yX6_isWedding : MethodName := ⟨RX6, "isWedding", "(I)Z"⟩
abbrev cX6_isChurch : ByteArray := prog_8_method_12_code
def yX6_isChurch : MethodName := ⟨RX6, "isChurch", "(I)Z"⟩
abbrev cX6_every : ByteArray := prog_8_method_13_code
def yX6_every : MethodName := ⟨RX6, "every", "()I"⟩
abbrev cX6_wayOn : ByteArray := prog_8_method_14_code
def yX6_wayOn : MethodName := ⟨RX6, "wayOn", "(III)I"⟩
abbrev cX6_begins : ByteArray := prog_8_method_15_code
def yX6_begins : MethodName := ⟨RX6, "begins", "(IIIII)I"⟩
abbrev cX6_lasts : ByteArray := prog_8_method_16_code
def yX6_lasts : MethodName := ⟨RX6, "lasts", "(I)I"⟩
abbrev cX6_behind : ByteArray := prog_8_method_17_code
def yX6_behind : MethodName := ⟨RX6, "behind", "(II)I"⟩
abbrev cX6_beginsNow : ByteArray := prog_8_method_18_code
def yX6_beginsNow : MethodName := ⟨RX6, "beginsNow", "(II)I"⟩
abbrev cX6_wedOn : ByteArray := prog_8_method_19_code
def yX6_wedOn : MethodName := ⟨RX6, "wedOn", "(II)Z"⟩
abbrev cX6_wedding : ByteArray := prog_8_method_20_code
def yX6_wedding : MethodName := ⟨RX6, "wedding", "(II)I"⟩
abbrev cX6_road : ByteArray := prog_8_method_21_code
def yX6_road : MethodName := ⟨RX6, "road", "(I)I"⟩
abbrev cX6_way : ByteArray := prog_8_method_22_code
def yX6_way : MethodName := ⟨RX6, "way", "(II)I"⟩
abbrev cX6_keepAct : ByteArray := prog_8_method_23_code
def yX6_keepAct : MethodName := ⟨RX6, "keepAct", "()V"⟩
abbrev cX6_wed : ByteArray := prog_8_method_24_code
def yX6_wed : MethodName := ⟨RX6, "wed", "(I)I"⟩
abbrev cX6_carry : ByteArray := prog_8_method_25_code
def yX6_carry : MethodName := ⟨RX6, "carry", "(I)I"⟩
abbrev cX6_linger : ByteArray := prog_8_method_26_code
def yX6_linger : MethodName := ⟨RX6, "linger", "()I"⟩
abbrev cX6_mend : ByteArray := prog_8_method_27_code
def yX6_mend : MethodName := ⟨RX6, "mend", "(I)I"⟩
abbrev cX6_undo : ByteArray := prog_8_method_28_code
def yX6_undo : MethodName := ⟨RX6, "undo", "()I"⟩
abbrev cX6_noteEarlier : ByteArray := prog_8_method_29_code
def yX6_noteEarlier : MethodName := ⟨RX6, "noteEarlier", "(III)V"⟩
abbrev cX6_mostOn : ByteArray := prog_8_method_30_code
def yX6_mostOn : MethodName := ⟨RX6, "mostOn", "(II)I"⟩
abbrev cX6_endOf : ByteArray := prog_8_method_31_code
def yX6_endOf : MethodName := ⟨RX6, "endOf", "(I)I"⟩
abbrev cX6_layTrial : ByteArray := prog_8_method_32_code
def yX6_layTrial : MethodName := ⟨RX6, "layTrial", "()V"⟩
abbrev cX6_firstRow : ByteArray := prog_8_method_33_code
def yX6_firstRow : MethodName := ⟨RX6, "firstRow", "(I)I"⟩
abbrev cX6_goesOn : ByteArray := prog_8_method_34_code
def yX6_goesOn : MethodName := ⟨RX6, "goesOn", "(III)Z"⟩
abbrev cX6_most : ByteArray := prog_8_method_35_code
def yX6_most : MethodName := ⟨RX6, "most", "(I)I"⟩
abbrev cX6_slack : ByteArray := prog_8_method_36_code
def yX6_slack : MethodName := ⟨RX6, "slack", "()I"⟩
abbrev cX6_mending : ByteArray := prog_8_method_37_code
def yX6_mending : MethodName := ⟨RX6, "mending", "(Z)I"⟩
abbrev cX6_tenTo : ByteArray := prog_8_method_38_code
def yX6_tenTo : MethodName := ⟨RX6, "tenTo", "(I)I"⟩
abbrev cX6_judge : ByteArray := prog_8_method_39_code
def yX6_judge : MethodName := ⟨RX6, "judge", "(II)I"⟩
abbrev cX6_later : ByteArray := prog_8_method_40_code
def yX6_later : MethodName := ⟨RX6, "later", "(I)I"⟩
abbrev cX6_see : ByteArray := prog_8_method_41_code
def yX6_see : MethodName := ⟨RX6, "see", "(II)I"⟩
abbrev cX6_unsee : ByteArray := prog_8_method_42_code
def yX6_unsee : MethodName := ⟨RX6, "unsee", "()I"⟩
abbrev cX6_isSeen : ByteArray := prog_8_method_43_code
def yX6_isSeen : MethodName := ⟨RX6, "isSeen", "(I)Z"⟩
abbrev cX6_rowsOf : ByteArray := prog_8_method_44_code
def yX6_rowsOf : MethodName := ⟨RX6, "rowsOf", "(II)I"⟩
abbrev cX6_rowBy : ByteArray := prog_8_method_45_code
def yX6_rowBy : MethodName := ⟨RX6, "rowBy", "(II)I"⟩
abbrev cX6_rows : ByteArray := prog_8_method_46_code
def yX6_rows : MethodName := ⟨RX6, "rows", "(II)I"⟩
abbrev cX6_factorial : ByteArray := prog_8_method_47_code
def yX6_factorial : MethodName := ⟨RX6, "factorial", "(I)I"⟩
abbrev cX6_common : ByteArray := prog_8_method_48_code
def yX6_common : MethodName := ⟨RX6, "common", "(II)I"⟩
abbrev cX6_share : ByteArray := prog_8_method_49_code
def yX6_share : MethodName := ⟨RX6, "share", "(IZ)I"⟩
abbrev cX6_bringsOf : ByteArray := prog_8_method_50_code
def yX6_bringsOf : MethodName := ⟨RX6, "bringsOf", "(I)I"⟩
abbrev cX6_gain : ByteArray := prog_8_method_51_code
def yX6_gain : MethodName := ⟨RX6, "gain", "(IIII)I"⟩
abbrev cX6_isRest : ByteArray := prog_8_method_52_code
def yX6_isRest : MethodName := ⟨RX6, "isRest", "(IIII)Z"⟩
abbrev cX6_rests : ByteArray := prog_8_method_53_code
def yX6_rests : MethodName := ⟨RX6, "rests", "(III)I"⟩
abbrev cX6_areOpen : ByteArray := prog_8_method_54_code
def yX6_areOpen : MethodName := ⟨RX6, "areOpen", "(II)Z"⟩
abbrev cX6_holds : ByteArray := prog_8_method_55_code
def yX6_holds : MethodName := ⟨RX6, "holds", "(III)Z"⟩
abbrev cX6_waysIn : ByteArray := prog_8_method_56_code
def yX6_waysIn : MethodName := ⟨RX6, "waysIn", "(II)I"⟩
abbrev cX6_power : ByteArray := prog_8_method_57_code
def yX6_power : MethodName := ⟨RX6, "power", "(II)I"⟩
abbrev cX6_falls : ByteArray := prog_8_method_58_code
def yX6_falls : MethodName := ⟨RX6, "falls", "(IIIZ)I"⟩
abbrev cX6_seed : ByteArray := prog_8_method_59_code
def yX6_seed : MethodName := ⟨RX6, "seed", "(J)J"⟩
abbrev cX6_summers : ByteArray := prog_8_method_60_code
def yX6_summers : MethodName := ⟨RX6, "summers", "(I)I"⟩
abbrev cX6_keep : ByteArray := prog_8_method_61_code
def yX6_keep : MethodName := ⟨RX6, "keep", "(I)I"⟩
abbrev cX6_again : ByteArray := prog_8_method_62_code
def yX6_again : MethodName := ⟨RX6, "again", "(I)I"⟩
abbrev cX6_count : ByteArray := prog_8_method_63_code
def yX6_count : MethodName := ⟨RX6, "count", "(I)I"⟩
def RJ6 : String := "java/lang/Integer"
abbrev cJ6_bitCount_0f7a4 : ByteArray := prog_9_method_49_code
def yJ6_bitCount_0f7a4 : MethodName := ⟨RJ6, "bitCount", "(I)I"⟩
def RJ9 : String := "java/lang/Math"
abbrev cJ9_max_7cf53 : ByteArray := prog_10_method_65_code
def yJ9_max_7cf53 : MethodName := ⟨RJ9, "max", "(II)I"⟩
abbrev cJ9_min_7cf53 : ByteArray := prog_10_method_69_code
def yJ9_min_7cf53 : MethodName := ⟨RJ9, "min", "(II)I"⟩
def RL : String := "OneRingLaw"
abbrev cL_law : ByteArray := code
def yL_law : MethodName := ⟨RL, "law", "([I)Z"⟩
abbrev vwCl : List vw_C := [(RX0, TX0, 3), (RX1, TX1, 4), (RX2, TX2, 10), (RX3, TX3, 4), (RX4, TX4, 2), (RX5, TX5, 13), (RX6, TX6, 21)]
abbrev TT : List Cond := lw_tbl.filter goodWord
theorem tt_goodIn : GoodIn TT TT := fun w hw => ⟨hw, good_of_word (List.mem_filter.mp hw).2⟩
theorem tt_1 {w : Cond} (i : Nat) (h : tables_1_1[i]? = some w) (hg : goodWord w = true) : w ∈ TT := List.mem_filter.mpr ⟨List.mem_append_right _ (by unfold tables_1; exact List.mem_append_left _ (List.mem_of_getElem? h)), hg⟩
theorem tt_2 {w : Cond} (i : Nat) (h : tables_1_2[i]? = some w) (hg : goodWord w = true) : w ∈ TT := List.mem_filter.mpr ⟨List.mem_append_right _ (by unfold tables_1; exact List.mem_append_right _ (List.mem_append_left _ (List.mem_of_getElem? h))), hg⟩
theorem tt_3 {w : Cond} (i : Nat) (h : tables_1_3[i]? = some w) (hg : goodWord w = true) : w ∈ TT := List.mem_filter.mpr ⟨List.mem_append_right _ (by unfold tables_1; exact List.mem_append_right _ (List.mem_append_right _ (List.mem_append_left _ (List.mem_of_getElem? h)))), hg⟩
theorem tt_4 {w : Cond} (i : Nat) (h : tables_1_4[i]? = some w) (hg : goodWord w = true) : w ∈ TT := List.mem_filter.mpr ⟨List.mem_append_right _ (by unfold tables_1; exact List.mem_append_right _ (List.mem_append_right _ (List.mem_append_right _ (List.mem_of_getElem? h)))), hg⟩
theorem tt_p {y : MethodName} {n : Nat} (h : (y, n) ∈ lw_privs) (hg : goodWord (Cond.selects y.cls y y) = true) : Cond.selects y.cls y y ∈ TT := List.mem_filter.mpr ⟨List.mem_append_left _ (List.mem_map.mpr ⟨_, h, rfl⟩), hg⟩
theorem tw_0_0 : (Jvm.Cond.initialized "OneRingLaw") ∈ TT := tt_1 0 rfl rfl
theorem tw_0_1 : (Jvm.Cond.initialized "OneRing") ∈ TT := tt_1 1 rfl rfl
theorem tw_0_2 : (Jvm.Cond.initialized "OneRing$Text") ∈ TT := tt_1 2 rfl rfl
theorem tw_0_3 : (Jvm.Cond.initialized "OneRing$Parish") ∈ TT := tt_1 3 rfl rfl
theorem tw_0_4 : (Jvm.Cond.initialized "OneRing$Stand") ∈ TT := tt_1 4 rfl rfl
theorem tw_0_5 : (Jvm.Cond.initialized "OneRing$Acts") ∈ TT := tt_1 5 rfl rfl
theorem tw_0_6 : (Jvm.Cond.initialized "OneRing$Search") ∈ TT := tt_1 6 rfl rfl
theorem tw_0_7 : (Jvm.Cond.initialized "OneRingModel") ∈ TT := tt_1 7 rfl rfl
theorem tw_0_8 : (Jvm.Cond.initialized "java/lang/Math") ∈ TT := tt_1 8 rfl rfl
theorem tw_0_9 : (Jvm.Cond.initialized "java/lang/Integer") ∈ TT := tt_1 9 rfl rfl
theorem tw_0_10 : (Jvm.Cond.classLink "OneRingLaw" (7 : Nat) "OneRing") ∈ TT := tt_1 10 rfl rfl
theorem tw_0_11 : (Jvm.Cond.instantiable "OneRing" (13 : Nat)) ∈ TT := tt_1 11 rfl rfl
theorem tw_0_12 : (Jvm.Cond.methodLink "OneRingLaw" (9 : Nat) ({ cls := "OneRing", name := "<init>", desc := "()V" } : Jvm.MethodName)) ∈ TT := tt_1 12 rfl rfl
theorem tw_0_13 : (Jvm.Cond.instanceMethod ({ cls := "OneRing", name := "<init>", desc := "()V" } : Jvm.MethodName)) ∈ TT := tt_1 13 rfl rfl
theorem tw_0_14 : (Jvm.Cond.code ({ cls := "OneRing", name := "<init>", desc := "()V" } : Jvm.MethodName) prog_1_method_1_code (2 : Nat) (Option.none : Option Jvm.ClassFile.FieldType)) ∈ TT := tt_1 14 rfl rfl
theorem tw_0_15 : (Jvm.Cond.methodLink "OneRing" (1 : Nat) ({ cls := "java/lang/Object", name := "<init>", desc := "()V" } : Jvm.MethodName)) ∈ TT := tt_1 15 rfl rfl
theorem tw_0_16 : (Jvm.Cond.instanceMethod ({ cls := "java/lang/Object", name := "<init>", desc := "()V" } : Jvm.MethodName)) ∈ TT := tt_1 16 rfl rfl
theorem tw_0_17 : (Jvm.Cond.code ({ cls := "java/lang/Object", name := "<init>", desc := "()V" } : Jvm.MethodName) object_method_1_code (1 : Nat) (Option.none : Option Jvm.ClassFile.FieldType)) ∈ TT := tt_1 17 rfl rfl
theorem tw_0_18 : (Jvm.Cond.classLink "OneRing" (7 : Nat) "OneRing$Text") ∈ TT := tt_1 18 rfl rfl
theorem tw_0_19 : (Jvm.Cond.instantiable "OneRing$Text" (2 : Nat)) ∈ TT := tt_1 19 rfl rfl
theorem tw_0_21 : (Jvm.Cond.instanceMethod ({ cls := "OneRing$Text", name := "<init>", desc := "()V" } : Jvm.MethodName)) ∈ TT := tt_1 21 rfl rfl
theorem tw_0_22 : (Jvm.Cond.code ({ cls := "OneRing$Text", name := "<init>", desc := "()V" } : Jvm.MethodName) prog_6_method_1_code (1 : Nat) (Option.none : Option Jvm.ClassFile.FieldType)) ∈ TT := tt_1 22 rfl rfl
theorem tw_0_23 : (Jvm.Cond.methodLink "OneRing$Text" (3 : Nat) ({ cls := "java/lang/Object", name := "<init>", desc := "()V" } : Jvm.MethodName)) ∈ TT := tt_1 23 rfl rfl
theorem tw_0_24 : (Jvm.Cond.fieldLink "OneRing$Text" (9 : Nat) "OneRing$Text" "letters" "[I") ∈ TT := tt_1 24 rfl rfl
theorem tw_0_25 : (Jvm.Cond.fieldLink "OneRing$Text" (15 : Nat) "OneRing$Text" "length" "I") ∈ TT := tt_1 25 rfl rfl
theorem tw_0_26 : (Jvm.Cond.fieldLink "OneRing$Parish" (31 : Nat) "OneRing$Text" "length" "I") ∈ TT := tt_1 26 rfl rfl
theorem tw_0_27 : (Jvm.Cond.fieldLink "OneRing" (77 : Nat) "OneRing$Text" "length" "I") ∈ TT := tt_1 27 rfl rfl
theorem tw_0_28 : (Jvm.Cond.laysFinal "OneRing$Text" "OneRing$Text" "letters" "[I") ∈ TT := tt_1 28 rfl rfl
theorem tw_0_30 : (Jvm.Cond.lays "OneRing$Text" "OneRing$Text" "length" "I") ∈ TT := tt_1 30 rfl rfl
theorem tw_0_33 : (Jvm.Cond.arrayClass Jvm.ClassFile.FieldType.int) ∈ TT := tt_1 33 rfl rfl
theorem tw_0_34 : (Jvm.Cond.classLink "OneRing" (16 : Nat) "OneRing$Parish") ∈ TT := tt_1 34 rfl rfl
theorem tw_0_35 : (Jvm.Cond.instantiable "OneRing$Parish" (4 : Nat)) ∈ TT := tt_1 35 rfl rfl
theorem tw_0_37 : (Jvm.Cond.instanceMethod ({ cls := "OneRing$Parish", name := "<init>", desc := "()V" } : Jvm.MethodName)) ∈ TT := tt_1 37 rfl rfl
theorem tw_0_38 : (Jvm.Cond.code ({ cls := "OneRing$Parish", name := "<init>", desc := "()V" } : Jvm.MethodName) prog_3_method_1_code (1 : Nat) (Option.none : Option Jvm.ClassFile.FieldType)) ∈ TT := tt_1 38 rfl rfl
theorem tw_0_39 : (Jvm.Cond.methodLink "OneRing$Parish" (3 : Nat) ({ cls := "java/lang/Object", name := "<init>", desc := "()V" } : Jvm.MethodName)) ∈ TT := tt_1 39 rfl rfl
theorem tw_0_40 : (Jvm.Cond.fieldLink "OneRing$Parish" (9 : Nat) "OneRing$Parish" "figures" "[I") ∈ TT := tt_1 40 rfl rfl
theorem tw_0_41 : (Jvm.Cond.fieldLink "OneRing$Parish" (15 : Nat) "OneRing$Parish" "lasting" "[I") ∈ TT := tt_1 41 rfl rfl
theorem tw_0_42 : (Jvm.Cond.fieldLink "OneRing$Parish" (18 : Nat) "OneRing$Parish" "size" "I") ∈ TT := tt_1 42 rfl rfl
theorem tw_0_43 : (Jvm.Cond.fieldLink "OneRing" (92 : Nat) "OneRing$Parish" "size" "I") ∈ TT := tt_1 43 rfl rfl
theorem tw_0_44 : (Jvm.Cond.fieldLink "OneRing$Search" (87 : Nat) "OneRing$Parish" "size" "I") ∈ TT := tt_1 44 rfl rfl
theorem tw_0_45 : (Jvm.Cond.fieldLink "OneRing$Parish" (22 : Nat) "OneRing$Parish" "sunset" "I") ∈ TT := tt_1 45 rfl rfl
theorem tw_0_46 : (Jvm.Cond.fieldLink "OneRing" (247 : Nat) "OneRing$Parish" "sunset" "I") ∈ TT := tt_1 46 rfl rfl
theorem tw_0_47 : (Jvm.Cond.laysFinal "OneRing$Parish" "OneRing$Parish" "figures" "[I") ∈ TT := tt_1 47 rfl rfl
theorem tw_0_49 : (Jvm.Cond.laysFinal "OneRing$Parish" "OneRing$Parish" "lasting" "[I") ∈ TT := tt_1 49 rfl rfl
theorem tw_0_51 : (Jvm.Cond.lays "OneRing$Parish" "OneRing$Parish" "size" "I") ∈ TT := tt_1 51 rfl rfl
theorem tw_0_53 : (Jvm.Cond.lays "OneRing$Parish" "OneRing$Parish" "sunset" "I") ∈ TT := tt_1 53 rfl rfl
theorem tw_0_56 : (Jvm.Cond.classLink "OneRing" (23 : Nat) "OneRing$Stand") ∈ TT := tt_1 56 rfl rfl
theorem tw_0_57 : (Jvm.Cond.instantiable "OneRing$Stand" (4 : Nat)) ∈ TT := tt_1 57 rfl rfl
theorem tw_0_59 : (Jvm.Cond.instanceMethod ({ cls := "OneRing$Stand", name := "<init>", desc := "()V" } : Jvm.MethodName)) ∈ TT := tt_1 59 rfl rfl
theorem tw_0_60 : (Jvm.Cond.code ({ cls := "OneRing$Stand", name := "<init>", desc := "()V" } : Jvm.MethodName) prog_5_method_1_code (1 : Nat) (Option.none : Option Jvm.ClassFile.FieldType)) ∈ TT := tt_1 60 rfl rfl
theorem tw_0_61 : (Jvm.Cond.methodLink "OneRing$Stand" (3 : Nat) ({ cls := "java/lang/Object", name := "<init>", desc := "()V" } : Jvm.MethodName)) ∈ TT := tt_1 61 rfl rfl
theorem tw_0_62 : (Jvm.Cond.fieldLink "OneRing$Stand" (9 : Nat) "OneRing$Stand" "roads" "[I") ∈ TT := tt_1 62 rfl rfl
theorem tw_0_63 : (Jvm.Cond.fieldLink "OneRing" (112 : Nat) "OneRing$Stand" "roads" "[I") ∈ TT := tt_1 63 rfl rfl
theorem tw_0_64 : (Jvm.Cond.fieldLink "OneRing$Stand" (15 : Nat) "OneRing$Stand" "hour" "I") ∈ TT := tt_1 64 rfl rfl
theorem tw_0_65 : (Jvm.Cond.fieldLink "OneRing$Search" (59 : Nat) "OneRing$Stand" "hour" "I") ∈ TT := tt_1 65 rfl rfl
theorem tw_0_66 : (Jvm.Cond.fieldLink "OneRing$Parish" (55 : Nat) "OneRing$Stand" "hour" "I") ∈ TT := tt_1 66 rfl rfl
theorem tw_0_67 : (Jvm.Cond.fieldLink "OneRing" (133 : Nat) "OneRing$Stand" "hour" "I") ∈ TT := tt_1 67 rfl rfl
theorem tw_0_68 : (Jvm.Cond.fieldLink "OneRing$Stand" (19 : Nat) "OneRing$Stand" "church" "I") ∈ TT := tt_1 68 rfl rfl
theorem tw_0_69 : (Jvm.Cond.fieldLink "OneRing$Search" (62 : Nat) "OneRing$Stand" "church" "I") ∈ TT := tt_1 69 rfl rfl
theorem tw_0_70 : (Jvm.Cond.fieldLink "OneRing$Parish" (58 : Nat) "OneRing$Stand" "church" "I") ∈ TT := tt_1 70 rfl rfl
theorem tw_0_71 : (Jvm.Cond.fieldLink "OneRing" (136 : Nat) "OneRing$Stand" "church" "I") ∈ TT := tt_1 71 rfl rfl
theorem tw_0_72 : (Jvm.Cond.fieldLink "OneRing$Stand" (22 : Nat) "OneRing$Stand" "wedSet" "I") ∈ TT := tt_1 72 rfl rfl
theorem tw_0_73 : (Jvm.Cond.fieldLink "OneRing$Search" (95 : Nat) "OneRing$Stand" "wedSet" "I") ∈ TT := tt_1 73 rfl rfl
theorem tw_0_74 : (Jvm.Cond.fieldLink "OneRing$Parish" (75 : Nat) "OneRing$Stand" "wedSet" "I") ∈ TT := tt_1 74 rfl rfl
theorem tw_0_75 : (Jvm.Cond.fieldLink "OneRing" (210 : Nat) "OneRing$Stand" "wedSet" "I") ∈ TT := tt_1 75 rfl rfl
theorem tw_0_76 : (Jvm.Cond.laysFinal "OneRing$Stand" "OneRing$Stand" "roads" "[I") ∈ TT := tt_1 76 rfl rfl
theorem tw_0_78 : (Jvm.Cond.lays "OneRing$Stand" "OneRing$Stand" "hour" "I") ∈ TT := tt_1 78 rfl rfl
theorem tw_0_80 : (Jvm.Cond.lays "OneRing$Stand" "OneRing$Stand" "church" "I") ∈ TT := tt_1 80 rfl rfl
theorem tw_0_82 : (Jvm.Cond.lays "OneRing$Stand" "OneRing$Stand" "wedSet" "I") ∈ TT := tt_1 82 rfl rfl
theorem tw_0_85 : (Jvm.Cond.classLink "OneRing" (33 : Nat) "OneRing$Acts") ∈ TT := tt_1 85 rfl rfl
theorem tw_0_86 : (Jvm.Cond.instantiable "OneRing$Acts" (3 : Nat)) ∈ TT := tt_1 86 rfl rfl
theorem tw_0_87 : (Jvm.Cond.methodLink "OneRing" (35 : Nat) ({ cls := "OneRing$Acts", name := "<init>", desc := "()V" } : Jvm.MethodName)) ∈ TT := tt_1 87 rfl rfl
theorem tw_0_88 : (Jvm.Cond.instanceMethod ({ cls := "OneRing$Acts", name := "<init>", desc := "()V" } : Jvm.MethodName)) ∈ TT := tt_1 88 rfl rfl
theorem tw_0_89 : (Jvm.Cond.code ({ cls := "OneRing$Acts", name := "<init>", desc := "()V" } : Jvm.MethodName) prog_2_method_1_code (2 : Nat) (Option.none : Option Jvm.ClassFile.FieldType)) ∈ TT := tt_1 89 rfl rfl
theorem tw_0_90 : (Jvm.Cond.methodLink "OneRing$Acts" (3 : Nat) ({ cls := "java/lang/Object", name := "<init>", desc := "()V" } : Jvm.MethodName)) ∈ TT := tt_1 90 rfl rfl
theorem tw_0_91 : (Jvm.Cond.classLink "OneRing$Acts" (9 : Nat) "OneRing$Stand") ∈ TT := tt_1 91 rfl rfl
theorem tw_0_94 : (Jvm.Cond.fieldLink "OneRing$Acts" (11 : Nat) "OneRing$Acts" "before" "[LOneRing$Stand;") ∈ TT := tt_1 94 rfl rfl
theorem tw_0_95 : (Jvm.Cond.fieldLink "OneRing$Acts" (17 : Nat) "OneRing$Acts" "oldest" "I") ∈ TT := tt_1 95 rfl rfl
theorem tw_0_96 : (Jvm.Cond.fieldLink "OneRing$Acts" (21 : Nat) "OneRing$Acts" "size" "I") ∈ TT := tt_1 96 rfl rfl
theorem tw_0_97 : (Jvm.Cond.fieldLink "OneRing" (147 : Nat) "OneRing$Acts" "size" "I") ∈ TT := tt_1 97 rfl rfl
theorem tw_0_98 : (Jvm.Cond.laysFinal "OneRing$Acts" "OneRing$Acts" "before" "[LOneRing$Stand;") ∈ TT := tt_1 98 rfl rfl
theorem tw_0_100 : (Jvm.Cond.lays "OneRing$Acts" "OneRing$Acts" "oldest" "I") ∈ TT := tt_1 100 rfl rfl
theorem tw_0_102 : (Jvm.Cond.lays "OneRing$Acts" "OneRing$Acts" "size" "I") ∈ TT := tt_1 102 rfl rfl
theorem tw_0_105 : (Jvm.Cond.classLink "OneRing" (40 : Nat) "OneRing$Search") ∈ TT := tt_1 105 rfl rfl
theorem tw_0_106 : (Jvm.Cond.instantiable "OneRing$Search" (10 : Nat)) ∈ TT := tt_1 106 rfl rfl
theorem tw_0_108 : (Jvm.Cond.instanceMethod ({ cls := "OneRing$Search", name := "<init>", desc := "()V" } : Jvm.MethodName)) ∈ TT := tt_1 108 rfl rfl
theorem tw_0_109 : (Jvm.Cond.code ({ cls := "OneRing$Search", name := "<init>", desc := "()V" } : Jvm.MethodName) prog_4_method_1_code (1 : Nat) (Option.none : Option Jvm.ClassFile.FieldType)) ∈ TT := tt_1 109 rfl rfl
theorem tw_0_110 : (Jvm.Cond.methodLink "OneRing$Search" (3 : Nat) ({ cls := "java/lang/Object", name := "<init>", desc := "()V" } : Jvm.MethodName)) ∈ TT := tt_1 110 rfl rfl
theorem tw_0_111 : (Jvm.Cond.classLink "OneRing$Search" (9 : Nat) "OneRing$Stand") ∈ TT := tt_1 111 rfl rfl
theorem tw_0_113 : (Jvm.Cond.fieldLink "OneRing$Search" (12 : Nat) "OneRing$Search" "start" "LOneRing$Stand;") ∈ TT := tt_1 113 rfl rfl
theorem tw_0_114 : (Jvm.Cond.fieldLink "OneRing$Search" (18 : Nat) "OneRing$Search" "allowed" "[I") ∈ TT := tt_1 114 rfl rfl
theorem tw_0_115 : (Jvm.Cond.fieldLink "OneRing$Search" (22 : Nat) "OneRing$Search" "holding" "[I") ∈ TT := tt_1 115 rfl rfl
theorem tw_0_116 : (Jvm.Cond.fieldLink "OneRing" (256 : Nat) "OneRing$Search" "holding" "[I") ∈ TT := tt_1 116 rfl rfl
theorem tw_0_117 : (Jvm.Cond.fieldLink "OneRing$Search" (25 : Nat) "OneRing$Search" "limit" "I") ∈ TT := tt_1 117 rfl rfl
theorem tw_0_118 : (Jvm.Cond.fieldLink "OneRing$Search" (29 : Nat) "OneRing$Search" "longest" "I") ∈ TT := tt_1 118 rfl rfl
theorem tw_0_119 : (Jvm.Cond.fieldLink "OneRing" (152 : Nat) "OneRing$Search" "longest" "I") ∈ TT := tt_1 119 rfl rfl
theorem tw_0_120 : (Jvm.Cond.fieldLink "OneRing$Search" (32 : Nat) "OneRing$Search" "first" "I") ∈ TT := tt_1 120 rfl rfl
theorem tw_0_121 : (Jvm.Cond.fieldLink "OneRing" (155 : Nat) "OneRing$Search" "first" "I") ∈ TT := tt_1 121 rfl rfl
theorem tw_0_122 : (Jvm.Cond.fieldLink "OneRing$Search" (35 : Nat) "OneRing$Search" "end" "I") ∈ TT := tt_1 122 rfl rfl
theorem tw_0_123 : (Jvm.Cond.fieldLink "OneRing" (158 : Nat) "OneRing$Search" "end" "I") ∈ TT := tt_1 123 rfl rfl
theorem tw_0_124 : (Jvm.Cond.fieldLink "OneRing$Search" (38 : Nat) "OneRing$Search" "found" "I") ∈ TT := tt_1 124 rfl rfl
theorem tw_0_125 : (Jvm.Cond.fieldLink "OneRing" (191 : Nat) "OneRing$Search" "found" "I") ∈ TT := tt_1 125 rfl rfl
theorem tw_0_126 : (Jvm.Cond.fieldLink "OneRing$Search" (41 : Nat) "OneRing$Search" "inAll" "I") ∈ TT := tt_1 126 rfl rfl
theorem tw_0_127 : (Jvm.Cond.fieldLink "OneRing" (194 : Nat) "OneRing$Search" "inAll" "I") ∈ TT := tt_1 127 rfl rfl
theorem tw_0_128 : (Jvm.Cond.fieldLink "OneRing$Search" (44 : Nat) "OneRing$Search" "inAny" "I") ∈ TT := tt_1 128 rfl rfl
theorem tw_0_129 : (Jvm.Cond.fieldLink "OneRing" (200 : Nat) "OneRing$Search" "inAny" "I") ∈ TT := tt_1 129 rfl rfl
theorem tw_0_130 : (Jvm.Cond.laysFinal "OneRing$Search" "OneRing$Search" "start" "LOneRing$Stand;") ∈ TT := tt_1 130 rfl rfl
theorem tw_0_132 : (Jvm.Cond.laysFinal "OneRing$Search" "OneRing$Search" "allowed" "[I") ∈ TT := tt_1 132 rfl rfl
theorem tw_0_134 : (Jvm.Cond.laysFinal "OneRing$Search" "OneRing$Search" "holding" "[I") ∈ TT := tt_1 134 rfl rfl
theorem tw_0_136 : (Jvm.Cond.lays "OneRing$Search" "OneRing$Search" "limit" "I") ∈ TT := tt_1 136 rfl rfl
theorem tw_0_138 : (Jvm.Cond.lays "OneRing$Search" "OneRing$Search" "longest" "I") ∈ TT := tt_1 138 rfl rfl
theorem tw_0_140 : (Jvm.Cond.lays "OneRing$Search" "OneRing$Search" "first" "I") ∈ TT := tt_1 140 rfl rfl
theorem tw_0_142 : (Jvm.Cond.lays "OneRing$Search" "OneRing$Search" "end" "I") ∈ TT := tt_1 142 rfl rfl
theorem tw_0_144 : (Jvm.Cond.lays "OneRing$Search" "OneRing$Search" "found" "I") ∈ TT := tt_1 144 rfl rfl
theorem tw_0_146 : (Jvm.Cond.lays "OneRing$Search" "OneRing$Search" "inAll" "I") ∈ TT := tt_1 146 rfl rfl
theorem tw_0_148 : (Jvm.Cond.lays "OneRing$Search" "OneRing$Search" "inAny" "I") ∈ TT := tt_1 148 rfl rfl
theorem tw_0_151 : (Jvm.Cond.fieldLink "OneRing" (10 : Nat) "OneRing" "text" "LOneRing$Text;") ∈ TT := tt_1 151 rfl rfl
theorem tw_0_152 : (Jvm.Cond.fieldLink "OneRing" (19 : Nat) "OneRing" "told" "LOneRing$Parish;") ∈ TT := tt_1 152 rfl rfl
theorem tw_0_153 : (Jvm.Cond.fieldLink "OneRing" (26 : Nat) "OneRing" "now" "LOneRing$Stand;") ∈ TT := tt_1 153 rfl rfl
theorem tw_0_154 : (Jvm.Cond.fieldLink "OneRing" (30 : Nat) "OneRing" "trial" "LOneRing$Stand;") ∈ TT := tt_1 154 rfl rfl
theorem tw_0_155 : (Jvm.Cond.fieldLink "OneRing" (36 : Nat) "OneRing" "acts" "LOneRing$Acts;") ∈ TT := tt_1 155 rfl rfl
theorem tw_0_156 : (Jvm.Cond.fieldLink "OneRing" (43 : Nat) "OneRing" "search" "LOneRing$Search;") ∈ TT := tt_1 156 rfl rfl
theorem tw_0_157 : (Jvm.Cond.fieldLink "OneRing" (47 : Nat) "OneRing" "kept" "[LOneRing$Stand;") ∈ TT := tt_1 157 rfl rfl
theorem tw_0_158 : (Jvm.Cond.fieldLink "OneRing" (51 : Nat) "OneRing" "wasKept" "[Z") ∈ TT := tt_1 158 rfl rfl
theorem tw_0_159 : (Jvm.Cond.fieldLink "OneRing" (55 : Nat) "OneRing" "seenBehind" "[I") ∈ TT := tt_1 159 rfl rfl
theorem tw_0_160 : (Jvm.Cond.fieldLink "OneRing" (59 : Nat) "OneRing" "seenChurch" "[I") ∈ TT := tt_1 160 rfl rfl
theorem tw_0_161 : (Jvm.Cond.fieldLink "OneRing" (62 : Nat) "OneRing" "mostOf" "[I") ∈ TT := tt_1 161 rfl rfl
theorem tw_0_162 : (Jvm.Cond.fieldLink "OneRing" (65 : Nat) "OneRing" "seen" "I") ∈ TT := tt_1 162 rfl rfl
theorem tw_0_163 : (Jvm.Cond.fieldLink "OneRing" (69 : Nat) "OneRing" "theSeed" "J") ∈ TT := tt_1 163 rfl rfl
theorem tw_0_164 : (Jvm.Cond.laysFinal "OneRing" "OneRing" "text" "LOneRing$Text;") ∈ TT := tt_1 164 rfl rfl
theorem tw_0_166 : (Jvm.Cond.laysFinal "OneRing" "OneRing" "told" "LOneRing$Parish;") ∈ TT := tt_1 166 rfl rfl
theorem tw_0_168 : (Jvm.Cond.laysFinal "OneRing" "OneRing" "now" "LOneRing$Stand;") ∈ TT := tt_1 168 rfl rfl
theorem tw_0_170 : (Jvm.Cond.laysFinal "OneRing" "OneRing" "trial" "LOneRing$Stand;") ∈ TT := tt_1 170 rfl rfl
theorem tw_0_172 : (Jvm.Cond.laysFinal "OneRing" "OneRing" "acts" "LOneRing$Acts;") ∈ TT := tt_1 172 rfl rfl
theorem tw_0_174 : (Jvm.Cond.laysFinal "OneRing" "OneRing" "search" "LOneRing$Search;") ∈ TT := tt_1 174 rfl rfl
theorem tw_0_176 : (Jvm.Cond.laysFinal "OneRing" "OneRing" "kept" "[LOneRing$Stand;") ∈ TT := tt_1 176 rfl rfl
theorem tw_0_178 : (Jvm.Cond.laysFinal "OneRing" "OneRing" "wasKept" "[Z") ∈ TT := tt_1 178 rfl rfl
theorem tw_0_180 : (Jvm.Cond.laysFinal "OneRing" "OneRing" "seenBehind" "[I") ∈ TT := tt_1 180 rfl rfl
theorem tw_0_182 : (Jvm.Cond.laysFinal "OneRing" "OneRing" "seenChurch" "[I") ∈ TT := tt_1 182 rfl rfl
theorem tw_0_184 : (Jvm.Cond.laysFinal "OneRing" "OneRing" "mostOf" "[I") ∈ TT := tt_1 184 rfl rfl
theorem tw_0_186 : (Jvm.Cond.lays "OneRing" "OneRing" "seen" "I") ∈ TT := tt_1 186 rfl rfl
theorem tw_0_188 : (Jvm.Cond.lays "OneRing" "OneRing" "theSeed" "J") ∈ TT := tt_1 188 rfl rfl
theorem tw_0_191 : (Jvm.Cond.arrayClass Jvm.ClassFile.FieldType.boolean) ∈ TT := tt_1 191 rfl rfl
theorem tw_0_192 : (Jvm.Cond.methodLink "OneRingLaw" (13 : Nat) ({ cls := "OneRing", name := "write", desc := "(I)I" } : Jvm.MethodName)) ∈ TT := tt_1 192 rfl rfl
theorem tw_0_193 : (Jvm.Cond.instanceMethod ({ cls := "OneRing", name := "write", desc := "(I)I" } : Jvm.MethodName)) ∈ TT := tt_1 193 rfl rfl
theorem tw_0_194 : (Jvm.Cond.selects "OneRing" ({ cls := "OneRing", name := "write", desc := "(I)I" } : Jvm.MethodName) ({ cls := "OneRing", name := "write", desc := "(I)I" } : Jvm.MethodName)) ∈ TT := tt_1 194 rfl rfl
theorem tw_0_195 : (Jvm.Cond.code ({ cls := "OneRing", name := "write", desc := "(I)I" } : Jvm.MethodName) prog_1_method_2_code (2 : Nat) (Option.some Jvm.ClassFile.FieldType.int)) ∈ TT := tt_1 195 rfl rfl
theorem tw_0_196 : (Jvm.Cond.methodLink "OneRing" (73 : Nat) ({ cls := "OneRing$Text", name := "add", desc := "(I)Z" } : Jvm.MethodName)) ∈ TT := tt_1 196 rfl rfl
theorem tw_0_197 : (Jvm.Cond.instanceMethod ({ cls := "OneRing$Text", name := "add", desc := "(I)Z" } : Jvm.MethodName)) ∈ TT := tt_1 197 rfl rfl
theorem tw_0_198 : (Jvm.Cond.selects "OneRing$Text" ({ cls := "OneRing$Text", name := "add", desc := "(I)Z" } : Jvm.MethodName) ({ cls := "OneRing$Text", name := "add", desc := "(I)Z" } : Jvm.MethodName)) ∈ TT := tt_1 198 rfl rfl
theorem tw_0_199 : (Jvm.Cond.code ({ cls := "OneRing$Text", name := "add", desc := "(I)Z" } : Jvm.MethodName) prog_6_method_2_code (2 : Nat) (Option.some Jvm.ClassFile.FieldType.boolean)) ∈ TT := tt_1 199 rfl rfl
theorem tw_0_200 : (Jvm.Cond.methodLink "OneRingLaw" (18 : Nat) ({ cls := "OneRing", name := "wipe", desc := "()I" } : Jvm.MethodName)) ∈ TT := tt_1 200 rfl rfl
theorem tw_0_201 : (Jvm.Cond.instanceMethod ({ cls := "OneRing", name := "wipe", desc := "()I" } : Jvm.MethodName)) ∈ TT := tt_1 201 rfl rfl
theorem tw_0_202 : (Jvm.Cond.selects "OneRing" ({ cls := "OneRing", name := "wipe", desc := "()I" } : Jvm.MethodName) ({ cls := "OneRing", name := "wipe", desc := "()I" } : Jvm.MethodName)) ∈ TT := tt_1 202 rfl rfl
theorem tw_0_203 : (Jvm.Cond.code ({ cls := "OneRing", name := "wipe", desc := "()I" } : Jvm.MethodName) prog_1_method_3_code (2 : Nat) (Option.some Jvm.ClassFile.FieldType.int)) ∈ TT := tt_1 203 rfl rfl
theorem tw_0_204 : (Jvm.Cond.methodLink "OneRingLaw" (23 : Nat) ({ cls := "OneRing", name := "fault", desc := "()I" } : Jvm.MethodName)) ∈ TT := tt_1 204 rfl rfl
theorem tw_0_205 : (Jvm.Cond.instanceMethod ({ cls := "OneRing", name := "fault", desc := "()I" } : Jvm.MethodName)) ∈ TT := tt_1 205 rfl rfl
theorem tw_0_206 : (Jvm.Cond.selects "OneRing" ({ cls := "OneRing", name := "fault", desc := "()I" } : Jvm.MethodName) ({ cls := "OneRing", name := "fault", desc := "()I" } : Jvm.MethodName)) ∈ TT := tt_1 206 rfl rfl
theorem tw_0_207 : (Jvm.Cond.code ({ cls := "OneRing", name := "fault", desc := "()I" } : Jvm.MethodName) prog_1_method_4_code (1 : Nat) (Option.some Jvm.ClassFile.FieldType.int)) ∈ TT := tt_1 207 rfl rfl
theorem tw_0_208 : (Jvm.Cond.methodLink "OneRing" (80 : Nat) ({ cls := "OneRing$Text", name := "firstFault", desc := "()I" } : Jvm.MethodName)) ∈ TT := tt_1 208 rfl rfl
theorem tw_0_209 : (Jvm.Cond.instanceMethod ({ cls := "OneRing$Text", name := "firstFault", desc := "()I" } : Jvm.MethodName)) ∈ TT := tt_1 209 rfl rfl
theorem tw_0_210 : (Jvm.Cond.selects "OneRing$Text" ({ cls := "OneRing$Text", name := "firstFault", desc := "()I" } : Jvm.MethodName) ({ cls := "OneRing$Text", name := "firstFault", desc := "()I" } : Jvm.MethodName)) ∈ TT := tt_1 210 rfl rfl
theorem tw_0_211 : (Jvm.Cond.code ({ cls := "OneRing$Text", name := "firstFault", desc := "()I" } : Jvm.MethodName) prog_6_method_4_code (2 : Nat) (Option.some Jvm.ClassFile.FieldType.int)) ∈ TT := tt_1 211 rfl rfl
theorem tw_0_212 : (Jvm.Cond.methodLink "OneRing$Text" (23 : Nat) ({ cls := "OneRing$Text", name := "fits", desc := "(I)Z" } : Jvm.MethodName)) ∈ TT := tt_1 212 rfl rfl
theorem tw_0_214 : (Jvm.Cond.instanceMethod ({ cls := "OneRing$Text", name := "fits", desc := "(I)Z" } : Jvm.MethodName)) ∈ TT := tt_1 214 rfl rfl
theorem tw_0_215 : (Jvm.Cond.code ({ cls := "OneRing$Text", name := "fits", desc := "(I)Z" } : Jvm.MethodName) prog_6_method_5_code (2 : Nat) (Option.some Jvm.ClassFile.FieldType.boolean)) ∈ TT := tt_1 215 rfl rfl
theorem tw_0_216 : (Jvm.Cond.methodLink "OneRing$Text" (27 : Nat) ({ cls := "OneRing$Text", name := "fitsWedding", desc := "(I)Z" } : Jvm.MethodName)) ∈ TT := tt_1 216 rfl rfl
theorem tw_0_218 : (Jvm.Cond.instanceMethod ({ cls := "OneRing$Text", name := "fitsWedding", desc := "(I)Z" } : Jvm.MethodName)) ∈ TT := tt_1 218 rfl rfl
theorem tw_0_219 : (Jvm.Cond.code ({ cls := "OneRing$Text", name := "fitsWedding", desc := "(I)Z" } : Jvm.MethodName) prog_6_method_6_code (2 : Nat) (Option.some Jvm.ClassFile.FieldType.boolean)) ∈ TT := tt_1 219 rfl rfl
theorem tw_0_220 : (Jvm.Cond.methodLink "OneRing$Text" (30 : Nat) ({ cls := "OneRing$Text", name := "isFigure", desc := "(III)Z" } : Jvm.MethodName)) ∈ TT := tt_1 220 rfl rfl
theorem tw_0_222 : (Jvm.Cond.instanceMethod ({ cls := "OneRing$Text", name := "isFigure", desc := "(III)Z" } : Jvm.MethodName)) ∈ TT := tt_1 222 rfl rfl
theorem tw_0_223 : (Jvm.Cond.code ({ cls := "OneRing$Text", name := "isFigure", desc := "(III)Z" } : Jvm.MethodName) prog_6_method_7_code (4 : Nat) (Option.some Jvm.ClassFile.FieldType.boolean)) ∈ TT := tt_1 223 rfl rfl
theorem tw_0_224 : (Jvm.Cond.methodLink "OneRing$Text" (34 : Nat) ({ cls := "OneRing$Text", name := "figure", desc := "(I)I" } : Jvm.MethodName)) ∈ TT := tt_1 224 rfl rfl
theorem tw_0_225 : (Jvm.Cond.instanceMethod ({ cls := "OneRing$Text", name := "figure", desc := "(I)I" } : Jvm.MethodName)) ∈ TT := tt_1 225 rfl rfl
theorem tw_0_226 : (Jvm.Cond.selects "OneRing$Text" ({ cls := "OneRing$Text", name := "figure", desc := "(I)I" } : Jvm.MethodName) ({ cls := "OneRing$Text", name := "figure", desc := "(I)I" } : Jvm.MethodName)) ∈ TT := tt_1 226 rfl rfl
theorem tw_0_227 : (Jvm.Cond.code ({ cls := "OneRing$Text", name := "figure", desc := "(I)I" } : Jvm.MethodName) prog_6_method_3_code (2 : Nat) (Option.some Jvm.ClassFile.FieldType.int)) ∈ TT := tt_1 227 rfl rfl
theorem tw_0_229 : (Jvm.Cond.static ({ cls := "OneRing", name := "at", desc := "([II)I" } : Jvm.MethodName)) ∈ TT := tt_1 229 rfl rfl
theorem tw_0_230 : (Jvm.Cond.code ({ cls := "OneRing", name := "at", desc := "([II)I" } : Jvm.MethodName) prog_1_method_33_code (2 : Nat) (Option.some Jvm.ClassFile.FieldType.int)) ∈ TT := tt_1 230 rfl rfl
theorem tw_0_231 : (Jvm.Cond.methodLink "OneRingLaw" (27 : Nat) ({ cls := "OneRing", name := "parish", desc := "()I" } : Jvm.MethodName)) ∈ TT := tt_1 231 rfl rfl
theorem tw_0_232 : (Jvm.Cond.instanceMethod ({ cls := "OneRing", name := "parish", desc := "()I" } : Jvm.MethodName)) ∈ TT := tt_1 232 rfl rfl
theorem tw_0_233 : (Jvm.Cond.selects "OneRing" ({ cls := "OneRing", name := "parish", desc := "()I" } : Jvm.MethodName) ({ cls := "OneRing", name := "parish", desc := "()I" } : Jvm.MethodName)) ∈ TT := tt_1 233 rfl rfl
theorem tw_0_234 : (Jvm.Cond.code ({ cls := "OneRing", name := "parish", desc := "()I" } : Jvm.MethodName) prog_1_method_5_code (2 : Nat) (Option.some Jvm.ClassFile.FieldType.int)) ∈ TT := tt_1 234 rfl rfl
theorem tw_0_235 : (Jvm.Cond.methodLink "OneRing" (84 : Nat) ({ cls := "OneRing$Parish", name := "readFrom", desc := "(LOneRing$Text;)V" } : Jvm.MethodName)) ∈ TT := tt_1 235 rfl rfl
theorem tw_0_236 : (Jvm.Cond.instanceMethod ({ cls := "OneRing$Parish", name := "readFrom", desc := "(LOneRing$Text;)V" } : Jvm.MethodName)) ∈ TT := tt_1 236 rfl rfl
theorem tw_0_237 : (Jvm.Cond.selects "OneRing$Parish" ({ cls := "OneRing$Parish", name := "readFrom", desc := "(LOneRing$Text;)V" } : Jvm.MethodName) ({ cls := "OneRing$Parish", name := "readFrom", desc := "(LOneRing$Text;)V" } : Jvm.MethodName)) ∈ TT := tt_1 237 rfl rfl
theorem tw_0_238 : (Jvm.Cond.code ({ cls := "OneRing$Parish", name := "readFrom", desc := "(LOneRing$Text;)V" } : Jvm.MethodName) prog_3_method_2_code (4 : Nat) (Option.none : Option Jvm.ClassFile.FieldType)) ∈ TT := tt_1 238 rfl rfl
theorem tw_0_239 : (Jvm.Cond.methodLink "OneRing$Parish" (25 : Nat) ({ cls := "OneRing$Text", name := "figure", desc := "(I)I" } : Jvm.MethodName)) ∈ TT := tt_1 239 rfl rfl
theorem tw_1_0 : (Jvm.Cond.methodLink "OneRing$Parish" (34 : Nat) ({ cls := "OneRing$Parish", name := "figure", desc := "(II)I" } : Jvm.MethodName)) ∈ TT := tt_2 0 rfl rfl
theorem tw_1_1 : (Jvm.Cond.instanceMethod ({ cls := "OneRing$Parish", name := "figure", desc := "(II)I" } : Jvm.MethodName)) ∈ TT := tt_2 1 rfl rfl
theorem tw_1_2 : (Jvm.Cond.selects "OneRing$Parish" ({ cls := "OneRing$Parish", name := "figure", desc := "(II)I" } : Jvm.MethodName) ({ cls := "OneRing$Parish", name := "figure", desc := "(II)I" } : Jvm.MethodName)) ∈ TT := tt_2 2 rfl rfl
theorem tw_1_3 : (Jvm.Cond.code ({ cls := "OneRing$Parish", name := "figure", desc := "(II)I" } : Jvm.MethodName) prog_3_method_5_code (4 : Nat) (Option.some Jvm.ClassFile.FieldType.int)) ∈ TT := tt_2 3 rfl rfl
theorem tw_1_4 : (Jvm.Cond.methodLink "OneRing$Parish" (37 : Nat) ({ cls := "java/lang/Math", name := "max", desc := "(II)I" } : Jvm.MethodName)) ∈ TT := tt_2 4 rfl rfl
theorem tw_1_5 : (Jvm.Cond.static ({ cls := "java/lang/Math", name := "max", desc := "(II)I" } : Jvm.MethodName)) ∈ TT := tt_2 5 rfl rfl
theorem tw_1_6 : (Jvm.Cond.code ({ cls := "java/lang/Math", name := "max", desc := "(II)I" } : Jvm.MethodName) prog_10_method_65_code (2 : Nat) (Option.some Jvm.ClassFile.FieldType.int)) ∈ TT := tt_2 6 rfl rfl
theorem tw_1_7 : (Jvm.Cond.methodLink "OneRing" (88 : Nat) ({ cls := "OneRing$Stand", name := "readFrom", desc := "(LOneRing$Text;)V" } : Jvm.MethodName)) ∈ TT := tt_2 7 rfl rfl
theorem tw_1_8 : (Jvm.Cond.instanceMethod ({ cls := "OneRing$Stand", name := "readFrom", desc := "(LOneRing$Text;)V" } : Jvm.MethodName)) ∈ TT := tt_2 8 rfl rfl
theorem tw_1_9 : (Jvm.Cond.selects "OneRing$Stand" ({ cls := "OneRing$Stand", name := "readFrom", desc := "(LOneRing$Text;)V" } : Jvm.MethodName) ({ cls := "OneRing$Stand", name := "readFrom", desc := "(LOneRing$Text;)V" } : Jvm.MethodName)) ∈ TT := tt_2 9 rfl rfl
theorem tw_1_10 : (Jvm.Cond.code ({ cls := "OneRing$Stand", name := "readFrom", desc := "(LOneRing$Text;)V" } : Jvm.MethodName) prog_5_method_3_code (3 : Nat) (Option.none : Option Jvm.ClassFile.FieldType)) ∈ TT := tt_2 10 rfl rfl
theorem tw_1_11 : (Jvm.Cond.methodLink "OneRing$Stand" (29 : Nat) ({ cls := "OneRing$Text", name := "figure", desc := "(I)I" } : Jvm.MethodName)) ∈ TT := tt_2 11 rfl rfl
theorem tw_1_12 : (Jvm.Cond.methodLink "OneRing" (89 : Nat) ({ cls := "OneRing$Acts", name := "clear", desc := "()V" } : Jvm.MethodName)) ∈ TT := tt_2 12 rfl rfl
theorem tw_1_13 : (Jvm.Cond.instanceMethod ({ cls := "OneRing$Acts", name := "clear", desc := "()V" } : Jvm.MethodName)) ∈ TT := tt_2 13 rfl rfl
theorem tw_1_14 : (Jvm.Cond.selects "OneRing$Acts" ({ cls := "OneRing$Acts", name := "clear", desc := "()V" } : Jvm.MethodName) ({ cls := "OneRing$Acts", name := "clear", desc := "()V" } : Jvm.MethodName)) ∈ TT := tt_2 14 rfl rfl
theorem tw_1_15 : (Jvm.Cond.code ({ cls := "OneRing$Acts", name := "clear", desc := "()V" } : Jvm.MethodName) prog_2_method_2_code (1 : Nat) (Option.none : Option Jvm.ClassFile.FieldType)) ∈ TT := tt_2 15 rfl rfl
theorem tw_1_16 : (Jvm.Cond.methodLink "OneRingLaw" (31 : Nat) ({ cls := "OneRing", name := "wedding", desc := "(II)I" } : Jvm.MethodName)) ∈ TT := tt_2 16 rfl rfl
theorem tw_1_17 : (Jvm.Cond.instanceMethod ({ cls := "OneRing", name := "wedding", desc := "(II)I" } : Jvm.MethodName)) ∈ TT := tt_2 17 rfl rfl
theorem tw_1_18 : (Jvm.Cond.selects "OneRing" ({ cls := "OneRing", name := "wedding", desc := "(II)I" } : Jvm.MethodName) ({ cls := "OneRing", name := "wedding", desc := "(II)I" } : Jvm.MethodName)) ∈ TT := tt_2 18 rfl rfl
theorem tw_1_19 : (Jvm.Cond.code ({ cls := "OneRing", name := "wedding", desc := "(II)I" } : Jvm.MethodName) prog_1_method_6_code (3 : Nat) (Option.some Jvm.ClassFile.FieldType.int)) ∈ TT := tt_2 19 rfl rfl
theorem tw_1_20 : (Jvm.Cond.methodLink "OneRing" (95 : Nat) ({ cls := "OneRing$Parish", name := "has", desc := "(I)Z" } : Jvm.MethodName)) ∈ TT := tt_2 20 rfl rfl
theorem tw_1_21 : (Jvm.Cond.instanceMethod ({ cls := "OneRing$Parish", name := "has", desc := "(I)Z" } : Jvm.MethodName)) ∈ TT := tt_2 21 rfl rfl
theorem tw_1_22 : (Jvm.Cond.selects "OneRing$Parish" ({ cls := "OneRing$Parish", name := "has", desc := "(I)Z" } : Jvm.MethodName) ({ cls := "OneRing$Parish", name := "has", desc := "(I)Z" } : Jvm.MethodName)) ∈ TT := tt_2 22 rfl rfl
theorem tw_1_23 : (Jvm.Cond.code ({ cls := "OneRing$Parish", name := "has", desc := "(I)Z" } : Jvm.MethodName) prog_3_method_3_code (2 : Nat) (Option.some Jvm.ClassFile.FieldType.boolean)) ∈ TT := tt_2 23 rfl rfl
theorem tw_1_24 : (Jvm.Cond.methodLink "OneRing" (98 : Nat) ({ cls := "OneRing$Parish", name := "figure", desc := "(II)I" } : Jvm.MethodName)) ∈ TT := tt_2 24 rfl rfl
theorem tw_1_25 : (Jvm.Cond.methodLink "OneRing" (102 : Nat) ({ cls := "OneRing$Stand", name := "isWed", desc := "(I)Z" } : Jvm.MethodName)) ∈ TT := tt_2 25 rfl rfl
theorem tw_1_26 : (Jvm.Cond.instanceMethod ({ cls := "OneRing$Stand", name := "isWed", desc := "(I)Z" } : Jvm.MethodName)) ∈ TT := tt_2 26 rfl rfl
theorem tw_1_27 : (Jvm.Cond.selects "OneRing$Stand" ({ cls := "OneRing$Stand", name := "isWed", desc := "(I)Z" } : Jvm.MethodName) ({ cls := "OneRing$Stand", name := "isWed", desc := "(I)Z" } : Jvm.MethodName)) ∈ TT := tt_2 27 rfl rfl
theorem tw_1_28 : (Jvm.Cond.code ({ cls := "OneRing$Stand", name := "isWed", desc := "(I)Z" } : Jvm.MethodName) prog_5_method_4_code (2 : Nat) (Option.some Jvm.ClassFile.FieldType.boolean)) ∈ TT := tt_2 28 rfl rfl
theorem tw_1_29 : (Jvm.Cond.methodLink "OneRing" (105 : Nat) ({ cls := "OneRing$Parish", name := "beginOn", desc := "(LOneRing$Stand;I)I" } : Jvm.MethodName)) ∈ TT := tt_2 29 rfl rfl
theorem tw_1_30 : (Jvm.Cond.instanceMethod ({ cls := "OneRing$Parish", name := "beginOn", desc := "(LOneRing$Stand;I)I" } : Jvm.MethodName)) ∈ TT := tt_2 30 rfl rfl
theorem tw_1_31 : (Jvm.Cond.selects "OneRing$Parish" ({ cls := "OneRing$Parish", name := "beginOn", desc := "(LOneRing$Stand;I)I" } : Jvm.MethodName) ({ cls := "OneRing$Parish", name := "beginOn", desc := "(LOneRing$Stand;I)I" } : Jvm.MethodName)) ∈ TT := tt_2 31 rfl rfl
theorem tw_1_32 : (Jvm.Cond.code ({ cls := "OneRing$Parish", name := "beginOn", desc := "(LOneRing$Stand;I)I" } : Jvm.MethodName) prog_3_method_8_code (3 : Nat) (Option.some Jvm.ClassFile.FieldType.int)) ∈ TT := tt_2 32 rfl rfl
theorem tw_1_33 : (Jvm.Cond.methodLink "OneRing$Parish" (46 : Nat) ({ cls := "OneRing$Parish", name := "has", desc := "(I)Z" } : Jvm.MethodName)) ∈ TT := tt_2 33 rfl rfl
theorem tw_1_34 : (Jvm.Cond.methodLink "OneRing$Parish" (50 : Nat) ({ cls := "OneRing$Stand", name := "isWed", desc := "(I)Z" } : Jvm.MethodName)) ∈ TT := tt_2 34 rfl rfl
theorem tw_1_35 : (Jvm.Cond.methodLink "OneRing$Parish" (61 : Nat) ({ cls := "OneRing$Stand", name := "hoursBetween", desc := "(II)I" } : Jvm.MethodName)) ∈ TT := tt_2 35 rfl rfl
theorem tw_1_36 : (Jvm.Cond.instanceMethod ({ cls := "OneRing$Stand", name := "hoursBetween", desc := "(II)I" } : Jvm.MethodName)) ∈ TT := tt_2 36 rfl rfl
theorem tw_1_37 : (Jvm.Cond.selects "OneRing$Stand" ({ cls := "OneRing$Stand", name := "hoursBetween", desc := "(II)I" } : Jvm.MethodName) ({ cls := "OneRing$Stand", name := "hoursBetween", desc := "(II)I" } : Jvm.MethodName)) ∈ TT := tt_2 37 rfl rfl
theorem tw_1_38 : (Jvm.Cond.code ({ cls := "OneRing$Stand", name := "hoursBetween", desc := "(II)I" } : Jvm.MethodName) prog_5_method_6_code (5 : Nat) (Option.some Jvm.ClassFile.FieldType.int)) ∈ TT := tt_2 38 rfl rfl
theorem tw_1_39 : (Jvm.Cond.methodLink "OneRing$Stand" (35 : Nat) ({ cls := "java/lang/Math", name := "min", desc := "(II)I" } : Jvm.MethodName)) ∈ TT := tt_2 39 rfl rfl
theorem tw_1_40 : (Jvm.Cond.static ({ cls := "java/lang/Math", name := "min", desc := "(II)I" } : Jvm.MethodName)) ∈ TT := tt_2 40 rfl rfl
theorem tw_1_41 : (Jvm.Cond.code ({ cls := "java/lang/Math", name := "min", desc := "(II)I" } : Jvm.MethodName) prog_10_method_69_code (2 : Nat) (Option.some Jvm.ClassFile.FieldType.int)) ∈ TT := tt_2 41 rfl rfl
theorem tw_1_42 : (Jvm.Cond.methodLink "OneRing$Stand" (41 : Nat) ({ cls := "java/lang/Math", name := "max", desc := "(II)I" } : Jvm.MethodName)) ∈ TT := tt_2 42 rfl rfl
theorem tw_1_44 : (Jvm.Cond.methodLink "OneRing$Parish" (64 : Nat) ({ cls := "OneRing$Parish", name := "begin", desc := "(III)I" } : Jvm.MethodName)) ∈ TT := tt_2 44 rfl rfl
theorem tw_1_45 : (Jvm.Cond.instanceMethod ({ cls := "OneRing$Parish", name := "begin", desc := "(III)I" } : Jvm.MethodName)) ∈ TT := tt_2 45 rfl rfl
theorem tw_1_46 : (Jvm.Cond.selects "OneRing$Parish" ({ cls := "OneRing$Parish", name := "begin", desc := "(III)I" } : Jvm.MethodName) ({ cls := "OneRing$Parish", name := "begin", desc := "(III)I" } : Jvm.MethodName)) ∈ TT := tt_2 46 rfl rfl
theorem tw_1_47 : (Jvm.Cond.code ({ cls := "OneRing$Parish", name := "begin", desc := "(III)I" } : Jvm.MethodName) prog_3_method_6_code (6 : Nat) (Option.some Jvm.ClassFile.FieldType.int)) ∈ TT := tt_2 47 rfl rfl
theorem tw_1_49 : (Jvm.Cond.methodLink "OneRingLaw" (36 : Nat) ({ cls := "OneRing", name := "road", desc := "(I)I" } : Jvm.MethodName)) ∈ TT := tt_2 49 rfl rfl
theorem tw_1_50 : (Jvm.Cond.instanceMethod ({ cls := "OneRing", name := "road", desc := "(I)I" } : Jvm.MethodName)) ∈ TT := tt_2 50 rfl rfl
theorem tw_1_51 : (Jvm.Cond.selects "OneRing" ({ cls := "OneRing", name := "road", desc := "(I)I" } : Jvm.MethodName) ({ cls := "OneRing", name := "road", desc := "(I)I" } : Jvm.MethodName)) ∈ TT := tt_2 51 rfl rfl
theorem tw_1_52 : (Jvm.Cond.code ({ cls := "OneRing", name := "road", desc := "(I)I" } : Jvm.MethodName) prog_1_method_7_code (2 : Nat) (Option.some Jvm.ClassFile.FieldType.int)) ∈ TT := tt_2 52 rfl rfl
theorem tw_1_53 : (Jvm.Cond.methodLink "OneRing" (109 : Nat) ({ cls := "OneRing", name := "isRoad", desc := "(I)Z" } : Jvm.MethodName)) ∈ TT := tt_2 53 rfl rfl
theorem tw_1_54 : (Jvm.Cond.static ({ cls := "OneRing", name := "isRoad", desc := "(I)Z" } : Jvm.MethodName)) ∈ TT := tt_2 54 rfl rfl
theorem tw_1_55 : (Jvm.Cond.code ({ cls := "OneRing", name := "isRoad", desc := "(I)Z" } : Jvm.MethodName) prog_1_method_31_code (1 : Nat) (Option.some Jvm.ClassFile.FieldType.boolean)) ∈ TT := tt_2 55 rfl rfl
theorem tw_1_56 : (Jvm.Cond.methodLink "OneRing" (115 : Nat) ({ cls := "OneRing", name := "at", desc := "([II)I" } : Jvm.MethodName)) ∈ TT := tt_2 56 rfl rfl
theorem tw_1_57 : (Jvm.Cond.methodLink "OneRingLaw" (40 : Nat) ({ cls := "OneRing", name := "way", desc := "(II)I" } : Jvm.MethodName)) ∈ TT := tt_2 57 rfl rfl
theorem tw_1_58 : (Jvm.Cond.instanceMethod ({ cls := "OneRing", name := "way", desc := "(II)I" } : Jvm.MethodName)) ∈ TT := tt_2 58 rfl rfl
theorem tw_1_59 : (Jvm.Cond.selects "OneRing" ({ cls := "OneRing", name := "way", desc := "(II)I" } : Jvm.MethodName) ({ cls := "OneRing", name := "way", desc := "(II)I" } : Jvm.MethodName)) ∈ TT := tt_2 59 rfl rfl
theorem tw_1_60 : (Jvm.Cond.code ({ cls := "OneRing", name := "way", desc := "(II)I" } : Jvm.MethodName) prog_1_method_8_code (3 : Nat) (Option.some Jvm.ClassFile.FieldType.int)) ∈ TT := tt_2 60 rfl rfl
theorem tw_1_61 : (Jvm.Cond.methodLink "OneRing" (119 : Nat) ({ cls := "OneRing", name := "isChurch", desc := "(I)Z" } : Jvm.MethodName)) ∈ TT := tt_2 61 rfl rfl
theorem tw_1_62 : (Jvm.Cond.static ({ cls := "OneRing", name := "isChurch", desc := "(I)Z" } : Jvm.MethodName)) ∈ TT := tt_2 62 rfl rfl
theorem tw_1_63 : (Jvm.Cond.code ({ cls := "OneRing", name := "isChurch", desc := "(I)Z" } : Jvm.MethodName) prog_1_method_30_code (1 : Nat) (Option.some Jvm.ClassFile.FieldType.boolean)) ∈ TT := tt_2 63 rfl rfl
theorem tw_1_64 : (Jvm.Cond.methodLink "OneRing" (122 : Nat) ({ cls := "OneRing$Stand", name := "hoursBetween", desc := "(II)I" } : Jvm.MethodName)) ∈ TT := tt_2 64 rfl rfl
theorem tw_1_65 : (Jvm.Cond.methodLink "OneRingLaw" (44 : Nat) ({ cls := "OneRing", name := "wed", desc := "(I)I" } : Jvm.MethodName)) ∈ TT := tt_2 65 rfl rfl
theorem tw_1_66 : (Jvm.Cond.instanceMethod ({ cls := "OneRing", name := "wed", desc := "(I)I" } : Jvm.MethodName)) ∈ TT := tt_2 66 rfl rfl
theorem tw_1_67 : (Jvm.Cond.selects "OneRing" ({ cls := "OneRing", name := "wed", desc := "(I)I" } : Jvm.MethodName) ({ cls := "OneRing", name := "wed", desc := "(I)I" } : Jvm.MethodName)) ∈ TT := tt_2 67 rfl rfl
theorem tw_1_68 : (Jvm.Cond.code ({ cls := "OneRing", name := "wed", desc := "(I)I" } : Jvm.MethodName) prog_1_method_9_code (2 : Nat) (Option.some Jvm.ClassFile.FieldType.int)) ∈ TT := tt_2 68 rfl rfl
theorem tw_1_69 : (Jvm.Cond.methodLink "OneRing" (125 : Nat) ({ cls := "OneRing$Acts", name := "remember", desc := "(LOneRing$Stand;)V" } : Jvm.MethodName)) ∈ TT := tt_2 69 rfl rfl
theorem tw_1_70 : (Jvm.Cond.instanceMethod ({ cls := "OneRing$Acts", name := "remember", desc := "(LOneRing$Stand;)V" } : Jvm.MethodName)) ∈ TT := tt_2 70 rfl rfl
theorem tw_1_71 : (Jvm.Cond.selects "OneRing$Acts" ({ cls := "OneRing$Acts", name := "remember", desc := "(LOneRing$Stand;)V" } : Jvm.MethodName) ({ cls := "OneRing$Acts", name := "remember", desc := "(LOneRing$Stand;)V" } : Jvm.MethodName)) ∈ TT := tt_2 71 rfl rfl
theorem tw_1_72 : (Jvm.Cond.code ({ cls := "OneRing$Acts", name := "remember", desc := "(LOneRing$Stand;)V" } : Jvm.MethodName) prog_2_method_4_code (3 : Nat) (Option.none : Option Jvm.ClassFile.FieldType)) ∈ TT := tt_2 72 rfl rfl
theorem tw_1_73 : (Jvm.Cond.methodLink "OneRing$Acts" (25 : Nat) ({ cls := "OneRing$Acts", name := "standAt", desc := "(I)LOneRing$Stand;" } : Jvm.MethodName)) ∈ TT := tt_2 73 rfl rfl
theorem tw_1_75 : (Jvm.Cond.instanceMethod ({ cls := "OneRing$Acts", name := "standAt", desc := "(I)LOneRing$Stand;" } : Jvm.MethodName)) ∈ TT := tt_2 75 rfl rfl
theorem tw_1_76 : (Jvm.Cond.code ({ cls := "OneRing$Acts", name := "standAt", desc := "(I)LOneRing$Stand;" } : Jvm.MethodName) prog_2_method_3_code (3 : Nat) (Option.some (Jvm.ClassFile.FieldType.object "OneRing$Stand"))) ∈ TT := tt_2 76 rfl rfl
theorem tw_1_77 : (Jvm.Cond.methodLink "OneRing$Acts" (29 : Nat) ({ cls := "OneRing$Stand", name := "take", desc := "(LOneRing$Stand;)V" } : Jvm.MethodName)) ∈ TT := tt_2 77 rfl rfl
theorem tw_1_78 : (Jvm.Cond.instanceMethod ({ cls := "OneRing$Stand", name := "take", desc := "(LOneRing$Stand;)V" } : Jvm.MethodName)) ∈ TT := tt_2 78 rfl rfl
theorem tw_1_79 : (Jvm.Cond.selects "OneRing$Stand" ({ cls := "OneRing$Stand", name := "take", desc := "(LOneRing$Stand;)V" } : Jvm.MethodName) ({ cls := "OneRing$Stand", name := "take", desc := "(LOneRing$Stand;)V" } : Jvm.MethodName)) ∈ TT := tt_2 79 rfl rfl
theorem tw_1_80 : (Jvm.Cond.code ({ cls := "OneRing$Stand", name := "take", desc := "(LOneRing$Stand;)V" } : Jvm.MethodName) prog_5_method_2_code (3 : Nat) (Option.none : Option Jvm.ClassFile.FieldType)) ∈ TT := tt_2 80 rfl rfl
theorem tw_1_81 : (Jvm.Cond.methodLink "OneRing" (129 : Nat) ({ cls := "OneRing$Parish", name := "celebrate", desc := "(LOneRing$Stand;I)Z" } : Jvm.MethodName)) ∈ TT := tt_2 81 rfl rfl
theorem tw_1_82 : (Jvm.Cond.instanceMethod ({ cls := "OneRing$Parish", name := "celebrate", desc := "(LOneRing$Stand;I)Z" } : Jvm.MethodName)) ∈ TT := tt_2 82 rfl rfl
theorem tw_1_83 : (Jvm.Cond.selects "OneRing$Parish" ({ cls := "OneRing$Parish", name := "celebrate", desc := "(LOneRing$Stand;I)Z" } : Jvm.MethodName) ({ cls := "OneRing$Parish", name := "celebrate", desc := "(LOneRing$Stand;I)Z" } : Jvm.MethodName)) ∈ TT := tt_2 83 rfl rfl
theorem tw_1_84 : (Jvm.Cond.code ({ cls := "OneRing$Parish", name := "celebrate", desc := "(LOneRing$Stand;I)Z" } : Jvm.MethodName) prog_3_method_9_code (4 : Nat) (Option.some Jvm.ClassFile.FieldType.boolean)) ∈ TT := tt_2 84 rfl rfl
theorem tw_1_85 : (Jvm.Cond.methodLink "OneRing$Parish" (68 : Nat) ({ cls := "OneRing$Parish", name := "beginOn", desc := "(LOneRing$Stand;I)I" } : Jvm.MethodName)) ∈ TT := tt_2 85 rfl rfl
theorem tw_1_86 : (Jvm.Cond.methodLink "OneRing$Parish" (72 : Nat) ({ cls := "OneRing$Parish", name := "ringFree", desc := "(II)I" } : Jvm.MethodName)) ∈ TT := tt_2 86 rfl rfl
theorem tw_1_87 : (Jvm.Cond.instanceMethod ({ cls := "OneRing$Parish", name := "ringFree", desc := "(II)I" } : Jvm.MethodName)) ∈ TT := tt_2 87 rfl rfl
theorem tw_1_88 : (Jvm.Cond.selects "OneRing$Parish" ({ cls := "OneRing$Parish", name := "ringFree", desc := "(II)I" } : Jvm.MethodName) ({ cls := "OneRing$Parish", name := "ringFree", desc := "(II)I" } : Jvm.MethodName)) ∈ TT := tt_2 88 rfl rfl
theorem tw_1_89 : (Jvm.Cond.code ({ cls := "OneRing$Parish", name := "ringFree", desc := "(II)I" } : Jvm.MethodName) prog_3_method_7_code (3 : Nat) (Option.some Jvm.ClassFile.FieldType.int)) ∈ TT := tt_2 89 rfl rfl
theorem tw_1_90 : (Jvm.Cond.methodLink "OneRingLaw" (48 : Nat) ({ cls := "OneRing", name := "carry", desc := "(I)I" } : Jvm.MethodName)) ∈ TT := tt_2 90 rfl rfl
theorem tw_1_91 : (Jvm.Cond.instanceMethod ({ cls := "OneRing", name := "carry", desc := "(I)I" } : Jvm.MethodName)) ∈ TT := tt_2 91 rfl rfl
theorem tw_1_92 : (Jvm.Cond.selects "OneRing" ({ cls := "OneRing", name := "carry", desc := "(I)I" } : Jvm.MethodName) ({ cls := "OneRing", name := "carry", desc := "(I)I" } : Jvm.MethodName)) ∈ TT := tt_2 92 rfl rfl
theorem tw_1_93 : (Jvm.Cond.code ({ cls := "OneRing", name := "carry", desc := "(I)I" } : Jvm.MethodName) prog_1_method_10_code (2 : Nat) (Option.some Jvm.ClassFile.FieldType.int)) ∈ TT := tt_2 93 rfl rfl
theorem tw_1_94 : (Jvm.Cond.methodLink "OneRingLaw" (52 : Nat) ({ cls := "OneRing", name := "linger", desc := "()I" } : Jvm.MethodName)) ∈ TT := tt_2 94 rfl rfl
theorem tw_1_95 : (Jvm.Cond.instanceMethod ({ cls := "OneRing", name := "linger", desc := "()I" } : Jvm.MethodName)) ∈ TT := tt_2 95 rfl rfl
theorem tw_1_96 : (Jvm.Cond.selects "OneRing" ({ cls := "OneRing", name := "linger", desc := "()I" } : Jvm.MethodName) ({ cls := "OneRing", name := "linger", desc := "()I" } : Jvm.MethodName)) ∈ TT := tt_2 96 rfl rfl
theorem tw_1_97 : (Jvm.Cond.code ({ cls := "OneRing", name := "linger", desc := "()I" } : Jvm.MethodName) prog_1_method_11_code (1 : Nat) (Option.some Jvm.ClassFile.FieldType.int)) ∈ TT := tt_2 97 rfl rfl
theorem tw_1_98 : (Jvm.Cond.methodLink "OneRingLaw" (56 : Nat) ({ cls := "OneRing", name := "mend", desc := "(I)I" } : Jvm.MethodName)) ∈ TT := tt_2 98 rfl rfl
theorem tw_1_99 : (Jvm.Cond.instanceMethod ({ cls := "OneRing", name := "mend", desc := "(I)I" } : Jvm.MethodName)) ∈ TT := tt_2 99 rfl rfl
theorem tw_1_100 : (Jvm.Cond.selects "OneRing" ({ cls := "OneRing", name := "mend", desc := "(I)I" } : Jvm.MethodName) ({ cls := "OneRing", name := "mend", desc := "(I)I" } : Jvm.MethodName)) ∈ TT := tt_2 100 rfl rfl
theorem tw_1_101 : (Jvm.Cond.code ({ cls := "OneRing", name := "mend", desc := "(I)I" } : Jvm.MethodName) prog_1_method_12_code (2 : Nat) (Option.some Jvm.ClassFile.FieldType.int)) ∈ TT := tt_2 101 rfl rfl
theorem tw_1_102 : (Jvm.Cond.methodLink "OneRing" (139 : Nat) ({ cls := "OneRing$Stand", name := "shorten", desc := "(I)V" } : Jvm.MethodName)) ∈ TT := tt_2 102 rfl rfl
theorem tw_1_103 : (Jvm.Cond.instanceMethod ({ cls := "OneRing$Stand", name := "shorten", desc := "(I)V" } : Jvm.MethodName)) ∈ TT := tt_2 103 rfl rfl
theorem tw_1_104 : (Jvm.Cond.selects "OneRing$Stand" ({ cls := "OneRing$Stand", name := "shorten", desc := "(I)V" } : Jvm.MethodName) ({ cls := "OneRing$Stand", name := "shorten", desc := "(I)V" } : Jvm.MethodName)) ∈ TT := tt_2 104 rfl rfl
theorem tw_1_105 : (Jvm.Cond.code ({ cls := "OneRing$Stand", name := "shorten", desc := "(I)V" } : Jvm.MethodName) prog_5_method_5_code (2 : Nat) (Option.none : Option Jvm.ClassFile.FieldType)) ∈ TT := tt_2 105 rfl rfl
theorem tw_1_106 : (Jvm.Cond.methodLink "OneRingLaw" (60 : Nat) ({ cls := "OneRing", name := "undo", desc := "()I" } : Jvm.MethodName)) ∈ TT := tt_2 106 rfl rfl
theorem tw_1_107 : (Jvm.Cond.instanceMethod ({ cls := "OneRing", name := "undo", desc := "()I" } : Jvm.MethodName)) ∈ TT := tt_2 107 rfl rfl
theorem tw_1_108 : (Jvm.Cond.selects "OneRing" ({ cls := "OneRing", name := "undo", desc := "()I" } : Jvm.MethodName) ({ cls := "OneRing", name := "undo", desc := "()I" } : Jvm.MethodName)) ∈ TT := tt_2 108 rfl rfl
theorem tw_1_109 : (Jvm.Cond.code ({ cls := "OneRing", name := "undo", desc := "()I" } : Jvm.MethodName) prog_1_method_13_code (1 : Nat) (Option.some Jvm.ClassFile.FieldType.int)) ∈ TT := tt_2 109 rfl rfl
theorem tw_1_110 : (Jvm.Cond.methodLink "OneRing" (143 : Nat) ({ cls := "OneRing$Acts", name := "takeBack", desc := "(LOneRing$Stand;)Z" } : Jvm.MethodName)) ∈ TT := tt_2 110 rfl rfl
theorem tw_1_111 : (Jvm.Cond.instanceMethod ({ cls := "OneRing$Acts", name := "takeBack", desc := "(LOneRing$Stand;)Z" } : Jvm.MethodName)) ∈ TT := tt_2 111 rfl rfl
theorem tw_1_112 : (Jvm.Cond.selects "OneRing$Acts" ({ cls := "OneRing$Acts", name := "takeBack", desc := "(LOneRing$Stand;)Z" } : Jvm.MethodName) ({ cls := "OneRing$Acts", name := "takeBack", desc := "(LOneRing$Stand;)Z" } : Jvm.MethodName)) ∈ TT := tt_2 112 rfl rfl
theorem tw_1_113 : (Jvm.Cond.code ({ cls := "OneRing$Acts", name := "takeBack", desc := "(LOneRing$Stand;)Z" } : Jvm.MethodName) prog_2_method_5_code (2 : Nat) (Option.some Jvm.ClassFile.FieldType.boolean)) ∈ TT := tt_2 113 rfl rfl
theorem tw_1_114 : (Jvm.Cond.methodLink "OneRingLaw" (64 : Nat) ({ cls := "OneRing", name := "most", desc := "(I)I" } : Jvm.MethodName)) ∈ TT := tt_2 114 rfl rfl
theorem tw_1_115 : (Jvm.Cond.instanceMethod ({ cls := "OneRing", name := "most", desc := "(I)I" } : Jvm.MethodName)) ∈ TT := tt_2 115 rfl rfl
theorem tw_1_116 : (Jvm.Cond.selects "OneRing" ({ cls := "OneRing", name := "most", desc := "(I)I" } : Jvm.MethodName) ({ cls := "OneRing", name := "most", desc := "(I)I" } : Jvm.MethodName)) ∈ TT := tt_2 116 rfl rfl
theorem tw_1_117 : (Jvm.Cond.code ({ cls := "OneRing", name := "most", desc := "(I)I" } : Jvm.MethodName) prog_1_method_14_code (2 : Nat) (Option.some Jvm.ClassFile.FieldType.int)) ∈ TT := tt_2 117 rfl rfl
theorem tw_1_118 : (Jvm.Cond.methodLink "OneRing" (148 : Nat) ({ cls := "OneRing$Search", name := "runFrom", desc := "(LOneRing$Parish;LOneRing$Stand;)V" } : Jvm.MethodName)) ∈ TT := tt_2 118 rfl rfl
theorem tw_1_119 : (Jvm.Cond.instanceMethod ({ cls := "OneRing$Search", name := "runFrom", desc := "(LOneRing$Parish;LOneRing$Stand;)V" } : Jvm.MethodName)) ∈ TT := tt_2 119 rfl rfl
theorem tw_1_120 : (Jvm.Cond.selects "OneRing$Search" ({ cls := "OneRing$Search", name := "runFrom", desc := "(LOneRing$Parish;LOneRing$Stand;)V" } : Jvm.MethodName) ({ cls := "OneRing$Search", name := "runFrom", desc := "(LOneRing$Parish;LOneRing$Stand;)V" } : Jvm.MethodName)) ∈ TT := tt_2 120 rfl rfl
theorem tw_1_121 : (Jvm.Cond.code ({ cls := "OneRing$Search", name := "runFrom", desc := "(LOneRing$Parish;LOneRing$Stand;)V" } : Jvm.MethodName) prog_4_method_2_code (3 : Nat) (Option.none : Option Jvm.ClassFile.FieldType)) ∈ TT := tt_2 121 rfl rfl
theorem tw_1_122 : (Jvm.Cond.methodLink "OneRing$Search" (47 : Nat) ({ cls := "OneRing$Search", name := "reset", desc := "(LOneRing$Stand;I)V" } : Jvm.MethodName)) ∈ TT := tt_2 122 rfl rfl
theorem tw_1_123 : (Jvm.Cond.instanceMethod ({ cls := "OneRing$Search", name := "reset", desc := "(LOneRing$Stand;I)V" } : Jvm.MethodName)) ∈ TT := tt_2 123 rfl rfl
theorem tw_1_124 : (Jvm.Cond.selects "OneRing$Search" ({ cls := "OneRing$Search", name := "reset", desc := "(LOneRing$Stand;I)V" } : Jvm.MethodName) ({ cls := "OneRing$Search", name := "reset", desc := "(LOneRing$Stand;I)V" } : Jvm.MethodName)) ∈ TT := tt_2 124 rfl rfl
theorem tw_1_125 : (Jvm.Cond.code ({ cls := "OneRing$Search", name := "reset", desc := "(LOneRing$Stand;I)V" } : Jvm.MethodName) prog_4_method_3_code (4 : Nat) (Option.none : Option Jvm.ClassFile.FieldType)) ∈ TT := tt_2 125 rfl rfl
theorem tw_1_126 : (Jvm.Cond.methodLink "OneRing$Search" (55 : Nat) ({ cls := "OneRing$Stand", name := "take", desc := "(LOneRing$Stand;)V" } : Jvm.MethodName)) ∈ TT := tt_2 126 rfl rfl
theorem tw_1_127 : (Jvm.Cond.methodLink "OneRing$Search" (51 : Nat) ({ cls := "OneRing$Search", name := "run", desc := "(LOneRing$Parish;)V" } : Jvm.MethodName)) ∈ TT := tt_2 127 rfl rfl
theorem tw_1_128 : (Jvm.Cond.instanceMethod ({ cls := "OneRing$Search", name := "run", desc := "(LOneRing$Parish;)V" } : Jvm.MethodName)) ∈ TT := tt_2 128 rfl rfl
theorem tw_1_129 : (Jvm.Cond.selects "OneRing$Search" ({ cls := "OneRing$Search", name := "run", desc := "(LOneRing$Parish;)V" } : Jvm.MethodName) ({ cls := "OneRing$Search", name := "run", desc := "(LOneRing$Parish;)V" } : Jvm.MethodName)) ∈ TT := tt_2 129 rfl rfl
theorem tw_1_130 : (Jvm.Cond.code ({ cls := "OneRing$Search", name := "run", desc := "(LOneRing$Parish;)V" } : Jvm.MethodName) prog_4_method_5_code (2 : Nat) (Option.none : Option Jvm.ClassFile.FieldType)) ∈ TT := tt_2 130 rfl rfl
theorem tw_1_131 : (Jvm.Cond.methodLink "OneRing$Search" (65 : Nat) ({ cls := "OneRing$Search", name := "allows", desc := "(II)Z" } : Jvm.MethodName)) ∈ TT := tt_2 131 rfl rfl
theorem tw_1_133 : (Jvm.Cond.instanceMethod ({ cls := "OneRing$Search", name := "allows", desc := "(II)Z" } : Jvm.MethodName)) ∈ TT := tt_2 133 rfl rfl
theorem tw_1_134 : (Jvm.Cond.code ({ cls := "OneRing$Search", name := "allows", desc := "(II)Z" } : Jvm.MethodName) prog_4_method_6_code (3 : Nat) (Option.some Jvm.ClassFile.FieldType.boolean)) ∈ TT := tt_2 134 rfl rfl
theorem tw_1_136 : (Jvm.Cond.methodLink "OneRing$Search" (69 : Nat) ({ cls := "OneRing$Search", name := "goOn", desc := "(LOneRing$Search;LOneRing$Parish;IIIII)V" } : Jvm.MethodName)) ∈ TT := tt_2 136 rfl rfl
theorem tw_1_137 : (Jvm.Cond.static ({ cls := "OneRing$Search", name := "goOn", desc := "(LOneRing$Search;LOneRing$Parish;IIIII)V" } : Jvm.MethodName)) ∈ TT := tt_2 137 rfl rfl
theorem tw_1_138 : (Jvm.Cond.code ({ cls := "OneRing$Search", name := "goOn", desc := "(LOneRing$Search;LOneRing$Parish;IIIII)V" } : Jvm.MethodName) prog_4_method_8_code (12 : Nat) (Option.none : Option Jvm.ClassFile.FieldType)) ∈ TT := tt_2 138 rfl rfl
theorem tw_1_139 : (Jvm.Cond.methodLink "OneRing$Search" (83 : Nat) ({ cls := "OneRing$Search", name := "record", desc := "(IIII)V" } : Jvm.MethodName)) ∈ TT := tt_2 139 rfl rfl
theorem tw_1_141 : (Jvm.Cond.instanceMethod ({ cls := "OneRing$Search", name := "record", desc := "(IIII)V" } : Jvm.MethodName)) ∈ TT := tt_2 141 rfl rfl
theorem tw_1_142 : (Jvm.Cond.code ({ cls := "OneRing$Search", name := "record", desc := "(IIII)V" } : Jvm.MethodName) prog_4_method_7_code (5 : Nat) (Option.none : Option Jvm.ClassFile.FieldType)) ∈ TT := tt_2 142 rfl rfl
theorem tw_1_143 : (Jvm.Cond.methodLink "OneRing$Search" (77 : Nat) ({ cls := "java/lang/Math", name := "min", desc := "(II)I" } : Jvm.MethodName)) ∈ TT := tt_2 143 rfl rfl
theorem tw_1_144 : (Jvm.Cond.methodLink "OneRing$Search" (92 : Nat) ({ cls := "OneRing$Parish", name := "figure", desc := "(II)I" } : Jvm.MethodName)) ∈ TT := tt_2 144 rfl rfl
theorem tw_1_145 : (Jvm.Cond.methodLink "OneRing$Search" (98 : Nat) ({ cls := "OneRing$Stand", name := "hoursBetween", desc := "(II)I" } : Jvm.MethodName)) ∈ TT := tt_2 145 rfl rfl
theorem tw_1_146 : (Jvm.Cond.methodLink "OneRing$Search" (101 : Nat) ({ cls := "OneRing$Parish", name := "begin", desc := "(III)I" } : Jvm.MethodName)) ∈ TT := tt_2 146 rfl rfl
theorem tw_1_147 : (Jvm.Cond.methodLink "OneRing$Search" (105 : Nat) ({ cls := "OneRing$Parish", name := "ringFree", desc := "(II)I" } : Jvm.MethodName)) ∈ TT := tt_2 147 rfl rfl
theorem tw_1_148 : (Jvm.Cond.methodLink "OneRingLaw" (68 : Nat) ({ cls := "OneRing", name := "slack", desc := "()I" } : Jvm.MethodName)) ∈ TT := tt_2 148 rfl rfl
theorem tw_1_149 : (Jvm.Cond.instanceMethod ({ cls := "OneRing", name := "slack", desc := "()I" } : Jvm.MethodName)) ∈ TT := tt_2 149 rfl rfl
theorem tw_1_150 : (Jvm.Cond.selects "OneRing" ({ cls := "OneRing", name := "slack", desc := "()I" } : Jvm.MethodName) ({ cls := "OneRing", name := "slack", desc := "()I" } : Jvm.MethodName)) ∈ TT := tt_2 150 rfl rfl
theorem tw_1_151 : (Jvm.Cond.code ({ cls := "OneRing", name := "slack", desc := "()I" } : Jvm.MethodName) prog_1_method_15_code (3 : Nat) (Option.some Jvm.ClassFile.FieldType.int)) ∈ TT := tt_2 151 rfl rfl
theorem tw_1_152 : (Jvm.Cond.methodLink "OneRing" (161 : Nat) ({ cls := "OneRing", name := "mostFrom", desc := "(LOneRing$Stand;)I" } : Jvm.MethodName)) ∈ TT := tt_2 152 rfl rfl
theorem tw_1_154 : (Jvm.Cond.instanceMethod ({ cls := "OneRing", name := "mostFrom", desc := "(LOneRing$Stand;)I" } : Jvm.MethodName)) ∈ TT := tt_2 154 rfl rfl
theorem tw_1_155 : (Jvm.Cond.code ({ cls := "OneRing", name := "mostFrom", desc := "(LOneRing$Stand;)I" } : Jvm.MethodName) prog_1_method_37_code (2 : Nat) (Option.some Jvm.ClassFile.FieldType.int)) ∈ TT := tt_2 155 rfl rfl
theorem tw_1_156 : (Jvm.Cond.methodLink "OneRing" (165 : Nat) ({ cls := "OneRing$Stand", name := "take", desc := "(LOneRing$Stand;)V" } : Jvm.MethodName)) ∈ TT := tt_2 156 rfl rfl
theorem tw_1_157 : (Jvm.Cond.methodLink "OneRingLaw" (72 : Nat) ({ cls := "OneRing", name := "mending", desc := "(Z)I" } : Jvm.MethodName)) ∈ TT := tt_2 157 rfl rfl
theorem tw_1_158 : (Jvm.Cond.instanceMethod ({ cls := "OneRing", name := "mending", desc := "(Z)I" } : Jvm.MethodName)) ∈ TT := tt_2 158 rfl rfl
theorem tw_1_159 : (Jvm.Cond.selects "OneRing" ({ cls := "OneRing", name := "mending", desc := "(Z)I" } : Jvm.MethodName) ({ cls := "OneRing", name := "mending", desc := "(Z)I" } : Jvm.MethodName)) ∈ TT := tt_2 159 rfl rfl
theorem tw_1_160 : (Jvm.Cond.code ({ cls := "OneRing", name := "mending", desc := "(Z)I" } : Jvm.MethodName) prog_1_method_16_code (6 : Nat) (Option.some Jvm.ClassFile.FieldType.int)) ∈ TT := tt_2 160 rfl rfl
theorem tw_1_161 : (Jvm.Cond.methodLink "OneRingLaw" (77 : Nat) ({ cls := "OneRing", name := "judge", desc := "(II)I" } : Jvm.MethodName)) ∈ TT := tt_2 161 rfl rfl
theorem tw_1_162 : (Jvm.Cond.instanceMethod ({ cls := "OneRing", name := "judge", desc := "(II)I" } : Jvm.MethodName)) ∈ TT := tt_2 162 rfl rfl
theorem tw_1_163 : (Jvm.Cond.selects "OneRing" ({ cls := "OneRing", name := "judge", desc := "(II)I" } : Jvm.MethodName) ({ cls := "OneRing", name := "judge", desc := "(II)I" } : Jvm.MethodName)) ∈ TT := tt_2 163 rfl rfl
theorem tw_1_164 : (Jvm.Cond.code ({ cls := "OneRing", name := "judge", desc := "(II)I" } : Jvm.MethodName) prog_1_method_17_code (4 : Nat) (Option.some Jvm.ClassFile.FieldType.int)) ∈ TT := tt_2 164 rfl rfl
theorem tw_1_165 : (Jvm.Cond.methodLink "OneRing" (168 : Nat) ({ cls := "OneRing", name := "isRow", desc := "(II)Z" } : Jvm.MethodName)) ∈ TT := tt_2 165 rfl rfl
theorem tw_1_166 : (Jvm.Cond.static ({ cls := "OneRing", name := "isRow", desc := "(II)Z" } : Jvm.MethodName)) ∈ TT := tt_2 166 rfl rfl
theorem tw_1_167 : (Jvm.Cond.code ({ cls := "OneRing", name := "isRow", desc := "(II)Z" } : Jvm.MethodName) prog_1_method_34_code (2 : Nat) (Option.some Jvm.ClassFile.FieldType.boolean)) ∈ TT := tt_2 167 rfl rfl
theorem tw_1_168 : (Jvm.Cond.fieldLink "OneRing" (237 : Nat) "OneRing" "TENS" "[I") ∈ TT := tt_2 168 rfl rfl
theorem tw_1_170 : (Jvm.Cond.methodLink "OneRing" (172 : Nat) ({ cls := "OneRing", name := "weddingInRow", desc := "(III)I" } : Jvm.MethodName)) ∈ TT := tt_2 170 rfl rfl
theorem tw_1_171 : (Jvm.Cond.static ({ cls := "OneRing", name := "weddingInRow", desc := "(III)I" } : Jvm.MethodName)) ∈ TT := tt_2 171 rfl rfl
theorem tw_1_172 : (Jvm.Cond.code ({ cls := "OneRing", name := "weddingInRow", desc := "(III)I" } : Jvm.MethodName) prog_1_method_35_code (4 : Nat) (Option.some Jvm.ClassFile.FieldType.int)) ∈ TT := tt_2 172 rfl rfl
theorem tw_1_173 : (Jvm.Cond.methodLink "OneRingLaw" (81 : Nat) ({ cls := "OneRing", name := "later", desc := "(I)I" } : Jvm.MethodName)) ∈ TT := tt_2 173 rfl rfl
theorem tw_1_174 : (Jvm.Cond.instanceMethod ({ cls := "OneRing", name := "later", desc := "(I)I" } : Jvm.MethodName)) ∈ TT := tt_2 174 rfl rfl
theorem tw_1_175 : (Jvm.Cond.selects "OneRing" ({ cls := "OneRing", name := "later", desc := "(I)I" } : Jvm.MethodName) ({ cls := "OneRing", name := "later", desc := "(I)I" } : Jvm.MethodName)) ∈ TT := tt_2 175 rfl rfl
theorem tw_1_176 : (Jvm.Cond.code ({ cls := "OneRing", name := "later", desc := "(I)I" } : Jvm.MethodName) prog_1_method_18_code (4 : Nat) (Option.some Jvm.ClassFile.FieldType.int)) ∈ TT := tt_2 176 rfl rfl
theorem tw_1_177 : (Jvm.Cond.methodLink "OneRing" (176 : Nat) ({ cls := "OneRing$Parish", name := "begin", desc := "(III)I" } : Jvm.MethodName)) ∈ TT := tt_2 177 rfl rfl
theorem tw_1_178 : (Jvm.Cond.methodLink "OneRingLaw" (85 : Nat) ({ cls := "OneRing", name := "see", desc := "(II)I" } : Jvm.MethodName)) ∈ TT := tt_2 178 rfl rfl
theorem tw_1_179 : (Jvm.Cond.instanceMethod ({ cls := "OneRing", name := "see", desc := "(II)I" } : Jvm.MethodName)) ∈ TT := tt_2 179 rfl rfl
theorem tw_1_180 : (Jvm.Cond.selects "OneRing" ({ cls := "OneRing", name := "see", desc := "(II)I" } : Jvm.MethodName) ({ cls := "OneRing", name := "see", desc := "(II)I" } : Jvm.MethodName)) ∈ TT := tt_2 180 rfl rfl
theorem tw_1_181 : (Jvm.Cond.code ({ cls := "OneRing", name := "see", desc := "(II)I" } : Jvm.MethodName) prog_1_method_19_code (3 : Nat) (Option.some Jvm.ClassFile.FieldType.int)) ∈ TT := tt_2 181 rfl rfl
theorem tw_1_182 : (Jvm.Cond.methodLink "OneRingLaw" (89 : Nat) ({ cls := "OneRing", name := "unsee", desc := "()I" } : Jvm.MethodName)) ∈ TT := tt_2 182 rfl rfl
theorem tw_1_183 : (Jvm.Cond.instanceMethod ({ cls := "OneRing", name := "unsee", desc := "()I" } : Jvm.MethodName)) ∈ TT := tt_2 183 rfl rfl
theorem tw_1_184 : (Jvm.Cond.selects "OneRing" ({ cls := "OneRing", name := "unsee", desc := "()I" } : Jvm.MethodName) ({ cls := "OneRing", name := "unsee", desc := "()I" } : Jvm.MethodName)) ∈ TT := tt_2 184 rfl rfl
theorem tw_1_185 : (Jvm.Cond.code ({ cls := "OneRing", name := "unsee", desc := "()I" } : Jvm.MethodName) prog_1_method_20_code (2 : Nat) (Option.some Jvm.ClassFile.FieldType.int)) ∈ TT := tt_2 185 rfl rfl
theorem tw_1_186 : (Jvm.Cond.methodLink "OneRingLaw" (93 : Nat) ({ cls := "OneRing", name := "rows", desc := "(II)I" } : Jvm.MethodName)) ∈ TT := tt_2 186 rfl rfl
theorem tw_1_187 : (Jvm.Cond.instanceMethod ({ cls := "OneRing", name := "rows", desc := "(II)I" } : Jvm.MethodName)) ∈ TT := tt_2 187 rfl rfl
theorem tw_1_188 : (Jvm.Cond.selects "OneRing" ({ cls := "OneRing", name := "rows", desc := "(II)I" } : Jvm.MethodName) ({ cls := "OneRing", name := "rows", desc := "(II)I" } : Jvm.MethodName)) ∈ TT := tt_2 188 rfl rfl
theorem tw_1_189 : (Jvm.Cond.code ({ cls := "OneRing", name := "rows", desc := "(II)I" } : Jvm.MethodName) prog_1_method_21_code (4 : Nat) (Option.some Jvm.ClassFile.FieldType.int)) ∈ TT := tt_2 189 rfl rfl
theorem tw_1_190 : (Jvm.Cond.methodLink "OneRing" (179 : Nat) ({ cls := "OneRing$Search", name := "reset", desc := "(LOneRing$Stand;I)V" } : Jvm.MethodName)) ∈ TT := tt_2 190 rfl rfl
theorem tw_1_191 : (Jvm.Cond.methodLink "OneRing" (183 : Nat) ({ cls := "OneRing$Search", name := "allowOnly", desc := "(II)V" } : Jvm.MethodName)) ∈ TT := tt_2 191 rfl rfl
theorem tw_1_192 : (Jvm.Cond.instanceMethod ({ cls := "OneRing$Search", name := "allowOnly", desc := "(II)V" } : Jvm.MethodName)) ∈ TT := tt_2 192 rfl rfl
theorem tw_1_193 : (Jvm.Cond.selects "OneRing$Search" ({ cls := "OneRing$Search", name := "allowOnly", desc := "(II)V" } : Jvm.MethodName) ({ cls := "OneRing$Search", name := "allowOnly", desc := "(II)V" } : Jvm.MethodName)) ∈ TT := tt_2 193 rfl rfl
theorem tw_1_194 : (Jvm.Cond.code ({ cls := "OneRing$Search", name := "allowOnly", desc := "(II)V" } : Jvm.MethodName) prog_4_method_4_code (3 : Nat) (Option.none : Option Jvm.ClassFile.FieldType)) ∈ TT := tt_2 194 rfl rfl
theorem tw_1_195 : (Jvm.Cond.methodLink "OneRing" (187 : Nat) ({ cls := "OneRing$Search", name := "run", desc := "(LOneRing$Parish;)V" } : Jvm.MethodName)) ∈ TT := tt_2 195 rfl rfl
theorem tw_1_196 : (Jvm.Cond.methodLink "OneRing" (197 : Nat) ({ cls := "OneRing$Parish", name := "everyone", desc := "()I" } : Jvm.MethodName)) ∈ TT := tt_2 196 rfl rfl
theorem tw_1_197 : (Jvm.Cond.instanceMethod ({ cls := "OneRing$Parish", name := "everyone", desc := "()I" } : Jvm.MethodName)) ∈ TT := tt_2 197 rfl rfl
theorem tw_1_198 : (Jvm.Cond.selects "OneRing$Parish" ({ cls := "OneRing$Parish", name := "everyone", desc := "()I" } : Jvm.MethodName) ({ cls := "OneRing$Parish", name := "everyone", desc := "()I" } : Jvm.MethodName)) ∈ TT := tt_2 198 rfl rfl
theorem tw_1_199 : (Jvm.Cond.code ({ cls := "OneRing$Parish", name := "everyone", desc := "()I" } : Jvm.MethodName) prog_3_method_4_code (1 : Nat) (Option.some Jvm.ClassFile.FieldType.int)) ∈ TT := tt_2 199 rfl rfl
theorem tw_1_200 : (Jvm.Cond.methodLink "OneRingLaw" (97 : Nat) ({ cls := "OneRing", name := "share", desc := "(IZ)I" } : Jvm.MethodName)) ∈ TT := tt_2 200 rfl rfl
theorem tw_1_201 : (Jvm.Cond.instanceMethod ({ cls := "OneRing", name := "share", desc := "(IZ)I" } : Jvm.MethodName)) ∈ TT := tt_2 201 rfl rfl
theorem tw_1_202 : (Jvm.Cond.selects "OneRing" ({ cls := "OneRing", name := "share", desc := "(IZ)I" } : Jvm.MethodName) ({ cls := "OneRing", name := "share", desc := "(IZ)I" } : Jvm.MethodName)) ∈ TT := tt_2 202 rfl rfl
theorem tw_1_203 : (Jvm.Cond.code ({ cls := "OneRing", name := "share", desc := "(IZ)I" } : Jvm.MethodName) prog_1_method_22_code (10 : Nat) (Option.some Jvm.ClassFile.FieldType.int)) ∈ TT := tt_2 203 rfl rfl
theorem tw_1_204 : (Jvm.Cond.methodLink "OneRing" (203 : Nat) ({ cls := "OneRing", name := "fraction", desc := "(IIZ)I" } : Jvm.MethodName)) ∈ TT := tt_2 204 rfl rfl
theorem tw_1_205 : (Jvm.Cond.static ({ cls := "OneRing", name := "fraction", desc := "(IIZ)I" } : Jvm.MethodName)) ∈ TT := tt_2 205 rfl rfl
theorem tw_1_206 : (Jvm.Cond.code ({ cls := "OneRing", name := "fraction", desc := "(IIZ)I" } : Jvm.MethodName) prog_1_method_38_code (4 : Nat) (Option.some Jvm.ClassFile.FieldType.int)) ∈ TT := tt_2 206 rfl rfl
theorem tw_1_207 : (Jvm.Cond.methodLink "OneRing" (253 : Nat) ({ cls := "OneRing", name := "greatestDivisor", desc := "(II)I" } : Jvm.MethodName)) ∈ TT := tt_2 207 rfl rfl
theorem tw_1_208 : (Jvm.Cond.static ({ cls := "OneRing", name := "greatestDivisor", desc := "(II)I" } : Jvm.MethodName)) ∈ TT := tt_2 208 rfl rfl
theorem tw_1_209 : (Jvm.Cond.code ({ cls := "OneRing", name := "greatestDivisor", desc := "(II)I" } : Jvm.MethodName) prog_1_method_39_code (6 : Nat) (Option.some Jvm.ClassFile.FieldType.int)) ∈ TT := tt_2 209 rfl rfl
theorem tw_1_210 : (Jvm.Cond.methodLink "OneRing" (207 : Nat) ({ cls := "OneRing", name := "fillMostOf", desc := "()V" } : Jvm.MethodName)) ∈ TT := tt_2 210 rfl rfl
theorem tw_1_212 : (Jvm.Cond.instanceMethod ({ cls := "OneRing", name := "fillMostOf", desc := "()V" } : Jvm.MethodName)) ∈ TT := tt_2 212 rfl rfl
theorem tw_1_213 : (Jvm.Cond.code ({ cls := "OneRing", name := "fillMostOf", desc := "()V" } : Jvm.MethodName) prog_1_method_40_code (4 : Nat) (Option.none : Option Jvm.ClassFile.FieldType)) ∈ TT := tt_2 213 rfl rfl
theorem tw_1_214 : (Jvm.Cond.methodLink "OneRing" (213 : Nat) ({ cls := "java/lang/Integer", name := "bitCount", desc := "(I)I" } : Jvm.MethodName)) ∈ TT := tt_2 214 rfl rfl
theorem tw_1_215 : (Jvm.Cond.static ({ cls := "java/lang/Integer", name := "bitCount", desc := "(I)I" } : Jvm.MethodName)) ∈ TT := tt_2 215 rfl rfl
theorem tw_1_216 : (Jvm.Cond.code ({ cls := "java/lang/Integer", name := "bitCount", desc := "(I)I" } : Jvm.MethodName) prog_9_method_49_code (1 : Nat) (Option.some Jvm.ClassFile.FieldType.int)) ∈ TT := tt_2 216 rfl rfl
theorem tw_1_217 : (Jvm.Cond.constant "java/lang/Integer" (265 : Nat) (1431655765 : Int32)) ∈ TT := tt_2 217 rfl rfl
theorem tw_1_218 : (Jvm.Cond.constant "java/lang/Integer" (266 : Nat) (858993459 : Int32)) ∈ TT := tt_2 218 rfl rfl
theorem tw_1_219 : (Jvm.Cond.constant "java/lang/Integer" (267 : Nat) (252645135 : Int32)) ∈ TT := tt_2 219 rfl rfl
theorem tw_1_220 : (Jvm.Cond.methodLink "OneRing" (259 : Nat) ({ cls := "java/lang/Math", name := "max", desc := "(II)I" } : Jvm.MethodName)) ∈ TT := tt_2 220 rfl rfl
theorem tw_1_221 : (Jvm.Cond.fieldLink "OneRing" (219 : Nat) "OneRing" "FACTORIALS" "[I") ∈ TT := tt_2 221 rfl rfl
theorem tw_1_223 : (Jvm.Cond.methodLink "OneRingLaw" (102 : Nat) ({ cls := "OneRing", name := "rests", desc := "(III)I" } : Jvm.MethodName)) ∈ TT := tt_2 223 rfl rfl
theorem tw_1_224 : (Jvm.Cond.instanceMethod ({ cls := "OneRing", name := "rests", desc := "(III)I" } : Jvm.MethodName)) ∈ TT := tt_2 224 rfl rfl
theorem tw_1_225 : (Jvm.Cond.selects "OneRing" ({ cls := "OneRing", name := "rests", desc := "(III)I" } : Jvm.MethodName) ({ cls := "OneRing", name := "rests", desc := "(III)I" } : Jvm.MethodName)) ∈ TT := tt_2 225 rfl rfl
theorem tw_1_226 : (Jvm.Cond.code ({ cls := "OneRing", name := "rests", desc := "(III)I" } : Jvm.MethodName) prog_1_method_23_code (7 : Nat) (Option.some Jvm.ClassFile.FieldType.int)) ∈ TT := tt_2 226 rfl rfl
theorem tw_1_227 : (Jvm.Cond.methodLink "OneRing" (222 : Nat) ({ cls := "OneRing", name := "isAtRest", desc := "(IIII)Z" } : Jvm.MethodName)) ∈ TT := tt_2 227 rfl rfl
theorem tw_1_229 : (Jvm.Cond.instanceMethod ({ cls := "OneRing", name := "isAtRest", desc := "(IIII)Z" } : Jvm.MethodName)) ∈ TT := tt_2 229 rfl rfl
theorem tw_1_230 : (Jvm.Cond.code ({ cls := "OneRing", name := "isAtRest", desc := "(IIII)Z" } : Jvm.MethodName) prog_1_method_41_code (5 : Nat) (Option.some Jvm.ClassFile.FieldType.boolean)) ∈ TT := tt_2 230 rfl rfl
theorem tw_1_231 : (Jvm.Cond.methodLink "OneRing" (264 : Nat) ({ cls := "OneRing", name := "gain", desc := "(IIII)I" } : Jvm.MethodName)) ∈ TT := tt_2 231 rfl rfl
theorem tw_1_233 : (Jvm.Cond.instanceMethod ({ cls := "OneRing", name := "gain", desc := "(IIII)I" } : Jvm.MethodName)) ∈ TT := tt_2 233 rfl rfl
theorem tw_1_234 : (Jvm.Cond.code ({ cls := "OneRing", name := "gain", desc := "(IIII)I" } : Jvm.MethodName) prog_1_method_42_code (8 : Nat) (Option.some Jvm.ClassFile.FieldType.int)) ∈ TT := tt_2 234 rfl rfl
theorem tw_1_235 : (Jvm.Cond.methodLink "OneRingLaw" (107 : Nat) ({ cls := "OneRing", name := "falls", desc := "(IIIZ)I" } : Jvm.MethodName)) ∈ TT := tt_2 235 rfl rfl
theorem tw_1_236 : (Jvm.Cond.instanceMethod ({ cls := "OneRing", name := "falls", desc := "(IIIZ)I" } : Jvm.MethodName)) ∈ TT := tt_2 236 rfl rfl
theorem tw_1_237 : (Jvm.Cond.selects "OneRing" ({ cls := "OneRing", name := "falls", desc := "(IIIZ)I" } : Jvm.MethodName) ({ cls := "OneRing", name := "falls", desc := "(IIIZ)I" } : Jvm.MethodName)) ∈ TT := tt_2 237 rfl rfl
theorem tw_1_238 : (Jvm.Cond.code ({ cls := "OneRing", name := "falls", desc := "(IIIZ)I" } : Jvm.MethodName) prog_1_method_24_code (8 : Nat) (Option.some Jvm.ClassFile.FieldType.int)) ∈ TT := tt_2 238 rfl rfl
theorem tw_1_239 : (Jvm.Cond.methodLink "OneRing" (226 : Nat) ({ cls := "OneRing", name := "isRowOfOpenWeddings", desc := "(II)Z" } : Jvm.MethodName)) ∈ TT := tt_2 239 rfl rfl
theorem tw_2_1 : (Jvm.Cond.instanceMethod ({ cls := "OneRing", name := "isRowOfOpenWeddings", desc := "(II)Z" } : Jvm.MethodName)) ∈ TT := tt_3 1 rfl rfl
theorem tw_2_2 : (Jvm.Cond.code ({ cls := "OneRing", name := "isRowOfOpenWeddings", desc := "(II)Z" } : Jvm.MethodName) prog_1_method_43_code (6 : Nat) (Option.some Jvm.ClassFile.FieldType.boolean)) ∈ TT := tt_3 2 rfl rfl
theorem tw_2_3 : (Jvm.Cond.methodLink "OneRing" (229 : Nat) ({ cls := "OneRing", name := "weightOfFalls", desc := "(IIII)I" } : Jvm.MethodName)) ∈ TT := tt_3 3 rfl rfl
theorem tw_2_5 : (Jvm.Cond.instanceMethod ({ cls := "OneRing", name := "weightOfFalls", desc := "(IIII)I" } : Jvm.MethodName)) ∈ TT := tt_3 5 rfl rfl
theorem tw_2_6 : (Jvm.Cond.code ({ cls := "OneRing", name := "weightOfFalls", desc := "(IIII)I" } : Jvm.MethodName) prog_1_method_44_code (10 : Nat) (Option.some Jvm.ClassFile.FieldType.int)) ∈ TT := tt_3 6 rfl rfl
theorem tw_2_7 : (Jvm.Cond.methodLink "OneRing" (233 : Nat) ({ cls := "OneRing", name := "holdsWithFalls", desc := "(III)Z" } : Jvm.MethodName)) ∈ TT := tt_3 7 rfl rfl
theorem tw_2_9 : (Jvm.Cond.instanceMethod ({ cls := "OneRing", name := "holdsWithFalls", desc := "(III)Z" } : Jvm.MethodName)) ∈ TT := tt_3 9 rfl rfl
theorem tw_2_10 : (Jvm.Cond.code ({ cls := "OneRing", name := "holdsWithFalls", desc := "(III)Z" } : Jvm.MethodName) prog_1_method_45_code (5 : Nat) (Option.some Jvm.ClassFile.FieldType.boolean)) ∈ TT := tt_3 10 rfl rfl
theorem tw_2_11 : (Jvm.Cond.methodLink "OneRingLaw" (114 : Nat) ({ cls := "OneRing", name := "seed", desc := "(J)J" } : Jvm.MethodName)) ∈ TT := tt_3 11 rfl rfl
theorem tw_2_12 : (Jvm.Cond.instanceMethod ({ cls := "OneRing", name := "seed", desc := "(J)J" } : Jvm.MethodName)) ∈ TT := tt_3 12 rfl rfl
theorem tw_2_13 : (Jvm.Cond.selects "OneRing" ({ cls := "OneRing", name := "seed", desc := "(J)J" } : Jvm.MethodName) ({ cls := "OneRing", name := "seed", desc := "(J)J" } : Jvm.MethodName)) ∈ TT := tt_3 13 rfl rfl
theorem tw_2_14 : (Jvm.Cond.code ({ cls := "OneRing", name := "seed", desc := "(J)J" } : Jvm.MethodName) prog_1_method_25_code (5 : Nat) (Option.some Jvm.ClassFile.FieldType.long)) ∈ TT := tt_3 14 rfl rfl
theorem tw_2_15 : (Jvm.Cond.methodLink "OneRingLaw" (119 : Nat) ({ cls := "OneRing", name := "summers", desc := "(I)I" } : Jvm.MethodName)) ∈ TT := tt_3 15 rfl rfl
theorem tw_2_16 : (Jvm.Cond.instanceMethod ({ cls := "OneRing", name := "summers", desc := "(I)I" } : Jvm.MethodName)) ∈ TT := tt_3 16 rfl rfl
theorem tw_2_17 : (Jvm.Cond.selects "OneRing" ({ cls := "OneRing", name := "summers", desc := "(I)I" } : Jvm.MethodName) ({ cls := "OneRing", name := "summers", desc := "(I)I" } : Jvm.MethodName)) ∈ TT := tt_3 17 rfl rfl
theorem tw_2_18 : (Jvm.Cond.code ({ cls := "OneRing", name := "summers", desc := "(I)I" } : Jvm.MethodName) prog_1_method_26_code (5 : Nat) (Option.some Jvm.ClassFile.FieldType.int)) ∈ TT := tt_3 18 rfl rfl
theorem tw_2_19 : (Jvm.Cond.constantLong "OneRing" (240 : Nat) (6364136223846793005 : Int64)) ∈ TT := tt_3 19 rfl rfl
theorem tw_2_20 : (Jvm.Cond.constantLong "OneRing" (242 : Nat) (1442695040888963407 : Int64)) ∈ TT := tt_3 20 rfl rfl
theorem tw_2_21 : (Jvm.Cond.methodLink "OneRingLaw" (123 : Nat) ({ cls := "OneRing", name := "keep", desc := "(I)I" } : Jvm.MethodName)) ∈ TT := tt_3 21 rfl rfl
theorem tw_2_22 : (Jvm.Cond.instanceMethod ({ cls := "OneRing", name := "keep", desc := "(I)I" } : Jvm.MethodName)) ∈ TT := tt_3 22 rfl rfl
theorem tw_2_23 : (Jvm.Cond.selects "OneRing" ({ cls := "OneRing", name := "keep", desc := "(I)I" } : Jvm.MethodName) ({ cls := "OneRing", name := "keep", desc := "(I)I" } : Jvm.MethodName)) ∈ TT := tt_3 23 rfl rfl
theorem tw_2_24 : (Jvm.Cond.code ({ cls := "OneRing", name := "keep", desc := "(I)I" } : Jvm.MethodName) prog_1_method_27_code (3 : Nat) (Option.some Jvm.ClassFile.FieldType.int)) ∈ TT := tt_3 24 rfl rfl
theorem tw_2_25 : (Jvm.Cond.methodLink "OneRing" (244 : Nat) ({ cls := "OneRing", name := "isSlot", desc := "(I)Z" } : Jvm.MethodName)) ∈ TT := tt_3 25 rfl rfl
theorem tw_2_27 : (Jvm.Cond.instanceMethod ({ cls := "OneRing", name := "isSlot", desc := "(I)Z" } : Jvm.MethodName)) ∈ TT := tt_3 27 rfl rfl
theorem tw_2_28 : (Jvm.Cond.code ({ cls := "OneRing", name := "isSlot", desc := "(I)Z" } : Jvm.MethodName) prog_1_method_32_code (2 : Nat) (Option.some Jvm.ClassFile.FieldType.boolean)) ∈ TT := tt_3 28 rfl rfl
theorem tw_2_29 : (Jvm.Cond.methodLink "OneRingLaw" (127 : Nat) ({ cls := "OneRing", name := "again", desc := "(I)I" } : Jvm.MethodName)) ∈ TT := tt_3 29 rfl rfl
theorem tw_2_30 : (Jvm.Cond.instanceMethod ({ cls := "OneRing", name := "again", desc := "(I)I" } : Jvm.MethodName)) ∈ TT := tt_3 30 rfl rfl
theorem tw_2_31 : (Jvm.Cond.selects "OneRing" ({ cls := "OneRing", name := "again", desc := "(I)I" } : Jvm.MethodName) ({ cls := "OneRing", name := "again", desc := "(I)I" } : Jvm.MethodName)) ∈ TT := tt_3 31 rfl rfl
theorem tw_2_32 : (Jvm.Cond.code ({ cls := "OneRing", name := "again", desc := "(I)I" } : Jvm.MethodName) prog_1_method_28_code (2 : Nat) (Option.some Jvm.ClassFile.FieldType.int)) ∈ TT := tt_3 32 rfl rfl
theorem tw_2_33 : (Jvm.Cond.methodLink "OneRingLaw" (131 : Nat) ({ cls := "OneRing", name := "count", desc := "(I)I" } : Jvm.MethodName)) ∈ TT := tt_3 33 rfl rfl
theorem tw_2_34 : (Jvm.Cond.instanceMethod ({ cls := "OneRing", name := "count", desc := "(I)I" } : Jvm.MethodName)) ∈ TT := tt_3 34 rfl rfl
theorem tw_2_35 : (Jvm.Cond.selects "OneRing" ({ cls := "OneRing", name := "count", desc := "(I)I" } : Jvm.MethodName) ({ cls := "OneRing", name := "count", desc := "(I)I" } : Jvm.MethodName)) ∈ TT := tt_3 35 rfl rfl
theorem tw_2_36 : (Jvm.Cond.code ({ cls := "OneRing", name := "count", desc := "(I)I" } : Jvm.MethodName) prog_1_method_29_code (2 : Nat) (Option.some Jvm.ClassFile.FieldType.int)) ∈ TT := tt_3 36 rfl rfl
theorem tw_2_37 : (Jvm.Cond.methodLink "OneRing" (250 : Nat) ({ cls := "OneRing", name := "holdingNext", desc := "()I" } : Jvm.MethodName)) ∈ TT := tt_3 37 rfl rfl
theorem tw_2_39 : (Jvm.Cond.instanceMethod ({ cls := "OneRing", name := "holdingNext", desc := "()I" } : Jvm.MethodName)) ∈ TT := tt_3 39 rfl rfl
theorem tw_2_40 : (Jvm.Cond.code ({ cls := "OneRing", name := "holdingNext", desc := "()I" } : Jvm.MethodName) prog_1_method_36_code (3 : Nat) (Option.some Jvm.ClassFile.FieldType.int)) ∈ TT := tt_3 40 rfl rfl
theorem tw_2_41 : (Jvm.Cond.classLink "OneRingLaw" (10 : Nat) "OneRingModel") ∈ TT := tt_3 41 rfl rfl
theorem tw_2_42 : (Jvm.Cond.instantiable "OneRingModel" (21 : Nat)) ∈ TT := tt_3 42 rfl rfl
theorem tw_2_43 : (Jvm.Cond.methodLink "OneRingLaw" (12 : Nat) ({ cls := "OneRingModel", name := "<init>", desc := "()V" } : Jvm.MethodName)) ∈ TT := tt_3 43 rfl rfl
theorem tw_2_44 : (Jvm.Cond.instanceMethod ({ cls := "OneRingModel", name := "<init>", desc := "()V" } : Jvm.MethodName)) ∈ TT := tt_3 44 rfl rfl
theorem tw_2_45 : (Jvm.Cond.code ({ cls := "OneRingModel", name := "<init>", desc := "()V" } : Jvm.MethodName) prog_8_method_1_code (2 : Nat) (Option.none : Option Jvm.ClassFile.FieldType)) ∈ TT := tt_3 45 rfl rfl
theorem tw_2_46 : (Jvm.Cond.methodLink "OneRingModel" (1 : Nat) ({ cls := "java/lang/Object", name := "<init>", desc := "()V" } : Jvm.MethodName)) ∈ TT := tt_3 46 rfl rfl
theorem tw_2_47 : (Jvm.Cond.fieldLink "OneRingModel" (80 : Nat) "OneRingModel" "weddings" "I") ∈ TT := tt_3 47 rfl rfl
theorem tw_2_48 : (Jvm.Cond.fieldLink "OneRingModel" (53 : Nat) "OneRingModel" "sunset" "I") ∈ TT := tt_3 48 rfl rfl
theorem tw_2_49 : (Jvm.Cond.fieldLink "OneRingModel" (7 : Nat) "OneRingModel" "church" "[I") ∈ TT := tt_3 49 rfl rfl
theorem tw_2_50 : (Jvm.Cond.fieldLink "OneRingModel" (13 : Nat) "OneRingModel" "from" "[I") ∈ TT := tt_3 50 rfl rfl
theorem tw_2_51 : (Jvm.Cond.fieldLink "OneRingModel" (16 : Nat) "OneRingModel" "upTo" "[I") ∈ TT := tt_3 51 rfl rfl
theorem tw_2_52 : (Jvm.Cond.fieldLink "OneRingModel" (19 : Nat) "OneRingModel" "hours" "[I") ∈ TT := tt_3 52 rfl rfl
theorem tw_2_53 : (Jvm.Cond.fieldLink "OneRingModel" (22 : Nat) "OneRingModel" "kind" "[I") ∈ TT := tt_3 53 rfl rfl
theorem tw_2_54 : (Jvm.Cond.fieldLink "OneRingModel" (25 : Nat) "OneRingModel" "now" "[I") ∈ TT := tt_3 54 rfl rfl
theorem tw_2_55 : (Jvm.Cond.fieldLink "OneRingModel" (28 : Nat) "OneRingModel" "text" "[I") ∈ TT := tt_3 55 rfl rfl
theorem tw_2_56 : (Jvm.Cond.fieldLink "OneRingModel" (63 : Nat) "OneRingModel" "length" "I") ∈ TT := tt_3 56 rfl rfl
theorem tw_2_57 : (Jvm.Cond.fieldLink "OneRingModel" (83 : Nat) "OneRingModel" "acts" "I") ∈ TT := tt_3 57 rfl rfl
theorem tw_2_58 : (Jvm.Cond.fieldLink "OneRingModel" (117 : Nat) "OneRingModel" "next" "I") ∈ TT := tt_3 58 rfl rfl
theorem tw_2_59 : (Jvm.Cond.fieldLink "OneRingModel" (31 : Nat) "OneRingModel" "row" "[I") ∈ TT := tt_3 59 rfl rfl
theorem tw_2_60 : (Jvm.Cond.fieldLink "OneRingModel" (34 : Nat) "OneRingModel" "earliest" "[I") ∈ TT := tt_3 60 rfl rfl
theorem tw_2_61 : (Jvm.Cond.fieldLink "OneRingModel" (160 : Nat) "OneRingModel" "seen" "I") ∈ TT := tt_3 61 rfl rfl
theorem tw_2_62 : (Jvm.Cond.fieldLink "OneRingModel" (37 : Nat) "OneRingModel" "seenBehind" "[I") ∈ TT := tt_3 62 rfl rfl
theorem tw_2_63 : (Jvm.Cond.fieldLink "OneRingModel" (40 : Nat) "OneRingModel" "seenIn" "[I") ∈ TT := tt_3 63 rfl rfl
theorem tw_2_64 : (Jvm.Cond.fieldLink "OneRingModel" (43 : Nat) "OneRingModel" "mosts" "[I") ∈ TT := tt_3 64 rfl rfl
theorem tw_2_65 : (Jvm.Cond.fieldLink "OneRingModel" (203 : Nat) "OneRingModel" "seed" "J") ∈ TT := tt_3 65 rfl rfl
theorem tw_2_66 : (Jvm.Cond.fieldLink "OneRingModel" (46 : Nat) "OneRingModel" "isKept" "[Z") ∈ TT := tt_3 66 rfl rfl
theorem tw_2_67 : (Jvm.Cond.fieldLink "OneRingModel" (50 : Nat) "OneRingModel" "kept" "[I") ∈ TT := tt_3 67 rfl rfl
theorem tw_2_68 : (Jvm.Cond.lays "OneRingModel" "OneRingModel" "weddings" "I") ∈ TT := tt_3 68 rfl rfl
theorem tw_2_70 : (Jvm.Cond.lays "OneRingModel" "OneRingModel" "sunset" "I") ∈ TT := tt_3 70 rfl rfl
theorem tw_2_72 : (Jvm.Cond.laysFinal "OneRingModel" "OneRingModel" "church" "[I") ∈ TT := tt_3 72 rfl rfl
theorem tw_2_74 : (Jvm.Cond.laysFinal "OneRingModel" "OneRingModel" "from" "[I") ∈ TT := tt_3 74 rfl rfl
theorem tw_2_76 : (Jvm.Cond.laysFinal "OneRingModel" "OneRingModel" "upTo" "[I") ∈ TT := tt_3 76 rfl rfl
theorem tw_2_78 : (Jvm.Cond.laysFinal "OneRingModel" "OneRingModel" "hours" "[I") ∈ TT := tt_3 78 rfl rfl
theorem tw_2_80 : (Jvm.Cond.laysFinal "OneRingModel" "OneRingModel" "kind" "[I") ∈ TT := tt_3 80 rfl rfl
theorem tw_2_82 : (Jvm.Cond.laysFinal "OneRingModel" "OneRingModel" "now" "[I") ∈ TT := tt_3 82 rfl rfl
theorem tw_2_84 : (Jvm.Cond.laysFinal "OneRingModel" "OneRingModel" "text" "[I") ∈ TT := tt_3 84 rfl rfl
theorem tw_2_86 : (Jvm.Cond.lays "OneRingModel" "OneRingModel" "length" "I") ∈ TT := tt_3 86 rfl rfl
theorem tw_2_88 : (Jvm.Cond.lays "OneRingModel" "OneRingModel" "acts" "I") ∈ TT := tt_3 88 rfl rfl
theorem tw_2_90 : (Jvm.Cond.lays "OneRingModel" "OneRingModel" "next" "I") ∈ TT := tt_3 90 rfl rfl
theorem tw_2_92 : (Jvm.Cond.laysFinal "OneRingModel" "OneRingModel" "row" "[I") ∈ TT := tt_3 92 rfl rfl
theorem tw_2_94 : (Jvm.Cond.laysFinal "OneRingModel" "OneRingModel" "earliest" "[I") ∈ TT := tt_3 94 rfl rfl
theorem tw_2_96 : (Jvm.Cond.lays "OneRingModel" "OneRingModel" "seen" "I") ∈ TT := tt_3 96 rfl rfl
theorem tw_2_98 : (Jvm.Cond.laysFinal "OneRingModel" "OneRingModel" "seenBehind" "[I") ∈ TT := tt_3 98 rfl rfl
theorem tw_2_100 : (Jvm.Cond.laysFinal "OneRingModel" "OneRingModel" "seenIn" "[I") ∈ TT := tt_3 100 rfl rfl
theorem tw_2_102 : (Jvm.Cond.laysFinal "OneRingModel" "OneRingModel" "mosts" "[I") ∈ TT := tt_3 102 rfl rfl
theorem tw_2_104 : (Jvm.Cond.lays "OneRingModel" "OneRingModel" "seed" "J") ∈ TT := tt_3 104 rfl rfl
theorem tw_2_106 : (Jvm.Cond.laysFinal "OneRingModel" "OneRingModel" "isKept" "[Z") ∈ TT := tt_3 106 rfl rfl
theorem tw_2_108 : (Jvm.Cond.laysFinal "OneRingModel" "OneRingModel" "kept" "[I") ∈ TT := tt_3 108 rfl rfl
theorem tw_2_111 : (Jvm.Cond.methodLink "OneRingLaw" (17 : Nat) ({ cls := "OneRingModel", name := "write", desc := "(I)I" } : Jvm.MethodName)) ∈ TT := tt_3 111 rfl rfl
theorem tw_2_112 : (Jvm.Cond.instanceMethod ({ cls := "OneRingModel", name := "write", desc := "(I)I" } : Jvm.MethodName)) ∈ TT := tt_3 112 rfl rfl
theorem tw_2_113 : (Jvm.Cond.selects "OneRingModel" ({ cls := "OneRingModel", name := "write", desc := "(I)I" } : Jvm.MethodName) ({ cls := "OneRingModel", name := "write", desc := "(I)I" } : Jvm.MethodName)) ∈ TT := tt_3 113 rfl rfl
theorem tw_2_114 : (Jvm.Cond.code ({ cls := "OneRingModel", name := "write", desc := "(I)I" } : Jvm.MethodName) prog_8_method_6_code (2 : Nat) (Option.some Jvm.ClassFile.FieldType.int)) ∈ TT := tt_3 114 rfl rfl
theorem tw_2_115 : (Jvm.Cond.constantLong "OneRingModel" (57 : Nat) (255 : Int64)) ∈ TT := tt_3 115 rfl rfl
theorem tw_2_116 : (Jvm.Cond.methodLink "OneRingModel" (59 : Nat) ({ cls := "OneRingModel", name := "in", desc := "(JJJ)Z" } : Jvm.MethodName)) ∈ TT := tt_3 116 rfl rfl
theorem tw_2_117 : (Jvm.Cond.static ({ cls := "OneRingModel", name := "in", desc := "(JJJ)Z" } : Jvm.MethodName)) ∈ TT := tt_3 117 rfl rfl
theorem tw_2_118 : (Jvm.Cond.code ({ cls := "OneRingModel", name := "in", desc := "(JJJ)Z" } : Jvm.MethodName) prog_8_method_3_code (6 : Nat) (Option.some Jvm.ClassFile.FieldType.boolean)) ∈ TT := tt_3 118 rfl rfl
theorem tw_2_119 : (Jvm.Cond.methodLink "OneRingLaw" (22 : Nat) ({ cls := "OneRingModel", name := "wipe", desc := "()I" } : Jvm.MethodName)) ∈ TT := tt_3 119 rfl rfl
theorem tw_2_120 : (Jvm.Cond.instanceMethod ({ cls := "OneRingModel", name := "wipe", desc := "()I" } : Jvm.MethodName)) ∈ TT := tt_3 120 rfl rfl
theorem tw_2_121 : (Jvm.Cond.selects "OneRingModel" ({ cls := "OneRingModel", name := "wipe", desc := "()I" } : Jvm.MethodName) ({ cls := "OneRingModel", name := "wipe", desc := "()I" } : Jvm.MethodName)) ∈ TT := tt_3 121 rfl rfl
theorem tw_2_122 : (Jvm.Cond.code ({ cls := "OneRingModel", name := "wipe", desc := "()I" } : Jvm.MethodName) prog_8_method_7_code (2 : Nat) (Option.some Jvm.ClassFile.FieldType.int)) ∈ TT := tt_3 122 rfl rfl
theorem tw_2_123 : (Jvm.Cond.methodLink "OneRingLaw" (26 : Nat) ({ cls := "OneRingModel", name := "fault", desc := "()I" } : Jvm.MethodName)) ∈ TT := tt_3 123 rfl rfl
theorem tw_2_124 : (Jvm.Cond.instanceMethod ({ cls := "OneRingModel", name := "fault", desc := "()I" } : Jvm.MethodName)) ∈ TT := tt_3 124 rfl rfl
theorem tw_2_125 : (Jvm.Cond.selects "OneRingModel" ({ cls := "OneRingModel", name := "fault", desc := "()I" } : Jvm.MethodName) ({ cls := "OneRingModel", name := "fault", desc := "()I" } : Jvm.MethodName)) ∈ TT := tt_3 125 rfl rfl
theorem tw_2_126 : (Jvm.Cond.code ({ cls := "OneRingModel", name := "fault", desc := "()I" } : Jvm.MethodName) prog_8_method_9_code (2 : Nat) (Option.some Jvm.ClassFile.FieldType.int)) ∈ TT := tt_3 126 rfl rfl
theorem tw_2_127 : (Jvm.Cond.methodLink "OneRingModel" (72 : Nat) ({ cls := "OneRingModel", name := "mayBe", desc := "(I)Z" } : Jvm.MethodName)) ∈ TT := tt_3 127 rfl rfl
theorem tw_2_129 : (Jvm.Cond.instanceMethod ({ cls := "OneRingModel", name := "mayBe", desc := "(I)Z" } : Jvm.MethodName)) ∈ TT := tt_3 129 rfl rfl
theorem tw_2_130 : (Jvm.Cond.code ({ cls := "OneRingModel", name := "mayBe", desc := "(I)Z" } : Jvm.MethodName) prog_8_method_8_code (3 : Nat) (Option.some Jvm.ClassFile.FieldType.boolean)) ∈ TT := tt_3 130 rfl rfl
theorem tw_2_131 : (Jvm.Cond.constantLong "OneRingModel" (66 : Nat) (9 : Int64)) ∈ TT := tt_3 131 rfl rfl
theorem tw_2_132 : (Jvm.Cond.constantLong "OneRingModel" (68 : Nat) (5 : Int64)) ∈ TT := tt_3 132 rfl rfl
theorem tw_2_133 : (Jvm.Cond.constantLong "OneRingModel" (70 : Nat) (3 : Int64)) ∈ TT := tt_3 133 rfl rfl
theorem tw_2_134 : (Jvm.Cond.methodLink "OneRingLaw" (30 : Nat) ({ cls := "OneRingModel", name := "parish", desc := "()I" } : Jvm.MethodName)) ∈ TT := tt_3 134 rfl rfl
theorem tw_2_135 : (Jvm.Cond.instanceMethod ({ cls := "OneRingModel", name := "parish", desc := "()I" } : Jvm.MethodName)) ∈ TT := tt_3 135 rfl rfl
theorem tw_2_136 : (Jvm.Cond.selects "OneRingModel" ({ cls := "OneRingModel", name := "parish", desc := "()I" } : Jvm.MethodName) ({ cls := "OneRingModel", name := "parish", desc := "()I" } : Jvm.MethodName)) ∈ TT := tt_3 136 rfl rfl
theorem tw_2_137 : (Jvm.Cond.code ({ cls := "OneRingModel", name := "parish", desc := "()I" } : Jvm.MethodName) prog_8_method_10_code (3 : Nat) (Option.some Jvm.ClassFile.FieldType.int)) ∈ TT := tt_3 137 rfl rfl
theorem tw_2_138 : (Jvm.Cond.methodLink "OneRingModel" (76 : Nat) ({ cls := "OneRingModel", name := "fault", desc := "()I" } : Jvm.MethodName)) ∈ TT := tt_3 138 rfl rfl
theorem tw_2_139 : (Jvm.Cond.methodLink "OneRingLaw" (35 : Nat) ({ cls := "OneRingModel", name := "wedding", desc := "(II)I" } : Jvm.MethodName)) ∈ TT := tt_3 139 rfl rfl
theorem tw_2_140 : (Jvm.Cond.instanceMethod ({ cls := "OneRingModel", name := "wedding", desc := "(II)I" } : Jvm.MethodName)) ∈ TT := tt_3 140 rfl rfl
theorem tw_2_141 : (Jvm.Cond.selects "OneRingModel" ({ cls := "OneRingModel", name := "wedding", desc := "(II)I" } : Jvm.MethodName) ({ cls := "OneRingModel", name := "wedding", desc := "(II)I" } : Jvm.MethodName)) ∈ TT := tt_3 141 rfl rfl
theorem tw_2_142 : (Jvm.Cond.code ({ cls := "OneRingModel", name := "wedding", desc := "(II)I" } : Jvm.MethodName) prog_8_method_20_code (3 : Nat) (Option.some Jvm.ClassFile.FieldType.int)) ∈ TT := tt_3 142 rfl rfl
theorem tw_2_143 : (Jvm.Cond.methodLink "OneRingModel" (109 : Nat) ({ cls := "OneRingModel", name := "isWedding", desc := "(I)Z" } : Jvm.MethodName)) ∈ TT := tt_3 143 rfl rfl
theorem tw_2_145 : (Jvm.Cond.instanceMethod ({ cls := "OneRingModel", name := "isWedding", desc := "(I)Z" } : Jvm.MethodName)) ∈ TT := tt_3 145 rfl rfl
theorem tw_2_146 : (Jvm.Cond.code ({ cls := "OneRingModel", name := "isWedding", desc := "(I)Z" } : Jvm.MethodName) prog_8_method_11_code (2 : Nat) (Option.some Jvm.ClassFile.FieldType.boolean)) ∈ TT := tt_3 146 rfl rfl
theorem tw_2_147 : (Jvm.Cond.methodLink "OneRingModel" (102 : Nat) ({ cls := "OneRingModel", name := "beginsNow", desc := "(II)I" } : Jvm.MethodName)) ∈ TT := tt_3 147 rfl rfl
theorem tw_2_149 : (Jvm.Cond.instanceMethod ({ cls := "OneRingModel", name := "beginsNow", desc := "(II)I" } : Jvm.MethodName)) ∈ TT := tt_3 149 rfl rfl
theorem tw_2_150 : (Jvm.Cond.code ({ cls := "OneRingModel", name := "beginsNow", desc := "(II)I" } : Jvm.MethodName) prog_8_method_18_code (4 : Nat) (Option.some Jvm.ClassFile.FieldType.int)) ∈ TT := tt_3 150 rfl rfl
theorem tw_2_151 : (Jvm.Cond.methodLink "OneRingModel" (94 : Nat) ({ cls := "OneRingModel", name := "has", desc := "(II)Z" } : Jvm.MethodName)) ∈ TT := tt_3 151 rfl rfl
theorem tw_2_152 : (Jvm.Cond.static ({ cls := "OneRingModel", name := "has", desc := "(II)Z" } : Jvm.MethodName)) ∈ TT := tt_3 152 rfl rfl
theorem tw_2_153 : (Jvm.Cond.code ({ cls := "OneRingModel", name := "has", desc := "(II)Z" } : Jvm.MethodName) prog_8_method_4_code (2 : Nat) (Option.some Jvm.ClassFile.FieldType.boolean)) ∈ TT := tt_3 153 rfl rfl
theorem tw_2_154 : (Jvm.Cond.methodLink "OneRingModel" (98 : Nat) ({ cls := "OneRingModel", name := "begins", desc := "(IIIII)I" } : Jvm.MethodName)) ∈ TT := tt_3 154 rfl rfl
theorem tw_2_156 : (Jvm.Cond.instanceMethod ({ cls := "OneRingModel", name := "begins", desc := "(IIIII)I" } : Jvm.MethodName)) ∈ TT := tt_3 156 rfl rfl
theorem tw_2_157 : (Jvm.Cond.code ({ cls := "OneRingModel", name := "begins", desc := "(IIIII)I" } : Jvm.MethodName) prog_8_method_15_code (8 : Nat) (Option.some Jvm.ClassFile.FieldType.int)) ∈ TT := tt_3 157 rfl rfl
theorem tw_2_158 : (Jvm.Cond.methodLink "OneRingModel" (86 : Nat) ({ cls := "OneRingModel", name := "wayOn", desc := "(III)I" } : Jvm.MethodName)) ∈ TT := tt_3 158 rfl rfl
theorem tw_2_160 : (Jvm.Cond.instanceMethod ({ cls := "OneRingModel", name := "wayOn", desc := "(III)I" } : Jvm.MethodName)) ∈ TT := tt_3 160 rfl rfl
theorem tw_2_161 : (Jvm.Cond.code ({ cls := "OneRingModel", name := "wayOn", desc := "(III)I" } : Jvm.MethodName) prog_8_method_14_code (7 : Nat) (Option.some Jvm.ClassFile.FieldType.int)) ∈ TT := tt_3 161 rfl rfl
theorem tw_2_162 : (Jvm.Cond.methodLink "OneRingModel" (90 : Nat) ({ cls := "OneRingModel", name := "lasts", desc := "(I)I" } : Jvm.MethodName)) ∈ TT := tt_3 162 rfl rfl
theorem tw_2_164 : (Jvm.Cond.instanceMethod ({ cls := "OneRingModel", name := "lasts", desc := "(I)I" } : Jvm.MethodName)) ∈ TT := tt_3 164 rfl rfl
theorem tw_2_165 : (Jvm.Cond.code ({ cls := "OneRingModel", name := "lasts", desc := "(I)I" } : Jvm.MethodName) prog_8_method_16_code (2 : Nat) (Option.some Jvm.ClassFile.FieldType.int)) ∈ TT := tt_3 165 rfl rfl
theorem tw_2_166 : (Jvm.Cond.methodLink "OneRingLaw" (39 : Nat) ({ cls := "OneRingModel", name := "road", desc := "(I)I" } : Jvm.MethodName)) ∈ TT := tt_3 166 rfl rfl
theorem tw_2_167 : (Jvm.Cond.instanceMethod ({ cls := "OneRingModel", name := "road", desc := "(I)I" } : Jvm.MethodName)) ∈ TT := tt_3 167 rfl rfl
theorem tw_2_168 : (Jvm.Cond.selects "OneRingModel" ({ cls := "OneRingModel", name := "road", desc := "(I)I" } : Jvm.MethodName) ({ cls := "OneRingModel", name := "road", desc := "(I)I" } : Jvm.MethodName)) ∈ TT := tt_3 168 rfl rfl
theorem tw_2_169 : (Jvm.Cond.code ({ cls := "OneRingModel", name := "road", desc := "(I)I" } : Jvm.MethodName) prog_8_method_21_code (2 : Nat) (Option.some Jvm.ClassFile.FieldType.int)) ∈ TT := tt_3 169 rfl rfl
theorem tw_2_170 : (Jvm.Cond.constantLong "OneRingModel" (112 : Nat) (4 : Int64)) ∈ TT := tt_3 170 rfl rfl
theorem tw_2_171 : (Jvm.Cond.methodLink "OneRingLaw" (43 : Nat) ({ cls := "OneRingModel", name := "way", desc := "(II)I" } : Jvm.MethodName)) ∈ TT := tt_3 171 rfl rfl
theorem tw_2_172 : (Jvm.Cond.instanceMethod ({ cls := "OneRingModel", name := "way", desc := "(II)I" } : Jvm.MethodName)) ∈ TT := tt_3 172 rfl rfl
theorem tw_2_173 : (Jvm.Cond.selects "OneRingModel" ({ cls := "OneRingModel", name := "way", desc := "(II)I" } : Jvm.MethodName) ({ cls := "OneRingModel", name := "way", desc := "(II)I" } : Jvm.MethodName)) ∈ TT := tt_3 173 rfl rfl
theorem tw_2_174 : (Jvm.Cond.code ({ cls := "OneRingModel", name := "way", desc := "(II)I" } : Jvm.MethodName) prog_8_method_22_code (3 : Nat) (Option.some Jvm.ClassFile.FieldType.int)) ∈ TT := tt_3 174 rfl rfl
theorem tw_2_175 : (Jvm.Cond.methodLink "OneRingModel" (114 : Nat) ({ cls := "OneRingModel", name := "isChurch", desc := "(I)Z" } : Jvm.MethodName)) ∈ TT := tt_3 175 rfl rfl
theorem tw_2_176 : (Jvm.Cond.static ({ cls := "OneRingModel", name := "isChurch", desc := "(I)Z" } : Jvm.MethodName)) ∈ TT := tt_3 176 rfl rfl
theorem tw_2_177 : (Jvm.Cond.code ({ cls := "OneRingModel", name := "isChurch", desc := "(I)Z" } : Jvm.MethodName) prog_8_method_12_code (1 : Nat) (Option.some Jvm.ClassFile.FieldType.boolean)) ∈ TT := tt_3 177 rfl rfl
theorem tw_2_178 : (Jvm.Cond.methodLink "OneRingLaw" (47 : Nat) ({ cls := "OneRingModel", name := "wed", desc := "(I)I" } : Jvm.MethodName)) ∈ TT := tt_3 178 rfl rfl
theorem tw_2_179 : (Jvm.Cond.instanceMethod ({ cls := "OneRingModel", name := "wed", desc := "(I)I" } : Jvm.MethodName)) ∈ TT := tt_3 179 rfl rfl
theorem tw_2_180 : (Jvm.Cond.selects "OneRingModel" ({ cls := "OneRingModel", name := "wed", desc := "(I)I" } : Jvm.MethodName) ({ cls := "OneRingModel", name := "wed", desc := "(I)I" } : Jvm.MethodName)) ∈ TT := tt_3 180 rfl rfl
theorem tw_2_181 : (Jvm.Cond.code ({ cls := "OneRingModel", name := "wed", desc := "(I)I" } : Jvm.MethodName) prog_8_method_24_code (2 : Nat) (Option.some Jvm.ClassFile.FieldType.int)) ∈ TT := tt_3 181 rfl rfl
theorem tw_2_182 : (Jvm.Cond.methodLink "OneRingModel" (120 : Nat) ({ cls := "OneRingModel", name := "keepAct", desc := "()V" } : Jvm.MethodName)) ∈ TT := tt_3 182 rfl rfl
theorem tw_2_184 : (Jvm.Cond.instanceMethod ({ cls := "OneRingModel", name := "keepAct", desc := "()V" } : Jvm.MethodName)) ∈ TT := tt_3 184 rfl rfl
theorem tw_2_185 : (Jvm.Cond.code ({ cls := "OneRingModel", name := "keepAct", desc := "()V" } : Jvm.MethodName) prog_8_method_23_code (2 : Nat) (Option.none : Option Jvm.ClassFile.FieldType)) ∈ TT := tt_3 185 rfl rfl
theorem tw_2_186 : (Jvm.Cond.methodLink "OneRingModel" (123 : Nat) ({ cls := "OneRingModel", name := "wedOn", desc := "(II)Z" } : Jvm.MethodName)) ∈ TT := tt_3 186 rfl rfl
theorem tw_2_188 : (Jvm.Cond.instanceMethod ({ cls := "OneRingModel", name := "wedOn", desc := "(II)Z" } : Jvm.MethodName)) ∈ TT := tt_3 188 rfl rfl
theorem tw_2_189 : (Jvm.Cond.code ({ cls := "OneRingModel", name := "wedOn", desc := "(II)Z" } : Jvm.MethodName) prog_8_method_19_code (5 : Nat) (Option.some Jvm.ClassFile.FieldType.boolean)) ∈ TT := tt_3 189 rfl rfl
theorem tw_2_190 : (Jvm.Cond.methodLink "OneRingModel" (106 : Nat) ({ cls := "OneRingModel", name := "behind", desc := "(II)I" } : Jvm.MethodName)) ∈ TT := tt_3 190 rfl rfl
theorem tw_2_192 : (Jvm.Cond.instanceMethod ({ cls := "OneRingModel", name := "behind", desc := "(II)I" } : Jvm.MethodName)) ∈ TT := tt_3 192 rfl rfl
theorem tw_2_193 : (Jvm.Cond.code ({ cls := "OneRingModel", name := "behind", desc := "(II)I" } : Jvm.MethodName) prog_8_method_17_code (3 : Nat) (Option.some Jvm.ClassFile.FieldType.int)) ∈ TT := tt_3 193 rfl rfl
theorem tw_2_194 : (Jvm.Cond.methodLink "OneRingLaw" (51 : Nat) ({ cls := "OneRingModel", name := "carry", desc := "(I)I" } : Jvm.MethodName)) ∈ TT := tt_3 194 rfl rfl
theorem tw_2_195 : (Jvm.Cond.instanceMethod ({ cls := "OneRingModel", name := "carry", desc := "(I)I" } : Jvm.MethodName)) ∈ TT := tt_3 195 rfl rfl
theorem tw_2_196 : (Jvm.Cond.selects "OneRingModel" ({ cls := "OneRingModel", name := "carry", desc := "(I)I" } : Jvm.MethodName) ({ cls := "OneRingModel", name := "carry", desc := "(I)I" } : Jvm.MethodName)) ∈ TT := tt_3 196 rfl rfl
theorem tw_2_197 : (Jvm.Cond.code ({ cls := "OneRingModel", name := "carry", desc := "(I)I" } : Jvm.MethodName) prog_8_method_25_code (2 : Nat) (Option.some Jvm.ClassFile.FieldType.int)) ∈ TT := tt_3 197 rfl rfl
theorem tw_2_198 : (Jvm.Cond.methodLink "OneRingLaw" (55 : Nat) ({ cls := "OneRingModel", name := "linger", desc := "()I" } : Jvm.MethodName)) ∈ TT := tt_3 198 rfl rfl
theorem tw_2_199 : (Jvm.Cond.instanceMethod ({ cls := "OneRingModel", name := "linger", desc := "()I" } : Jvm.MethodName)) ∈ TT := tt_3 199 rfl rfl
theorem tw_2_200 : (Jvm.Cond.selects "OneRingModel" ({ cls := "OneRingModel", name := "linger", desc := "()I" } : Jvm.MethodName) ({ cls := "OneRingModel", name := "linger", desc := "()I" } : Jvm.MethodName)) ∈ TT := tt_3 200 rfl rfl
theorem tw_2_201 : (Jvm.Cond.code ({ cls := "OneRingModel", name := "linger", desc := "()I" } : Jvm.MethodName) prog_8_method_26_code (1 : Nat) (Option.some Jvm.ClassFile.FieldType.int)) ∈ TT := tt_3 201 rfl rfl
theorem tw_2_202 : (Jvm.Cond.methodLink "OneRingLaw" (59 : Nat) ({ cls := "OneRingModel", name := "mend", desc := "(I)I" } : Jvm.MethodName)) ∈ TT := tt_3 202 rfl rfl
theorem tw_2_203 : (Jvm.Cond.instanceMethod ({ cls := "OneRingModel", name := "mend", desc := "(I)I" } : Jvm.MethodName)) ∈ TT := tt_3 203 rfl rfl
theorem tw_2_204 : (Jvm.Cond.selects "OneRingModel" ({ cls := "OneRingModel", name := "mend", desc := "(I)I" } : Jvm.MethodName) ({ cls := "OneRingModel", name := "mend", desc := "(I)I" } : Jvm.MethodName)) ∈ TT := tt_3 204 rfl rfl
theorem tw_2_205 : (Jvm.Cond.code ({ cls := "OneRingModel", name := "mend", desc := "(I)I" } : Jvm.MethodName) prog_8_method_27_code (2 : Nat) (Option.some Jvm.ClassFile.FieldType.int)) ∈ TT := tt_3 205 rfl rfl
theorem tw_2_206 : (Jvm.Cond.methodLink "OneRingLaw" (63 : Nat) ({ cls := "OneRingModel", name := "undo", desc := "()I" } : Jvm.MethodName)) ∈ TT := tt_3 206 rfl rfl
theorem tw_2_207 : (Jvm.Cond.instanceMethod ({ cls := "OneRingModel", name := "undo", desc := "()I" } : Jvm.MethodName)) ∈ TT := tt_3 207 rfl rfl
theorem tw_2_208 : (Jvm.Cond.selects "OneRingModel" ({ cls := "OneRingModel", name := "undo", desc := "()I" } : Jvm.MethodName) ({ cls := "OneRingModel", name := "undo", desc := "()I" } : Jvm.MethodName)) ∈ TT := tt_3 208 rfl rfl
theorem tw_2_209 : (Jvm.Cond.code ({ cls := "OneRingModel", name := "undo", desc := "()I" } : Jvm.MethodName) prog_8_method_28_code (2 : Nat) (Option.some Jvm.ClassFile.FieldType.int)) ∈ TT := tt_3 209 rfl rfl
theorem tw_2_210 : (Jvm.Cond.methodLink "OneRingLaw" (67 : Nat) ({ cls := "OneRingModel", name := "most", desc := "(I)I" } : Jvm.MethodName)) ∈ TT := tt_3 210 rfl rfl
theorem tw_2_211 : (Jvm.Cond.instanceMethod ({ cls := "OneRingModel", name := "most", desc := "(I)I" } : Jvm.MethodName)) ∈ TT := tt_3 211 rfl rfl
theorem tw_2_212 : (Jvm.Cond.selects "OneRingModel" ({ cls := "OneRingModel", name := "most", desc := "(I)I" } : Jvm.MethodName) ({ cls := "OneRingModel", name := "most", desc := "(I)I" } : Jvm.MethodName)) ∈ TT := tt_3 212 rfl rfl
theorem tw_2_213 : (Jvm.Cond.code ({ cls := "OneRingModel", name := "most", desc := "(I)I" } : Jvm.MethodName) prog_8_method_35_code (3 : Nat) (Option.some Jvm.ClassFile.FieldType.int)) ∈ TT := tt_3 213 rfl rfl
theorem tw_2_214 : (Jvm.Cond.constantLong "OneRingModel" (147 : Nat) (2 : Int64)) ∈ TT := tt_3 214 rfl rfl
theorem tw_2_215 : (Jvm.Cond.methodLink "OneRingModel" (141 : Nat) ({ cls := "OneRingModel", name := "every", desc := "()I" } : Jvm.MethodName)) ∈ TT := tt_3 215 rfl rfl
theorem tw_2_217 : (Jvm.Cond.instanceMethod ({ cls := "OneRingModel", name := "every", desc := "()I" } : Jvm.MethodName)) ∈ TT := tt_3 217 rfl rfl
theorem tw_2_218 : (Jvm.Cond.code ({ cls := "OneRingModel", name := "every", desc := "()I" } : Jvm.MethodName) prog_8_method_13_code (1 : Nat) (Option.some Jvm.ClassFile.FieldType.int)) ∈ TT := tt_3 218 rfl rfl
theorem tw_2_219 : (Jvm.Cond.methodLink "OneRingModel" (144 : Nat) ({ cls := "OneRingModel", name := "mostOn", desc := "(II)I" } : Jvm.MethodName)) ∈ TT := tt_3 219 rfl rfl
theorem tw_2_221 : (Jvm.Cond.instanceMethod ({ cls := "OneRingModel", name := "mostOn", desc := "(II)I" } : Jvm.MethodName)) ∈ TT := tt_3 221 rfl rfl
theorem tw_2_222 : (Jvm.Cond.code ({ cls := "OneRingModel", name := "mostOn", desc := "(II)I" } : Jvm.MethodName) prog_8_method_30_code (9 : Nat) (Option.some Jvm.ClassFile.FieldType.int)) ∈ TT := tt_3 222 rfl rfl
theorem tw_2_223 : (Jvm.Cond.methodLink "OneRingModel" (126 : Nat) ({ cls := "OneRingModel", name := "noteEarlier", desc := "(III)V" } : Jvm.MethodName)) ∈ TT := tt_3 223 rfl rfl
theorem tw_2_225 : (Jvm.Cond.instanceMethod ({ cls := "OneRingModel", name := "noteEarlier", desc := "(III)V" } : Jvm.MethodName)) ∈ TT := tt_3 225 rfl rfl
theorem tw_2_226 : (Jvm.Cond.code ({ cls := "OneRingModel", name := "noteEarlier", desc := "(III)V" } : Jvm.MethodName) prog_8_method_29_code (6 : Nat) (Option.none : Option Jvm.ClassFile.FieldType)) ∈ TT := tt_3 226 rfl rfl
theorem tw_2_227 : (Jvm.Cond.methodLink "OneRingModel" (130 : Nat) ({ cls := "OneRingModel", name := "ones", desc := "(I)I" } : Jvm.MethodName)) ∈ TT := tt_3 227 rfl rfl
theorem tw_2_228 : (Jvm.Cond.static ({ cls := "OneRingModel", name := "ones", desc := "(I)I" } : Jvm.MethodName)) ∈ TT := tt_3 228 rfl rfl
theorem tw_2_229 : (Jvm.Cond.code ({ cls := "OneRingModel", name := "ones", desc := "(I)I" } : Jvm.MethodName) prog_8_method_5_code (3 : Nat) (Option.some Jvm.ClassFile.FieldType.int)) ∈ TT := tt_3 229 rfl rfl
theorem tw_2_230 : (Jvm.Cond.methodLink "OneRingModel" (149 : Nat) ({ cls := "OneRingModel", name := "firstRow", desc := "(I)I" } : Jvm.MethodName)) ∈ TT := tt_3 230 rfl rfl
theorem tw_2_232 : (Jvm.Cond.instanceMethod ({ cls := "OneRingModel", name := "firstRow", desc := "(I)I" } : Jvm.MethodName)) ∈ TT := tt_3 232 rfl rfl
theorem tw_2_233 : (Jvm.Cond.code ({ cls := "OneRingModel", name := "firstRow", desc := "(I)I" } : Jvm.MethodName) prog_8_method_33_code (6 : Nat) (Option.some Jvm.ClassFile.FieldType.int)) ∈ TT := tt_3 233 rfl rfl
theorem tw_2_234 : (Jvm.Cond.methodLink "OneRingModel" (133 : Nat) ({ cls := "OneRingModel", name := "goesOn", desc := "(III)Z" } : Jvm.MethodName)) ∈ TT := tt_3 234 rfl rfl
theorem tw_2_236 : (Jvm.Cond.instanceMethod ({ cls := "OneRingModel", name := "goesOn", desc := "(III)Z" } : Jvm.MethodName)) ∈ TT := tt_3 236 rfl rfl
theorem tw_2_237 : (Jvm.Cond.code ({ cls := "OneRingModel", name := "goesOn", desc := "(III)Z" } : Jvm.MethodName) prog_8_method_34_code (6 : Nat) (Option.some Jvm.ClassFile.FieldType.boolean)) ∈ TT := tt_3 237 rfl rfl
theorem tw_2_238 : (Jvm.Cond.methodLink "OneRingModel" (137 : Nat) ({ cls := "OneRingModel", name := "layTrial", desc := "()V" } : Jvm.MethodName)) ∈ TT := tt_3 238 rfl rfl
theorem tw_3_0 : (Jvm.Cond.instanceMethod ({ cls := "OneRingModel", name := "layTrial", desc := "()V" } : Jvm.MethodName)) ∈ TT := tt_4 0 rfl rfl
theorem tw_3_1 : (Jvm.Cond.code ({ cls := "OneRingModel", name := "layTrial", desc := "()V" } : Jvm.MethodName) prog_8_method_32_code (2 : Nat) (Option.none : Option Jvm.ClassFile.FieldType)) ∈ TT := tt_4 1 rfl rfl
theorem tw_3_2 : (Jvm.Cond.constant "OneRingModel" (140 : Nat) (100000 : Int32)) ∈ TT := tt_4 2 rfl rfl
theorem tw_3_3 : (Jvm.Cond.methodLink "OneRingModel" (152 : Nat) ({ cls := "OneRingModel", name := "endOf", desc := "(I)I" } : Jvm.MethodName)) ∈ TT := tt_4 3 rfl rfl
theorem tw_3_5 : (Jvm.Cond.instanceMethod ({ cls := "OneRingModel", name := "endOf", desc := "(I)I" } : Jvm.MethodName)) ∈ TT := tt_4 5 rfl rfl
theorem tw_3_6 : (Jvm.Cond.code ({ cls := "OneRingModel", name := "endOf", desc := "(I)I" } : Jvm.MethodName) prog_8_method_31_code (5 : Nat) (Option.some Jvm.ClassFile.FieldType.int)) ∈ TT := tt_4 6 rfl rfl
theorem tw_3_7 : (Jvm.Cond.methodLink "OneRingLaw" (71 : Nat) ({ cls := "OneRingModel", name := "slack", desc := "()I" } : Jvm.MethodName)) ∈ TT := tt_4 7 rfl rfl
theorem tw_3_8 : (Jvm.Cond.instanceMethod ({ cls := "OneRingModel", name := "slack", desc := "()I" } : Jvm.MethodName)) ∈ TT := tt_4 8 rfl rfl
theorem tw_3_9 : (Jvm.Cond.selects "OneRingModel" ({ cls := "OneRingModel", name := "slack", desc := "()I" } : Jvm.MethodName) ({ cls := "OneRingModel", name := "slack", desc := "()I" } : Jvm.MethodName)) ∈ TT := tt_4 9 rfl rfl
theorem tw_3_10 : (Jvm.Cond.code ({ cls := "OneRingModel", name := "slack", desc := "()I" } : Jvm.MethodName) prog_8_method_36_code (3 : Nat) (Option.some Jvm.ClassFile.FieldType.int)) ∈ TT := tt_4 10 rfl rfl
theorem tw_3_11 : (Jvm.Cond.methodLink "OneRingLaw" (76 : Nat) ({ cls := "OneRingModel", name := "mending", desc := "(Z)I" } : Jvm.MethodName)) ∈ TT := tt_4 11 rfl rfl
theorem tw_3_12 : (Jvm.Cond.instanceMethod ({ cls := "OneRingModel", name := "mending", desc := "(Z)I" } : Jvm.MethodName)) ∈ TT := tt_4 12 rfl rfl
theorem tw_3_13 : (Jvm.Cond.selects "OneRingModel" ({ cls := "OneRingModel", name := "mending", desc := "(Z)I" } : Jvm.MethodName) ({ cls := "OneRingModel", name := "mending", desc := "(Z)I" } : Jvm.MethodName)) ∈ TT := tt_4 13 rfl rfl
theorem tw_3_14 : (Jvm.Cond.code ({ cls := "OneRingModel", name := "mending", desc := "(Z)I" } : Jvm.MethodName) prog_8_method_37_code (6 : Nat) (Option.some Jvm.ClassFile.FieldType.int)) ∈ TT := tt_4 14 rfl rfl
theorem tw_3_15 : (Jvm.Cond.methodLink "OneRingLaw" (80 : Nat) ({ cls := "OneRingModel", name := "judge", desc := "(II)I" } : Jvm.MethodName)) ∈ TT := tt_4 15 rfl rfl
theorem tw_3_16 : (Jvm.Cond.instanceMethod ({ cls := "OneRingModel", name := "judge", desc := "(II)I" } : Jvm.MethodName)) ∈ TT := tt_4 16 rfl rfl
theorem tw_3_17 : (Jvm.Cond.selects "OneRingModel" ({ cls := "OneRingModel", name := "judge", desc := "(II)I" } : Jvm.MethodName) ({ cls := "OneRingModel", name := "judge", desc := "(II)I" } : Jvm.MethodName)) ∈ TT := tt_4 17 rfl rfl
theorem tw_3_18 : (Jvm.Cond.code ({ cls := "OneRingModel", name := "judge", desc := "(II)I" } : Jvm.MethodName) prog_8_method_39_code (5 : Nat) (Option.some Jvm.ClassFile.FieldType.int)) ∈ TT := tt_4 18 rfl rfl
theorem tw_3_19 : (Jvm.Cond.constantLong "OneRingModel" (155 : Nat) (6 : Int64)) ∈ TT := tt_4 19 rfl rfl
theorem tw_3_20 : (Jvm.Cond.methodLink "OneRingModel" (157 : Nat) ({ cls := "OneRingModel", name := "tenTo", desc := "(I)I" } : Jvm.MethodName)) ∈ TT := tt_4 20 rfl rfl
theorem tw_3_21 : (Jvm.Cond.static ({ cls := "OneRingModel", name := "tenTo", desc := "(I)I" } : Jvm.MethodName)) ∈ TT := tt_4 21 rfl rfl
theorem tw_3_22 : (Jvm.Cond.code ({ cls := "OneRingModel", name := "tenTo", desc := "(I)I" } : Jvm.MethodName) prog_8_method_38_code (3 : Nat) (Option.some Jvm.ClassFile.FieldType.int)) ∈ TT := tt_4 22 rfl rfl
theorem tw_3_23 : (Jvm.Cond.methodLink "OneRingLaw" (84 : Nat) ({ cls := "OneRingModel", name := "later", desc := "(I)I" } : Jvm.MethodName)) ∈ TT := tt_4 23 rfl rfl
theorem tw_3_24 : (Jvm.Cond.instanceMethod ({ cls := "OneRingModel", name := "later", desc := "(I)I" } : Jvm.MethodName)) ∈ TT := tt_4 24 rfl rfl
theorem tw_3_25 : (Jvm.Cond.selects "OneRingModel" ({ cls := "OneRingModel", name := "later", desc := "(I)I" } : Jvm.MethodName) ({ cls := "OneRingModel", name := "later", desc := "(I)I" } : Jvm.MethodName)) ∈ TT := tt_4 25 rfl rfl
theorem tw_3_26 : (Jvm.Cond.code ({ cls := "OneRingModel", name := "later", desc := "(I)I" } : Jvm.MethodName) prog_8_method_40_code (4 : Nat) (Option.some Jvm.ClassFile.FieldType.int)) ∈ TT := tt_4 26 rfl rfl
theorem tw_3_27 : (Jvm.Cond.methodLink "OneRingLaw" (88 : Nat) ({ cls := "OneRingModel", name := "see", desc := "(II)I" } : Jvm.MethodName)) ∈ TT := tt_4 27 rfl rfl
theorem tw_3_28 : (Jvm.Cond.instanceMethod ({ cls := "OneRingModel", name := "see", desc := "(II)I" } : Jvm.MethodName)) ∈ TT := tt_4 28 rfl rfl
theorem tw_3_29 : (Jvm.Cond.selects "OneRingModel" ({ cls := "OneRingModel", name := "see", desc := "(II)I" } : Jvm.MethodName) ({ cls := "OneRingModel", name := "see", desc := "(II)I" } : Jvm.MethodName)) ∈ TT := tt_4 29 rfl rfl
theorem tw_3_30 : (Jvm.Cond.code ({ cls := "OneRingModel", name := "see", desc := "(II)I" } : Jvm.MethodName) prog_8_method_41_code (3 : Nat) (Option.some Jvm.ClassFile.FieldType.int)) ∈ TT := tt_4 30 rfl rfl
theorem tw_3_31 : (Jvm.Cond.methodLink "OneRingLaw" (92 : Nat) ({ cls := "OneRingModel", name := "unsee", desc := "()I" } : Jvm.MethodName)) ∈ TT := tt_4 31 rfl rfl
theorem tw_3_32 : (Jvm.Cond.instanceMethod ({ cls := "OneRingModel", name := "unsee", desc := "()I" } : Jvm.MethodName)) ∈ TT := tt_4 32 rfl rfl
theorem tw_3_33 : (Jvm.Cond.selects "OneRingModel" ({ cls := "OneRingModel", name := "unsee", desc := "()I" } : Jvm.MethodName) ({ cls := "OneRingModel", name := "unsee", desc := "()I" } : Jvm.MethodName)) ∈ TT := tt_4 33 rfl rfl
theorem tw_3_34 : (Jvm.Cond.code ({ cls := "OneRingModel", name := "unsee", desc := "()I" } : Jvm.MethodName) prog_8_method_42_code (2 : Nat) (Option.some Jvm.ClassFile.FieldType.int)) ∈ TT := tt_4 34 rfl rfl
theorem tw_3_35 : (Jvm.Cond.methodLink "OneRingLaw" (96 : Nat) ({ cls := "OneRingModel", name := "rows", desc := "(II)I" } : Jvm.MethodName)) ∈ TT := tt_4 35 rfl rfl
theorem tw_3_36 : (Jvm.Cond.instanceMethod ({ cls := "OneRingModel", name := "rows", desc := "(II)I" } : Jvm.MethodName)) ∈ TT := tt_4 36 rfl rfl
theorem tw_3_37 : (Jvm.Cond.selects "OneRingModel" ({ cls := "OneRingModel", name := "rows", desc := "(II)I" } : Jvm.MethodName) ({ cls := "OneRingModel", name := "rows", desc := "(II)I" } : Jvm.MethodName)) ∈ TT := tt_4 37 rfl rfl
theorem tw_3_38 : (Jvm.Cond.code ({ cls := "OneRingModel", name := "rows", desc := "(II)I" } : Jvm.MethodName) prog_8_method_46_code (9 : Nat) (Option.some Jvm.ClassFile.FieldType.int)) ∈ TT := tt_4 38 rfl rfl
theorem tw_3_39 : (Jvm.Cond.methodLink "OneRingModel" (166 : Nat) ({ cls := "OneRingModel", name := "rowsOf", desc := "(II)I" } : Jvm.MethodName)) ∈ TT := tt_4 39 rfl rfl
theorem tw_3_40 : (Jvm.Cond.static ({ cls := "OneRingModel", name := "rowsOf", desc := "(II)I" } : Jvm.MethodName)) ∈ TT := tt_4 40 rfl rfl
theorem tw_3_41 : (Jvm.Cond.code ({ cls := "OneRingModel", name := "rowsOf", desc := "(II)I" } : Jvm.MethodName) prog_8_method_44_code (4 : Nat) (Option.some Jvm.ClassFile.FieldType.int)) ∈ TT := tt_4 41 rfl rfl
theorem tw_3_42 : (Jvm.Cond.methodLink "OneRingModel" (169 : Nat) ({ cls := "OneRingModel", name := "rowBy", desc := "(II)I" } : Jvm.MethodName)) ∈ TT := tt_4 42 rfl rfl
theorem tw_3_44 : (Jvm.Cond.instanceMethod ({ cls := "OneRingModel", name := "rowBy", desc := "(II)I" } : Jvm.MethodName)) ∈ TT := tt_4 44 rfl rfl
theorem tw_3_45 : (Jvm.Cond.code ({ cls := "OneRingModel", name := "rowBy", desc := "(II)I" } : Jvm.MethodName) prog_8_method_45_code (13 : Nat) (Option.some Jvm.ClassFile.FieldType.int)) ∈ TT := tt_4 45 rfl rfl
theorem tw_3_46 : (Jvm.Cond.methodLink "OneRingModel" (163 : Nat) ({ cls := "OneRingModel", name := "isSeen", desc := "(I)Z" } : Jvm.MethodName)) ∈ TT := tt_4 46 rfl rfl
theorem tw_3_48 : (Jvm.Cond.instanceMethod ({ cls := "OneRingModel", name := "isSeen", desc := "(I)Z" } : Jvm.MethodName)) ∈ TT := tt_4 48 rfl rfl
theorem tw_3_49 : (Jvm.Cond.code ({ cls := "OneRingModel", name := "isSeen", desc := "(I)Z" } : Jvm.MethodName) prog_8_method_43_code (4 : Nat) (Option.some Jvm.ClassFile.FieldType.boolean)) ∈ TT := tt_4 49 rfl rfl
theorem tw_3_50 : (Jvm.Cond.methodLink "OneRingLaw" (101 : Nat) ({ cls := "OneRingModel", name := "share", desc := "(IZ)I" } : Jvm.MethodName)) ∈ TT := tt_4 50 rfl rfl
theorem tw_3_51 : (Jvm.Cond.instanceMethod ({ cls := "OneRingModel", name := "share", desc := "(IZ)I" } : Jvm.MethodName)) ∈ TT := tt_4 51 rfl rfl
theorem tw_3_52 : (Jvm.Cond.selects "OneRingModel" ({ cls := "OneRingModel", name := "share", desc := "(IZ)I" } : Jvm.MethodName) ({ cls := "OneRingModel", name := "share", desc := "(IZ)I" } : Jvm.MethodName)) ∈ TT := tt_4 52 rfl rfl
theorem tw_3_53 : (Jvm.Cond.code ({ cls := "OneRingModel", name := "share", desc := "(IZ)I" } : Jvm.MethodName) prog_8_method_49_code (7 : Nat) (Option.some Jvm.ClassFile.FieldType.int)) ∈ TT := tt_4 53 rfl rfl
theorem tw_3_54 : (Jvm.Cond.methodLink "OneRingModel" (172 : Nat) ({ cls := "OneRingModel", name := "factorial", desc := "(I)I" } : Jvm.MethodName)) ∈ TT := tt_4 54 rfl rfl
theorem tw_3_55 : (Jvm.Cond.static ({ cls := "OneRingModel", name := "factorial", desc := "(I)I" } : Jvm.MethodName)) ∈ TT := tt_4 55 rfl rfl
theorem tw_3_56 : (Jvm.Cond.code ({ cls := "OneRingModel", name := "factorial", desc := "(I)I" } : Jvm.MethodName) prog_8_method_47_code (3 : Nat) (Option.some Jvm.ClassFile.FieldType.int)) ∈ TT := tt_4 56 rfl rfl
theorem tw_3_57 : (Jvm.Cond.methodLink "OneRingModel" (175 : Nat) ({ cls := "OneRingModel", name := "common", desc := "(II)I" } : Jvm.MethodName)) ∈ TT := tt_4 57 rfl rfl
theorem tw_3_58 : (Jvm.Cond.static ({ cls := "OneRingModel", name := "common", desc := "(II)I" } : Jvm.MethodName)) ∈ TT := tt_4 58 rfl rfl
theorem tw_3_59 : (Jvm.Cond.code ({ cls := "OneRingModel", name := "common", desc := "(II)I" } : Jvm.MethodName) prog_8_method_48_code (5 : Nat) (Option.some Jvm.ClassFile.FieldType.int)) ∈ TT := tt_4 59 rfl rfl
theorem tw_3_60 : (Jvm.Cond.methodLink "OneRingLaw" (106 : Nat) ({ cls := "OneRingModel", name := "rests", desc := "(III)I" } : Jvm.MethodName)) ∈ TT := tt_4 60 rfl rfl
theorem tw_3_61 : (Jvm.Cond.instanceMethod ({ cls := "OneRingModel", name := "rests", desc := "(III)I" } : Jvm.MethodName)) ∈ TT := tt_4 61 rfl rfl
theorem tw_3_62 : (Jvm.Cond.selects "OneRingModel" ({ cls := "OneRingModel", name := "rests", desc := "(III)I" } : Jvm.MethodName) ({ cls := "OneRingModel", name := "rests", desc := "(III)I" } : Jvm.MethodName)) ∈ TT := tt_4 62 rfl rfl
theorem tw_3_63 : (Jvm.Cond.code ({ cls := "OneRingModel", name := "rests", desc := "(III)I" } : Jvm.MethodName) prog_8_method_53_code (7 : Nat) (Option.some Jvm.ClassFile.FieldType.int)) ∈ TT := tt_4 63 rfl rfl
theorem tw_3_64 : (Jvm.Cond.methodLink "OneRingModel" (185 : Nat) ({ cls := "OneRingModel", name := "isRest", desc := "(IIII)Z" } : Jvm.MethodName)) ∈ TT := tt_4 64 rfl rfl
theorem tw_3_66 : (Jvm.Cond.instanceMethod ({ cls := "OneRingModel", name := "isRest", desc := "(IIII)Z" } : Jvm.MethodName)) ∈ TT := tt_4 66 rfl rfl
theorem tw_3_67 : (Jvm.Cond.code ({ cls := "OneRingModel", name := "isRest", desc := "(IIII)Z" } : Jvm.MethodName) prog_8_method_52_code (5 : Nat) (Option.some Jvm.ClassFile.FieldType.boolean)) ∈ TT := tt_4 67 rfl rfl
theorem tw_3_68 : (Jvm.Cond.methodLink "OneRingModel" (181 : Nat) ({ cls := "OneRingModel", name := "gain", desc := "(IIII)I" } : Jvm.MethodName)) ∈ TT := tt_4 68 rfl rfl
theorem tw_3_70 : (Jvm.Cond.instanceMethod ({ cls := "OneRingModel", name := "gain", desc := "(IIII)I" } : Jvm.MethodName)) ∈ TT := tt_4 70 rfl rfl
theorem tw_3_71 : (Jvm.Cond.code ({ cls := "OneRingModel", name := "gain", desc := "(IIII)I" } : Jvm.MethodName) prog_8_method_51_code (6 : Nat) (Option.some Jvm.ClassFile.FieldType.int)) ∈ TT := tt_4 71 rfl rfl
theorem tw_3_72 : (Jvm.Cond.methodLink "OneRingModel" (178 : Nat) ({ cls := "OneRingModel", name := "bringsOf", desc := "(I)I" } : Jvm.MethodName)) ∈ TT := tt_4 72 rfl rfl
theorem tw_3_74 : (Jvm.Cond.instanceMethod ({ cls := "OneRingModel", name := "bringsOf", desc := "(I)I" } : Jvm.MethodName)) ∈ TT := tt_4 74 rfl rfl
theorem tw_3_75 : (Jvm.Cond.code ({ cls := "OneRingModel", name := "bringsOf", desc := "(I)I" } : Jvm.MethodName) prog_8_method_50_code (3 : Nat) (Option.some Jvm.ClassFile.FieldType.int)) ∈ TT := tt_4 75 rfl rfl
theorem tw_3_76 : (Jvm.Cond.methodLink "OneRingLaw" (111 : Nat) ({ cls := "OneRingModel", name := "falls", desc := "(IIIZ)I" } : Jvm.MethodName)) ∈ TT := tt_4 76 rfl rfl
theorem tw_3_77 : (Jvm.Cond.instanceMethod ({ cls := "OneRingModel", name := "falls", desc := "(IIIZ)I" } : Jvm.MethodName)) ∈ TT := tt_4 77 rfl rfl
theorem tw_3_78 : (Jvm.Cond.selects "OneRingModel" ({ cls := "OneRingModel", name := "falls", desc := "(IIIZ)I" } : Jvm.MethodName) ({ cls := "OneRingModel", name := "falls", desc := "(IIIZ)I" } : Jvm.MethodName)) ∈ TT := tt_4 78 rfl rfl
theorem tw_3_79 : (Jvm.Cond.code ({ cls := "OneRingModel", name := "falls", desc := "(IIIZ)I" } : Jvm.MethodName) prog_8_method_58_code (10 : Nat) (Option.some Jvm.ClassFile.FieldType.int)) ∈ TT := tt_4 79 rfl rfl
theorem tw_3_80 : (Jvm.Cond.constantLong "OneRingModel" (189 : Nat) (10 : Int64)) ∈ TT := tt_4 80 rfl rfl
theorem tw_3_81 : (Jvm.Cond.methodLink "OneRingModel" (191 : Nat) ({ cls := "OneRingModel", name := "areOpen", desc := "(II)Z" } : Jvm.MethodName)) ∈ TT := tt_4 81 rfl rfl
theorem tw_3_83 : (Jvm.Cond.instanceMethod ({ cls := "OneRingModel", name := "areOpen", desc := "(II)Z" } : Jvm.MethodName)) ∈ TT := tt_4 83 rfl rfl
theorem tw_3_84 : (Jvm.Cond.code ({ cls := "OneRingModel", name := "areOpen", desc := "(II)Z" } : Jvm.MethodName) prog_8_method_54_code (7 : Nat) (Option.some Jvm.ClassFile.FieldType.boolean)) ∈ TT := tt_4 84 rfl rfl
theorem tw_3_85 : (Jvm.Cond.methodLink "OneRingModel" (194 : Nat) ({ cls := "OneRingModel", name := "waysIn", desc := "(II)I" } : Jvm.MethodName)) ∈ TT := tt_4 85 rfl rfl
theorem tw_3_87 : (Jvm.Cond.instanceMethod ({ cls := "OneRingModel", name := "waysIn", desc := "(II)I" } : Jvm.MethodName)) ∈ TT := tt_4 87 rfl rfl
theorem tw_3_88 : (Jvm.Cond.code ({ cls := "OneRingModel", name := "waysIn", desc := "(II)I" } : Jvm.MethodName) prog_8_method_56_code (7 : Nat) (Option.some Jvm.ClassFile.FieldType.int)) ∈ TT := tt_4 88 rfl rfl
theorem tw_3_89 : (Jvm.Cond.methodLink "OneRingModel" (197 : Nat) ({ cls := "OneRingModel", name := "power", desc := "(II)I" } : Jvm.MethodName)) ∈ TT := tt_4 89 rfl rfl
theorem tw_3_90 : (Jvm.Cond.static ({ cls := "OneRingModel", name := "power", desc := "(II)I" } : Jvm.MethodName)) ∈ TT := tt_4 90 rfl rfl
theorem tw_3_91 : (Jvm.Cond.code ({ cls := "OneRingModel", name := "power", desc := "(II)I" } : Jvm.MethodName) prog_8_method_57_code (4 : Nat) (Option.some Jvm.ClassFile.FieldType.int)) ∈ TT := tt_4 91 rfl rfl
theorem tw_3_92 : (Jvm.Cond.methodLink "OneRingModel" (200 : Nat) ({ cls := "OneRingModel", name := "holds", desc := "(III)Z" } : Jvm.MethodName)) ∈ TT := tt_4 92 rfl rfl
theorem tw_3_94 : (Jvm.Cond.instanceMethod ({ cls := "OneRingModel", name := "holds", desc := "(III)Z" } : Jvm.MethodName)) ∈ TT := tt_4 94 rfl rfl
theorem tw_3_95 : (Jvm.Cond.code ({ cls := "OneRingModel", name := "holds", desc := "(III)Z" } : Jvm.MethodName) prog_8_method_55_code (9 : Nat) (Option.some Jvm.ClassFile.FieldType.boolean)) ∈ TT := tt_4 95 rfl rfl
theorem tw_3_96 : (Jvm.Cond.methodLink "OneRingLaw" (118 : Nat) ({ cls := "OneRingModel", name := "seed", desc := "(J)J" } : Jvm.MethodName)) ∈ TT := tt_4 96 rfl rfl
theorem tw_3_97 : (Jvm.Cond.instanceMethod ({ cls := "OneRingModel", name := "seed", desc := "(J)J" } : Jvm.MethodName)) ∈ TT := tt_4 97 rfl rfl
theorem tw_3_98 : (Jvm.Cond.selects "OneRingModel" ({ cls := "OneRingModel", name := "seed", desc := "(J)J" } : Jvm.MethodName) ({ cls := "OneRingModel", name := "seed", desc := "(J)J" } : Jvm.MethodName)) ∈ TT := tt_4 98 rfl rfl
theorem tw_3_99 : (Jvm.Cond.code ({ cls := "OneRingModel", name := "seed", desc := "(J)J" } : Jvm.MethodName) prog_8_method_59_code (5 : Nat) (Option.some Jvm.ClassFile.FieldType.long)) ∈ TT := tt_4 99 rfl rfl
theorem tw_3_100 : (Jvm.Cond.methodLink "OneRingLaw" (122 : Nat) ({ cls := "OneRingModel", name := "summers", desc := "(I)I" } : Jvm.MethodName)) ∈ TT := tt_4 100 rfl rfl
theorem tw_3_101 : (Jvm.Cond.instanceMethod ({ cls := "OneRingModel", name := "summers", desc := "(I)I" } : Jvm.MethodName)) ∈ TT := tt_4 101 rfl rfl
theorem tw_3_102 : (Jvm.Cond.selects "OneRingModel" ({ cls := "OneRingModel", name := "summers", desc := "(I)I" } : Jvm.MethodName) ({ cls := "OneRingModel", name := "summers", desc := "(I)I" } : Jvm.MethodName)) ∈ TT := tt_4 102 rfl rfl
theorem tw_3_103 : (Jvm.Cond.code ({ cls := "OneRingModel", name := "summers", desc := "(I)I" } : Jvm.MethodName) prog_8_method_60_code (5 : Nat) (Option.some Jvm.ClassFile.FieldType.int)) ∈ TT := tt_4 103 rfl rfl
theorem tw_3_104 : (Jvm.Cond.constantLong "OneRingModel" (207 : Nat) (30 : Int64)) ∈ TT := tt_4 104 rfl rfl
theorem tw_3_105 : (Jvm.Cond.constantLong "OneRingModel" (209 : Nat) (6364136223846793005 : Int64)) ∈ TT := tt_4 105 rfl rfl
theorem tw_3_106 : (Jvm.Cond.constantLong "OneRingModel" (211 : Nat) (1442695040888963407 : Int64)) ∈ TT := tt_4 106 rfl rfl
theorem tw_3_107 : (Jvm.Cond.constantLong "OneRingModel" (213 : Nat) (8 : Int64)) ∈ TT := tt_4 107 rfl rfl
theorem tw_3_108 : (Jvm.Cond.methodLink "OneRingLaw" (126 : Nat) ({ cls := "OneRingModel", name := "keep", desc := "(I)I" } : Jvm.MethodName)) ∈ TT := tt_4 108 rfl rfl
theorem tw_3_109 : (Jvm.Cond.instanceMethod ({ cls := "OneRingModel", name := "keep", desc := "(I)I" } : Jvm.MethodName)) ∈ TT := tt_4 109 rfl rfl
theorem tw_3_110 : (Jvm.Cond.selects "OneRingModel" ({ cls := "OneRingModel", name := "keep", desc := "(I)I" } : Jvm.MethodName) ({ cls := "OneRingModel", name := "keep", desc := "(I)I" } : Jvm.MethodName)) ∈ TT := tt_4 110 rfl rfl
theorem tw_3_111 : (Jvm.Cond.code ({ cls := "OneRingModel", name := "keep", desc := "(I)I" } : Jvm.MethodName) prog_8_method_61_code (3 : Nat) (Option.some Jvm.ClassFile.FieldType.int)) ∈ TT := tt_4 111 rfl rfl
theorem tw_3_112 : (Jvm.Cond.methodLink "OneRingLaw" (130 : Nat) ({ cls := "OneRingModel", name := "again", desc := "(I)I" } : Jvm.MethodName)) ∈ TT := tt_4 112 rfl rfl
theorem tw_3_113 : (Jvm.Cond.instanceMethod ({ cls := "OneRingModel", name := "again", desc := "(I)I" } : Jvm.MethodName)) ∈ TT := tt_4 113 rfl rfl
theorem tw_3_114 : (Jvm.Cond.selects "OneRingModel" ({ cls := "OneRingModel", name := "again", desc := "(I)I" } : Jvm.MethodName) ({ cls := "OneRingModel", name := "again", desc := "(I)I" } : Jvm.MethodName)) ∈ TT := tt_4 114 rfl rfl
theorem tw_3_115 : (Jvm.Cond.code ({ cls := "OneRingModel", name := "again", desc := "(I)I" } : Jvm.MethodName) prog_8_method_62_code (3 : Nat) (Option.some Jvm.ClassFile.FieldType.int)) ∈ TT := tt_4 115 rfl rfl
theorem tw_3_116 : (Jvm.Cond.methodLink "OneRingLaw" (134 : Nat) ({ cls := "OneRingModel", name := "count", desc := "(I)I" } : Jvm.MethodName)) ∈ TT := tt_4 116 rfl rfl
theorem tw_3_117 : (Jvm.Cond.instanceMethod ({ cls := "OneRingModel", name := "count", desc := "(I)I" } : Jvm.MethodName)) ∈ TT := tt_4 117 rfl rfl
theorem tw_3_118 : (Jvm.Cond.selects "OneRingModel" ({ cls := "OneRingModel", name := "count", desc := "(I)I" } : Jvm.MethodName) ({ cls := "OneRingModel", name := "count", desc := "(I)I" } : Jvm.MethodName)) ∈ TT := tt_4 118 rfl rfl
theorem tw_3_119 : (Jvm.Cond.code ({ cls := "OneRingModel", name := "count", desc := "(I)I" } : Jvm.MethodName) prog_8_method_63_code (4 : Nat) (Option.some Jvm.ClassFile.FieldType.int)) ∈ TT := tt_4 119 rfl rfl
theorem tw_3_120 : (Jvm.Cond.constantLong "OneRingLaw" (112 : Nat) (4294967295 : Int64)) ∈ TT := tt_4 120 rfl rfl
theorem tw_p_0 : Cond.selects "OneRing$Text" ⟨"OneRing$Text", "fits", "(I)Z"⟩ ⟨"OneRing$Text", "fits", "(I)Z"⟩ ∈ TT := tt_p (y := ⟨"OneRing$Text", "fits", "(I)Z"⟩) (n := 2) (List.mem_append_left _ (List.mem_of_getElem? (l := lw_privs_1) (i := 0) rfl)) rfl
theorem tw_p_1 : Cond.selects "OneRing$Text" ⟨"OneRing$Text", "fitsWedding", "(I)Z"⟩ ⟨"OneRing$Text", "fitsWedding", "(I)Z"⟩ ∈ TT := tt_p (y := ⟨"OneRing$Text", "fitsWedding", "(I)Z"⟩) (n := 2) (List.mem_append_left _ (List.mem_of_getElem? (l := lw_privs_1) (i := 1) rfl)) rfl
theorem tw_p_2 : Cond.selects "OneRing$Text" ⟨"OneRing$Text", "isFigure", "(III)Z"⟩ ⟨"OneRing$Text", "isFigure", "(III)Z"⟩ ∈ TT := tt_p (y := ⟨"OneRing$Text", "isFigure", "(III)Z"⟩) (n := 2) (List.mem_append_left _ (List.mem_of_getElem? (l := lw_privs_1) (i := 2) rfl)) rfl
theorem tw_p_3 : Cond.selects "OneRing$Acts" ⟨"OneRing$Acts", "standAt", "(I)LOneRing$Stand;"⟩ ⟨"OneRing$Acts", "standAt", "(I)LOneRing$Stand;"⟩ ∈ TT := tt_p (y := ⟨"OneRing$Acts", "standAt", "(I)LOneRing$Stand;"⟩) (n := 3) (List.mem_append_left _ (List.mem_of_getElem? (l := lw_privs_1) (i := 3) rfl)) rfl
theorem tw_p_4 : Cond.selects "OneRing$Search" ⟨"OneRing$Search", "allows", "(II)Z"⟩ ⟨"OneRing$Search", "allows", "(II)Z"⟩ ∈ TT := tt_p (y := ⟨"OneRing$Search", "allows", "(II)Z"⟩) (n := 10) (List.mem_append_left _ (List.mem_of_getElem? (l := lw_privs_1) (i := 4) rfl)) rfl
theorem tw_p_5 : Cond.selects "OneRing$Search" ⟨"OneRing$Search", "record", "(IIII)V"⟩ ⟨"OneRing$Search", "record", "(IIII)V"⟩ ∈ TT := tt_p (y := ⟨"OneRing$Search", "record", "(IIII)V"⟩) (n := 10) (List.mem_append_left _ (List.mem_of_getElem? (l := lw_privs_1) (i := 5) rfl)) rfl
theorem tw_p_6 : Cond.selects "OneRing" ⟨"OneRing", "mostFrom", "(LOneRing$Stand;)I"⟩ ⟨"OneRing", "mostFrom", "(LOneRing$Stand;)I"⟩ ∈ TT := tt_p (y := ⟨"OneRing", "mostFrom", "(LOneRing$Stand;)I"⟩) (n := 13) (List.mem_append_left _ (List.mem_of_getElem? (l := lw_privs_1) (i := 6) rfl)) rfl
theorem tw_p_7 : Cond.selects "OneRing" ⟨"OneRing", "fillMostOf", "()V"⟩ ⟨"OneRing", "fillMostOf", "()V"⟩ ∈ TT := tt_p (y := ⟨"OneRing", "fillMostOf", "()V"⟩) (n := 13) (List.mem_append_left _ (List.mem_of_getElem? (l := lw_privs_1) (i := 7) rfl)) rfl
theorem tw_p_8 : Cond.selects "OneRing" ⟨"OneRing", "isAtRest", "(IIII)Z"⟩ ⟨"OneRing", "isAtRest", "(IIII)Z"⟩ ∈ TT := tt_p (y := ⟨"OneRing", "isAtRest", "(IIII)Z"⟩) (n := 13) (List.mem_append_left _ (List.mem_of_getElem? (l := lw_privs_1) (i := 8) rfl)) rfl
theorem tw_p_9 : Cond.selects "OneRing" ⟨"OneRing", "gain", "(IIII)I"⟩ ⟨"OneRing", "gain", "(IIII)I"⟩ ∈ TT := tt_p (y := ⟨"OneRing", "gain", "(IIII)I"⟩) (n := 13) (List.mem_append_left _ (List.mem_of_getElem? (l := lw_privs_1) (i := 9) rfl)) rfl
theorem tw_p_10 : Cond.selects "OneRing" ⟨"OneRing", "isRowOfOpenWeddings", "(II)Z"⟩ ⟨"OneRing", "isRowOfOpenWeddings", "(II)Z"⟩ ∈ TT := tt_p (y := ⟨"OneRing", "isRowOfOpenWeddings", "(II)Z"⟩) (n := 13) (List.mem_append_left _ (List.mem_of_getElem? (l := lw_privs_1) (i := 10) rfl)) rfl
theorem tw_p_11 : Cond.selects "OneRing" ⟨"OneRing", "weightOfFalls", "(IIII)I"⟩ ⟨"OneRing", "weightOfFalls", "(IIII)I"⟩ ∈ TT := tt_p (y := ⟨"OneRing", "weightOfFalls", "(IIII)I"⟩) (n := 13) (List.mem_append_left _ (List.mem_of_getElem? (l := lw_privs_1) (i := 11) rfl)) rfl
theorem tw_p_12 : Cond.selects "OneRing" ⟨"OneRing", "holdsWithFalls", "(III)Z"⟩ ⟨"OneRing", "holdsWithFalls", "(III)Z"⟩ ∈ TT := tt_p (y := ⟨"OneRing", "holdsWithFalls", "(III)Z"⟩) (n := 13) (List.mem_append_left _ (List.mem_of_getElem? (l := lw_privs_1) (i := 12) rfl)) rfl
theorem tw_p_13 : Cond.selects "OneRing" ⟨"OneRing", "isSlot", "(I)Z"⟩ ⟨"OneRing", "isSlot", "(I)Z"⟩ ∈ TT := tt_p (y := ⟨"OneRing", "isSlot", "(I)Z"⟩) (n := 13) (List.mem_append_left _ (List.mem_of_getElem? (l := lw_privs_1) (i := 13) rfl)) rfl
theorem tw_p_14 : Cond.selects "OneRing" ⟨"OneRing", "holdingNext", "()I"⟩ ⟨"OneRing", "holdingNext", "()I"⟩ ∈ TT := tt_p (y := ⟨"OneRing", "holdingNext", "()I"⟩) (n := 13) (List.mem_append_left _ (List.mem_of_getElem? (l := lw_privs_1) (i := 14) rfl)) rfl
theorem tw_p_15 : Cond.selects "OneRingModel" ⟨"OneRingModel", "mayBe", "(I)Z"⟩ ⟨"OneRingModel", "mayBe", "(I)Z"⟩ ∈ TT := tt_p (y := ⟨"OneRingModel", "mayBe", "(I)Z"⟩) (n := 21) (List.mem_append_left _ (List.mem_of_getElem? (l := lw_privs_1) (i := 15) rfl)) rfl
theorem tw_p_16 : Cond.selects "OneRingModel" ⟨"OneRingModel", "isWedding", "(I)Z"⟩ ⟨"OneRingModel", "isWedding", "(I)Z"⟩ ∈ TT := tt_p (y := ⟨"OneRingModel", "isWedding", "(I)Z"⟩) (n := 21) (List.mem_append_right _ (List.mem_append_left _ (List.mem_of_getElem? (l := lw_privs_2) (i := 0) rfl))) rfl
theorem tw_p_17 : Cond.selects "OneRingModel" ⟨"OneRingModel", "beginsNow", "(II)I"⟩ ⟨"OneRingModel", "beginsNow", "(II)I"⟩ ∈ TT := tt_p (y := ⟨"OneRingModel", "beginsNow", "(II)I"⟩) (n := 21) (List.mem_append_right _ (List.mem_append_left _ (List.mem_of_getElem? (l := lw_privs_2) (i := 1) rfl))) rfl
theorem tw_p_18 : Cond.selects "OneRingModel" ⟨"OneRingModel", "begins", "(IIIII)I"⟩ ⟨"OneRingModel", "begins", "(IIIII)I"⟩ ∈ TT := tt_p (y := ⟨"OneRingModel", "begins", "(IIIII)I"⟩) (n := 21) (List.mem_append_right _ (List.mem_append_left _ (List.mem_of_getElem? (l := lw_privs_2) (i := 2) rfl))) rfl
theorem tw_p_19 : Cond.selects "OneRingModel" ⟨"OneRingModel", "wayOn", "(III)I"⟩ ⟨"OneRingModel", "wayOn", "(III)I"⟩ ∈ TT := tt_p (y := ⟨"OneRingModel", "wayOn", "(III)I"⟩) (n := 21) (List.mem_append_right _ (List.mem_append_left _ (List.mem_of_getElem? (l := lw_privs_2) (i := 3) rfl))) rfl
theorem tw_p_20 : Cond.selects "OneRingModel" ⟨"OneRingModel", "lasts", "(I)I"⟩ ⟨"OneRingModel", "lasts", "(I)I"⟩ ∈ TT := tt_p (y := ⟨"OneRingModel", "lasts", "(I)I"⟩) (n := 21) (List.mem_append_right _ (List.mem_append_left _ (List.mem_of_getElem? (l := lw_privs_2) (i := 4) rfl))) rfl
theorem tw_p_21 : Cond.selects "OneRingModel" ⟨"OneRingModel", "keepAct", "()V"⟩ ⟨"OneRingModel", "keepAct", "()V"⟩ ∈ TT := tt_p (y := ⟨"OneRingModel", "keepAct", "()V"⟩) (n := 21) (List.mem_append_right _ (List.mem_append_left _ (List.mem_of_getElem? (l := lw_privs_2) (i := 5) rfl))) rfl
theorem tw_p_22 : Cond.selects "OneRingModel" ⟨"OneRingModel", "wedOn", "(II)Z"⟩ ⟨"OneRingModel", "wedOn", "(II)Z"⟩ ∈ TT := tt_p (y := ⟨"OneRingModel", "wedOn", "(II)Z"⟩) (n := 21) (List.mem_append_right _ (List.mem_append_left _ (List.mem_of_getElem? (l := lw_privs_2) (i := 6) rfl))) rfl
theorem tw_p_23 : Cond.selects "OneRingModel" ⟨"OneRingModel", "behind", "(II)I"⟩ ⟨"OneRingModel", "behind", "(II)I"⟩ ∈ TT := tt_p (y := ⟨"OneRingModel", "behind", "(II)I"⟩) (n := 21) (List.mem_append_right _ (List.mem_append_left _ (List.mem_of_getElem? (l := lw_privs_2) (i := 7) rfl))) rfl
theorem tw_p_24 : Cond.selects "OneRingModel" ⟨"OneRingModel", "every", "()I"⟩ ⟨"OneRingModel", "every", "()I"⟩ ∈ TT := tt_p (y := ⟨"OneRingModel", "every", "()I"⟩) (n := 21) (List.mem_append_right _ (List.mem_append_left _ (List.mem_of_getElem? (l := lw_privs_2) (i := 8) rfl))) rfl
theorem tw_p_25 : Cond.selects "OneRingModel" ⟨"OneRingModel", "mostOn", "(II)I"⟩ ⟨"OneRingModel", "mostOn", "(II)I"⟩ ∈ TT := tt_p (y := ⟨"OneRingModel", "mostOn", "(II)I"⟩) (n := 21) (List.mem_append_right _ (List.mem_append_left _ (List.mem_of_getElem? (l := lw_privs_2) (i := 9) rfl))) rfl
theorem tw_p_26 : Cond.selects "OneRingModel" ⟨"OneRingModel", "noteEarlier", "(III)V"⟩ ⟨"OneRingModel", "noteEarlier", "(III)V"⟩ ∈ TT := tt_p (y := ⟨"OneRingModel", "noteEarlier", "(III)V"⟩) (n := 21) (List.mem_append_right _ (List.mem_append_left _ (List.mem_of_getElem? (l := lw_privs_2) (i := 10) rfl))) rfl
theorem tw_p_27 : Cond.selects "OneRingModel" ⟨"OneRingModel", "firstRow", "(I)I"⟩ ⟨"OneRingModel", "firstRow", "(I)I"⟩ ∈ TT := tt_p (y := ⟨"OneRingModel", "firstRow", "(I)I"⟩) (n := 21) (List.mem_append_right _ (List.mem_append_left _ (List.mem_of_getElem? (l := lw_privs_2) (i := 11) rfl))) rfl
theorem tw_p_28 : Cond.selects "OneRingModel" ⟨"OneRingModel", "goesOn", "(III)Z"⟩ ⟨"OneRingModel", "goesOn", "(III)Z"⟩ ∈ TT := tt_p (y := ⟨"OneRingModel", "goesOn", "(III)Z"⟩) (n := 21) (List.mem_append_right _ (List.mem_append_left _ (List.mem_of_getElem? (l := lw_privs_2) (i := 12) rfl))) rfl
theorem tw_p_29 : Cond.selects "OneRingModel" ⟨"OneRingModel", "layTrial", "()V"⟩ ⟨"OneRingModel", "layTrial", "()V"⟩ ∈ TT := tt_p (y := ⟨"OneRingModel", "layTrial", "()V"⟩) (n := 21) (List.mem_append_right _ (List.mem_append_left _ (List.mem_of_getElem? (l := lw_privs_2) (i := 13) rfl))) rfl
theorem tw_p_30 : Cond.selects "OneRingModel" ⟨"OneRingModel", "endOf", "(I)I"⟩ ⟨"OneRingModel", "endOf", "(I)I"⟩ ∈ TT := tt_p (y := ⟨"OneRingModel", "endOf", "(I)I"⟩) (n := 21) (List.mem_append_right _ (List.mem_append_left _ (List.mem_of_getElem? (l := lw_privs_2) (i := 14) rfl))) rfl
theorem tw_p_31 : Cond.selects "OneRingModel" ⟨"OneRingModel", "rowBy", "(II)I"⟩ ⟨"OneRingModel", "rowBy", "(II)I"⟩ ∈ TT := tt_p (y := ⟨"OneRingModel", "rowBy", "(II)I"⟩) (n := 21) (List.mem_append_right _ (List.mem_append_left _ (List.mem_of_getElem? (l := lw_privs_2) (i := 15) rfl))) rfl
theorem tw_p_32 : Cond.selects "OneRingModel" ⟨"OneRingModel", "isSeen", "(I)Z"⟩ ⟨"OneRingModel", "isSeen", "(I)Z"⟩ ∈ TT := tt_p (y := ⟨"OneRingModel", "isSeen", "(I)Z"⟩) (n := 21) (List.mem_append_right _ (List.mem_append_right _ (List.mem_of_getElem? (l := lw_privs_3) (i := 0) rfl))) rfl
theorem tw_p_33 : Cond.selects "OneRingModel" ⟨"OneRingModel", "isRest", "(IIII)Z"⟩ ⟨"OneRingModel", "isRest", "(IIII)Z"⟩ ∈ TT := tt_p (y := ⟨"OneRingModel", "isRest", "(IIII)Z"⟩) (n := 21) (List.mem_append_right _ (List.mem_append_right _ (List.mem_of_getElem? (l := lw_privs_3) (i := 1) rfl))) rfl
theorem tw_p_34 : Cond.selects "OneRingModel" ⟨"OneRingModel", "gain", "(IIII)I"⟩ ⟨"OneRingModel", "gain", "(IIII)I"⟩ ∈ TT := tt_p (y := ⟨"OneRingModel", "gain", "(IIII)I"⟩) (n := 21) (List.mem_append_right _ (List.mem_append_right _ (List.mem_of_getElem? (l := lw_privs_3) (i := 2) rfl))) rfl
theorem tw_p_35 : Cond.selects "OneRingModel" ⟨"OneRingModel", "bringsOf", "(I)I"⟩ ⟨"OneRingModel", "bringsOf", "(I)I"⟩ ∈ TT := tt_p (y := ⟨"OneRingModel", "bringsOf", "(I)I"⟩) (n := 21) (List.mem_append_right _ (List.mem_append_right _ (List.mem_of_getElem? (l := lw_privs_3) (i := 3) rfl))) rfl
theorem tw_p_36 : Cond.selects "OneRingModel" ⟨"OneRingModel", "areOpen", "(II)Z"⟩ ⟨"OneRingModel", "areOpen", "(II)Z"⟩ ∈ TT := tt_p (y := ⟨"OneRingModel", "areOpen", "(II)Z"⟩) (n := 21) (List.mem_append_right _ (List.mem_append_right _ (List.mem_of_getElem? (l := lw_privs_3) (i := 4) rfl))) rfl
theorem tw_p_37 : Cond.selects "OneRingModel" ⟨"OneRingModel", "waysIn", "(II)I"⟩ ⟨"OneRingModel", "waysIn", "(II)I"⟩ ∈ TT := tt_p (y := ⟨"OneRingModel", "waysIn", "(II)I"⟩) (n := 21) (List.mem_append_right _ (List.mem_append_right _ (List.mem_of_getElem? (l := lw_privs_3) (i := 5) rfl))) rfl
theorem tw_p_38 : Cond.selects "OneRingModel" ⟨"OneRingModel", "holds", "(III)Z"⟩ ⟨"OneRingModel", "holds", "(III)Z"⟩ ∈ TT := tt_p (y := ⟨"OneRingModel", "holds", "(III)Z"⟩) (n := 21) (List.mem_append_right _ (List.mem_append_right _ (List.mem_of_getElem? (l := lw_privs_3) (i := 6) rfl))) rfl
theorem inl_X0 : ∀ w ∈ u_ws RX0 TX0 3, w ∈ TT := List.forall_mem_cons.mpr ⟨tw_0_98, List.forall_mem_cons.mpr ⟨tw_0_100, List.forall_mem_cons.mpr ⟨tw_0_102, fun _ h => absurd h List.not_mem_nil⟩⟩⟩
theorem inl_X1 : ∀ w ∈ u_ws RX1 TX1 4, w ∈ TT := List.forall_mem_cons.mpr ⟨tw_0_47, List.forall_mem_cons.mpr ⟨tw_0_49, List.forall_mem_cons.mpr ⟨tw_0_51, List.forall_mem_cons.mpr ⟨tw_0_53, fun _ h => absurd h List.not_mem_nil⟩⟩⟩⟩
theorem inl_X2 : ∀ w ∈ u_ws RX2 TX2 10, w ∈ TT := List.forall_mem_cons.mpr ⟨tw_0_130, List.forall_mem_cons.mpr ⟨tw_0_132, List.forall_mem_cons.mpr ⟨tw_0_134, List.forall_mem_cons.mpr ⟨tw_0_136, List.forall_mem_cons.mpr ⟨tw_0_138, List.forall_mem_cons.mpr ⟨tw_0_140, List.forall_mem_cons.mpr ⟨tw_0_142, List.forall_mem_cons.mpr ⟨tw_0_144, List.forall_mem_cons.mpr ⟨tw_0_146, List.forall_mem_cons.mpr ⟨tw_0_148, fun _ h => absurd h List.not_mem_nil⟩⟩⟩⟩⟩⟩⟩⟩⟩⟩
theorem inl_X3 : ∀ w ∈ u_ws RX3 TX3 4, w ∈ TT := List.forall_mem_cons.mpr ⟨tw_0_76, List.forall_mem_cons.mpr ⟨tw_0_78, List.forall_mem_cons.mpr ⟨tw_0_80, List.forall_mem_cons.mpr ⟨tw_0_82, fun _ h => absurd h List.not_mem_nil⟩⟩⟩⟩
theorem inl_X4 : ∀ w ∈ u_ws RX4 TX4 2, w ∈ TT := List.forall_mem_cons.mpr ⟨tw_0_28, List.forall_mem_cons.mpr ⟨tw_0_30, fun _ h => absurd h List.not_mem_nil⟩⟩
theorem inl_X5 : ∀ w ∈ u_ws RX5 TX5 13, w ∈ TT := List.forall_mem_cons.mpr ⟨tw_0_164, List.forall_mem_cons.mpr ⟨tw_0_166, List.forall_mem_cons.mpr ⟨tw_0_168, List.forall_mem_cons.mpr ⟨tw_0_170, List.forall_mem_cons.mpr ⟨tw_0_172, List.forall_mem_cons.mpr ⟨tw_0_174, List.forall_mem_cons.mpr ⟨tw_0_176, List.forall_mem_cons.mpr ⟨tw_0_178, List.forall_mem_cons.mpr ⟨tw_0_180, List.forall_mem_cons.mpr ⟨tw_0_182, List.forall_mem_cons.mpr ⟨tw_0_184, List.forall_mem_cons.mpr ⟨tw_0_186, List.forall_mem_cons.mpr ⟨tw_0_188, fun _ h => absurd h List.not_mem_nil⟩⟩⟩⟩⟩⟩⟩⟩⟩⟩⟩⟩⟩
theorem inl_X6 : ∀ w ∈ u_ws RX6 TX6 21, w ∈ TT := List.forall_mem_cons.mpr ⟨tw_2_68, List.forall_mem_cons.mpr ⟨tw_2_70, List.forall_mem_cons.mpr ⟨tw_2_72, List.forall_mem_cons.mpr ⟨tw_2_74, List.forall_mem_cons.mpr ⟨tw_2_76, List.forall_mem_cons.mpr ⟨tw_2_78, List.forall_mem_cons.mpr ⟨tw_2_80, List.forall_mem_cons.mpr ⟨tw_2_82, List.forall_mem_cons.mpr ⟨tw_2_84, List.forall_mem_cons.mpr ⟨tw_2_86, List.forall_mem_cons.mpr ⟨tw_2_88, List.forall_mem_cons.mpr ⟨tw_2_90, List.forall_mem_cons.mpr ⟨tw_2_92, List.forall_mem_cons.mpr ⟨tw_2_94, List.forall_mem_cons.mpr ⟨tw_2_96, List.forall_mem_cons.mpr ⟨tw_2_98, List.forall_mem_cons.mpr ⟨tw_2_100, List.forall_mem_cons.mpr ⟨tw_2_102, List.forall_mem_cons.mpr ⟨tw_2_104, List.forall_mem_cons.mpr ⟨tw_2_106, List.forall_mem_cons.mpr ⟨tw_2_108, fun _ h => absurd h List.not_mem_nil⟩⟩⟩⟩⟩⟩⟩⟩⟩⟩⟩⟩⟩⟩⟩⟩⟩⟩⟩⟩⟩
end
section
/-! an abstract machine over the shape of heap that stands behind the constructors: refs are (kind, which one); all that changes are ints (and two longs) -/
abbrev AV : Type := Int32 ⊕ Int64 ⊕ Option (Nat × Nat)
abbrev aI (x : Int32) : AV := Sum.inl x
abbrev aL (x : Int64) : AV := Sum.inr (Sum.inl x)
abbrev aR (k i : Nat) : AV := Sum.inr (Sum.inr (some (k, i)))
abbrev aN : AV := Sum.inr (Sum.inr none)
abbrev AM : Type := Nat → Nat → Nat
def cv (al : AM) : AV → Value
  | .inl x => .int x
  | .inr (.inl x) => .long x
  | .inr (.inr (some q)) => .ref (al q.1 q.2)
  | .inr (.inr none) => .null
abbrev Wd : Type := (Nat → Nat → Nat → Int32) × (Nat → Int64)
abbrev XS : Type := Nat × (Nat → Int32)
abbrev MD : Type := MethodName × ByteArray × Nat × Option FieldType
def cntK : Nat → Nat
  | 3 => 19
  | 15 => 19
  | 7 => 0
  | 8 => 0
  | 9 => 0
  | k => if k < 36 then 1 else 0
def lenK (X : XS) : Nat → Nat
  | 10 => 48 | 11 => 30 | 12 => 6 | 13 => 7 | 14 => 64 | 15 => 5 | 16 => 6 | 17 => 6 | 18 => 64 | 19 => 2
  | 20 => 6 | 21 => 6 | 22 => 6 | 23 => 6 | 24 => 6 | 25 => 16 | 26 => 48 | 27 => 112 | 28 => 384 | 29 => 6
  | 30 => 6 | 31 => 64 | 32 => 16 | 33 => 2 | 34 => 2 | 35 => 14 | 40 => 7 | 41 => 7 | 42 => X.1 | _ => 0
def refK : Nat → Nat → Nat → Option (Nat × Nat)
  | 0, _, 0 => some (35, 0)
  | 1, _, 0 => some (11, 0) | 1, _, 1 => some (12, 0)
  | 2, _, 0 => some (3, 2) | 2, _, 1 => some (13, 0) | 2, _, 2 => some (14, 0)
  | 3, i, 0 => some (15, i)
  | 4, _, 0 => some (10, 0)
  | 5, _, 0 => some (4, 0) | 5, _, 1 => some (1, 0) | 5, _, 2 => some (3, 0) | 5, _, 3 => some (3, 1) | 5, _, 4 => some (0, 0) | 5, _, 5 => some (2, 0)
  | 5, _, 6 => some (34, 0) | 5, _, 7 => some (19, 0) | 5, _, 8 => some (16, 0) | 5, _, 9 => some (17, 0) | 5, _, 10 => some (18, 0)
  | 6, _, 2 => some (20, 0) | 6, _, 3 => some (21, 0) | 6, _, 4 => some (22, 0) | 6, _, 5 => some (23, 0) | 6, _, 6 => some (24, 0) | 6, _, 7 => some (25, 0) | 6, _, 8 => some (26, 0)
  | 6, _, 12 => some (27, 0) | 6, _, 13 => some (28, 0) | 6, _, 15 => some (29, 0) | 6, _, 16 => some (30, 0) | 6, _, 17 => some (31, 0) | 6, _, 19 => some (33, 0) | 6, _, 20 => some (32, 0)
  | _, _, _ => none
def lngK (k f : Nat) : Bool := (k == 5 && f == 12) || (k == 6 && f == 18)
def fldA (k i f : Nat) (w : Wd) : AV := match refK k i f with
  | some q => aR q.1 q.2
  | none => if lngK k f = true then aL (w.2 k) else aI (w.1 k i f)
def nFl : Nat → Nat
  | 0 => 3 | 1 => 4 | 2 => 10 | 3 => 4 | 4 => 2 | 5 => 13 | _ => 21
def RK : Nat → String
  | 0 => RX0 | 1 => RX1 | 2 => RX2 | 3 => RX3 | 4 => RX4 | 5 => RX5 | _ => RX6
def TK : Nat → u_T
  | 0 => TX0 | 1 => TX1 | 2 => TX2 | 3 => TX3 | 4 => TX4 | 5 => TX5 | _ => TX6
def tyK : Nat → Nat → FieldType
  | 0 => tyX0 | 1 => tyX1 | 2 => tyX2 | 3 => tyX3 | 4 => tyX4 | 5 => tyX5 | _ => tyX6
def cellA (X : XS) (al : AM) (cI cZ cS : ClassId) (w : Wd) (q : Nat × Nat) : va_E :=
  if q.1 < 7 then .inr (q.1, (List.range (nFl q.1)).map (fun f => cv al (fldA q.1 q.2 f w)))
  else if q.1 = 34 then .inl (cS, 2, .inr (.inr (.inr (.inr (fun j => some (al 3 (3 + j)))))))
  else if q.1 = 35 then .inl (cS, 14, .inr (.inr (.inr (.inr (fun j => some (al 3 (5 + j)))))))
  else if q.1 = 19 ∨ q.1 = 33 then .inl (cZ, lenK X q.1, .inl (w.1 q.1 q.2))
  else .inl (cI, lenK X q.1, .inl (w.1 q.1 q.2))
def keysA : List (Nat × Nat) := (List.range 36).flatMap fun k => (List.range (cntK k)).map fun i => (k, i)
def keysN : List Nat := keysA.map fun q => q.1 * 100 + q.2
theorem keys_nd : va_nd keysN = true := by decide +kernel
theorem keys_small : keysA.all (fun q => decide (q.2 < 100)) = true := by decide +kernel
theorem keys_in {k i : Nat} (h : i < cntK k) : ∃ p : Nat, keysA[p]? = some (k, i) := by
  have hk : k < 36 := by
    apply Nat.lt_of_not_le
    intro h36
    unfold cntK at h
    split at h <;> first | omega | (rw [if_neg (by omega)] at h; omega)
  have hm : (k, i) ∈ keysA := List.mem_flatMap.mpr ⟨k, List.mem_range.mpr hk, List.mem_map.mpr ⟨i, List.mem_range.mpr h, rfl⟩⟩
  exact List.getElem?_of_mem hm
theorem keys_inj {a b : Nat} {q : Nat × Nat} (ha : keysA[a]? = some q) (hb : keysA[b]? = some q) : a = b :=
  va_nd_inj keysN keys_nd a b (q.1 * 100 + q.2) (by rw [keysN, List.getElem?_map, ha]; rfl) (by rw [keysN, List.getElem?_map, hb]; rfl)
def wsA (X : XS) (al : AM) (cI cZ cS : ClassId) (w : Wd) : va_W := keysA.map fun q => (al q.1 q.2, cellA X al cI cZ cS w q)
def PA (X : XS) (al : AM) (D : va_G) (cI cZ cS : ClassId) (w : Wd) (H : Heap) : Prop := va_P D vwCl (wsA X al cI cZ cS w) H
def DA (al : AM) (lo : Nat) : Prop := (∀ (a b : Nat) (p q : Nat × Nat), keysA[a]? = some p → keysA[b]? = some q → al p.1 p.2 = al q.1 q.2 → a = b) ∧ ∀ q ∈ keysA, lo ≤ al q.1 q.2
def tensA : Nat → Int32
  | 0 => 1 | 1 => 10 | 2 => 100 | 3 => 1000 | 4 => 10000 | 5 => 100000 | _ => 1000000
def facsA : Nat → Int32
  | 0 => 1 | 1 => 1 | 2 => 2 | 3 => 6 | 4 => 24 | 5 => 120 | _ => 720
/-- the links to 'at' from the classes inside -/
def nestsA : List (String × Nat × MethodName) := [(RX4, 19, yX5_at), (RX3, 25, yX5_at), (RX1, 42, yX5_at), (RX2, 73, yX5_at)]
def EA (X : XS) (al : AM) (D : va_G) (cI cZ cS : ClassId) (lo : Nat) (s : State) : Prop :=
  va_K D vwCl [(cI, .int), (cZ, .boolean), (cS, .object RX3)] s ∧ DA al lo ∧
  (va_T .int (al 40 0) 7 (fun j => .int (tensA j)) (fun q => lo ≤ q) s s.heap ∧ va_T .int (al 41 0) 7 (fun j => .int (facsA j)) (fun q => lo ≤ q) s s.heap ∧ va_T .int (al 42 0) X.1 (fun j => .int (X.2 j)) (fun q => lo ≤ q) s s.heap) ∧
  va_Z RX5 "TENS" "[I" (.ref (al 40 0)) (fun q => lo ≤ q) s s.heap ∧ va_Z RX5 "FACTORIALS" "[I" (.ref (al 41 0)) (fun q => lo ≤ q) s s.heap ∧ ∀ q ∈ nestsA, va_Nw (.methodLinkNest q.1 q.2.1 q.2.2 RX5) s
def CT (d : Nat) (M : MD) (p : Program) (R : Room) (s : State) (m : MethodId) (args : Array Value) (meth : Method) (c : Code) : Prop :=
  p.tables.exec = Jvm.exec ∧ c.code = M.2.1 ∧ c.maxLocals = M.2.2.1 ∧ s.vm.findClass M.1.cls = some m.cls ∧ (∀ w ∈ TT, w.before args s = true) ∧ meth.locks = false ∧ meth.sig.returnType = M.2.2.2 ∧ d ≤ R.frames ∧ 40 * d ≤ R.locals
def LA (al : AM) (la : Array Slot) (n : Nat) (ls : List (Option AV)) : Prop := la.size = n ∧ lv_wf la ∧ ∀ (i : Nat) (a : AV), ls[i]? = some (some a) → la[i]? = some (.val (cv al a))
def RI (M : MD) (pc : Nat) (r : Option AV) : Prop := match r with
  | none => decode M.2.1 pc = .ok (.return_, 1) ∧ M.2.2.2 = none
  | some (.inl x) => decode M.2.1 pc = .ok (.ireturn, 1) ∧ ∃ ty, M.2.2.2 = some ty ∧ narrow ty (.int x) = .int x
  | some (.inr (.inl _)) => decode M.2.1 pc = .ok (.lreturn, 1) ∧ M.2.2.2 = some .long
  | some (.inr (.inr _)) => decode M.2.1 pc = .ok (.areturn, 1) ∧ ∃ rt, M.2.2.2 = some rt ∧ ((∃ n, rt = .object n) ∨ ∃ t, rt = .array t)
/-- from here (a place in a method, its variables, its stack, the world) the method comes to its end, with an answer and a world that Q holds of; d: so many calls may stand open in it -/
def AW (d : Nat) (X : XS) (M : MD) (pc : Nat) (ls : List (Option AV)) (st : List AV) (w : Wd) (Q : Option AV → Wd → Prop) : Prop :=
  ∀ (al : AM) (D : va_G) (cI cZ cS : ClassId) (lo : Nat) (p : Program) (l : Launch) (e : Env) (R : Room) (s : State) (m : MethodId) (args : Array Value) (below : List Frame) (meth : Method) (c : Code) (H : Heap) (locs : List Loc) (cells slots : Nat) (la : Array Slot) (Z : State → Prop),
    CT d M p R s m args meth c → EA X al D cI cZ cS lo s → cells ≤ R.cells → slots ≤ R.slots → PA X al D cI cZ cS w H → va_S (fun q => lo ≤ q) s.heap H locs → LA al la M.2.2.1 ls →
    (∀ (r : Option AV) (w' : Wd) (H' : Heap) (locs' : List Loc) (la' : Array Slot) (pc' : Nat), Q r w' → RI M pc' r → PA X al D cI cZ cS w' H' → va_S (fun q => lo ≤ q) s.heap H' locs' → W p l e R s m args below meth c H' locs' cells slots Z (F0 m pc' la' (r.toList.map (cv al)))) →
    W p l e R s m args below meth c H locs cells slots Z (F0 m pc la (st.map (cv al)))
/-! the world's cells, by key -/
theorem wsA_at {X : XS} {al : AM} {cI cZ cS : ClassId} {w : Wd} {p : Nat} {q : Nat × Nat} (h : keysA[p]? = some q) : (wsA X al cI cZ cS w)[p]? = some (al q.1 q.2, cellA X al cI cZ cS w q) := by
  rw [wsA, List.getElem?_map, h]; rfl
theorem wsA_set {X : XS} {al : AM} {cI cZ cS : ClassId} {w w' : Wd} {p : Nat} {q : Nat × Nat} (h : keysA[p]? = some q) (hw : ∀ q' ∈ keysA, q' ≠ q → cellA X al cI cZ cS w' q' = cellA X al cI cZ cS w q') : (wsA X al cI cZ cS w).set p (al q.1 q.2, cellA X al cI cZ cS w' q) = wsA X al cI cZ cS w' := by
  apply List.ext_getElem?
  intro n
  by_cases hn : n = p
  · subst hn
    have hl : n < (wsA X al cI cZ cS w).length := by rw [wsA, List.length_map]; exact (List.getElem?_eq_some_iff.mp h).1
    rw [List.getElem?_set_self hl, wsA_at h]
  · rw [List.getElem?_set_ne (Ne.symm hn), wsA, wsA, List.getElem?_map, List.getElem?_map]
    cases hk : keysA[n]? with
    | none => rfl
    | some q' =>
      have hq : q' ≠ q := fun z => hn (keys_inj (z ▸ hk) h)
      simp only [Option.map_some, hw q' (List.mem_of_getElem? hk) hq]
theorem wsA_D {X : XS} {al : AM} {cI cZ cS : ClassId} {w : Wd} {lo : Nat} (h : DA al lo) : va_D (fun q => lo ≤ q) (wsA X al cI cZ cS w) := by
  refine ⟨fun i j p q hi hj hpq => ?_, fun k q hk => ?_⟩
  · rw [wsA, List.getElem?_map] at hi hj
    cases hi' : keysA[i]? with
    | none => rw [hi'] at hi; cases hi
    | some a =>
      cases hj' : keysA[j]? with
      | none => rw [hj'] at hj; cases hj
      | some b =>
        rw [hi'] at hi; rw [hj'] at hj
        cases hi; cases hj
        exact h.1 i j a b hi' hj' hpq
  · rw [wsA, List.getElem?_map] at hk
    cases hk' : keysA[k]? with
    | none => rw [hk'] at hk; cases hk
    | some a =>
      rw [hk'] at hk
      cases hk
      exact h.2 a (List.mem_of_getElem? hk')
/-- one int of the world, anew -/
def wS (w : Wd) (k i j : Nat) (x : Int32) : Wd := (fun k' i' => if k' = k ∧ i' = i then (fun j' => if j' = j then x else w.1 k i j') else w.1 k' i', w.2)
def wL (w : Wd) (k : Nat) (x : Int64) : Wd := (w.1, fun k' => if k' = k then x else w.2 k')
theorem wS_same {w : Wd} {k i j : Nat} {x : Int32} : (wS w k i j x).1 k i = fun j' => if j' = j then x else w.1 k i j' := by simp [wS]
theorem wS_off {w : Wd} {k i j : Nat} {x : Int32} {k' i' : Nat} (h : ¬ (k' = k ∧ i' = i)) : (wS w k i j x).1 k' i' = w.1 k' i' := by simp only [wS, if_neg h]
theorem vw_at : ∀ k, k < 7 → vwCl[k]? = some (RK k, TK k, nFl k)
  | 0, _ => rfl | 1, _ => rfl | 2, _ => rfl | 3, _ => rfl | 4, _ => rfl | 5, _ => rfl | 6, _ => rfl
  | n + 7, h => absurd h (by omega)
theorem inl_at : ∀ k, k < 7 → ∀ w ∈ u_ws (RK k) (TK k) (nFl k), w ∈ TT
  | 0, _ => inl_X0 | 1, _ => inl_X1 | 2, _ => inl_X2 | 3, _ => inl_X3 | 4, _ => inl_X4 | 5, _ => inl_X5 | 6, _ => inl_X6
  | n + 7, h => absurd h (by omega)
theorem ty_at : ∀ k, k < 7 → ∀ f, f < nFl k → parseFieldDescriptor (TK k f).2.2.1 = some (tyK k f)
  | 0, _ => tyX0_ok | 1, _ => tyX1_ok | 2, _ => tyX2_ok | 3, _ => tyX3_ok | 4, _ => tyX4_ok | 5, _ => tyX5_ok | 6, _ => tyX6_ok
  | n + 7, h => absurd h (by omega)
theorem nm_at : ∀ k, k < 7 → ∀ a, a < nFl k → ∀ b, b < nFl k → a ≠ b → (TK k a).2.1 ≠ (TK k b).2.1
  | 0, _ => nmX0 | 1, _ => nmX1 | 2, _ => nmX2 | 3, _ => nmX3 | 4, _ => nmX4 | 5, _ => nmX5 | 6, _ => nmX6
  | n + 7, h => absurd h (by omega)
theorem k_lt {k i : Nat} (h : i < cntK k) : k < 36 := by
  apply Nat.lt_of_not_le
  intro h36
  unfold cntK at h
  split at h <;> first | omega | (rw [if_neg (by omega)] at h; omega)
theorem cellA_obj {X : XS} {al : AM} {cI cZ cS : ClassId} {w : Wd} {k i : Nat} (hk : k < 7) : cellA X al cI cZ cS w (k, i) = .inr (k, (List.range (nFl k)).map (fun f => cv al (fldA k i f w))) := by
  unfold cellA; rw [if_pos hk]
/-- arrays of ints (and of booleans) among the kinds -/
def intK (k : Nat) : Bool := decide (10 ≤ k) && decide (k < 34) && !(k == 19) && !(k == 33)
def bolK (k : Nat) : Bool := k == 19 || k == 33
theorem cellA_int {X : XS} {al : AM} {cI cZ cS : ClassId} {w : Wd} {k i : Nat} (hk : intK k = true) : cellA X al cI cZ cS w (k, i) = .inl (cI, lenK X k, .inl (w.1 k i)) := by
  simp only [intK, Bool.and_eq_true, decide_eq_true_eq, Bool.not_eq_true', beq_eq_false_iff_ne, ne_eq] at hk
  obtain ⟨⟨⟨h1, h2⟩, h3⟩, h4⟩ := hk
  unfold cellA
  rw [if_neg (by show ¬ k < 7; omega), if_neg (by show ¬ k = 34; omega), if_neg (by show ¬ k = 35; omega), if_neg (by show ¬ (k = 19 ∨ k = 33); omega)]
theorem cellA_bol {X : XS} {al : AM} {cI cZ cS : ClassId} {w : Wd} {k i : Nat} (hk : bolK k = true) : cellA X al cI cZ cS w (k, i) = .inl (cZ, lenK X k, .inl (w.1 k i)) := by
  simp only [bolK, Bool.or_eq_true, beq_iff_eq] at hk
  unfold cellA
  rw [if_neg (by show ¬ k < 7; omega), if_neg (by show ¬ k = 34; omega), if_neg (by show ¬ k = 35; omega), if_pos (by show k = 19 ∨ k = 33; omega)]
/-- a cell whose ints and long stay -/
theorem cellA_off {X : XS} {al : AM} {cI cZ cS : ClassId} {w w' : Wd} {q : Nat × Nat} (hI : w'.1 q.1 q.2 = w.1 q.1 q.2) (hL : w'.2 q.1 = w.2 q.1) : cellA X al cI cZ cS w' q = cellA X al cI cZ cS w q := by
  unfold cellA
  simp only [hI]
  have hf : ∀ f, fldA q.1 q.2 f w' = fldA q.1 q.2 f w := fun f => by
    unfold fldA
    cases refK q.1 q.2 f with
    | some _ => rfl
    | none => simp only [hI, hL]
  simp only [hf]
theorem keys_lt {q : Nat × Nat} (h : q ∈ keysA) : q.2 < cntK q.1 := by
  obtain ⟨k, -, h2⟩ := List.mem_flatMap.mp h
  obtain ⟨i, h3, rfl⟩ := List.mem_map.mp h2
  exact List.mem_range.mp h3
/-! locals -/
def ascA (al : AM) (ls : List (Option AV)) : List (Nat × Value) := (List.range ls.length).filterMap fun j => match ls[j]? with
  | some (some a) => some (j, cv al a)
  | _ => none
theorem ascA_mem {al : AM} {ls : List (Option AV)} {j : Nat} {v : Value} : (j, v) ∈ ascA al ls ↔ ∃ a, ls[j]? = some (some a) ∧ v = cv al a := by
  unfold ascA
  constructor
  · intro h
    obtain ⟨j', -, h2⟩ := List.mem_filterMap.mp h
    split at h2
    next a ha => cases h2; exact ⟨a, ha, rfl⟩
    next => cases h2
  · rintro ⟨a, h, rfl⟩
    refine List.mem_filterMap.mpr ⟨j, List.mem_range.mpr (List.getElem?_eq_some_iff.mp h).1, ?_⟩
    rw [h]
theorem LA.has {al : AM} {la : Array Slot} {n : Nat} {ls : List (Option AV)} (h : LA al la n ls) : lv_has la n (ascA al ls) := ⟨h.1, h.2.1, fun q hq => by
  obtain ⟨a, h1, h2⟩ := ascA_mem.mp (show (q.1, q.2) ∈ ascA al ls from hq)
  rw [h2]; exact h.2.2 _ _ h1⟩
theorem LA.at {al : AM} {la : Array Slot} {n : Nat} {ls : List (Option AV)} (h : LA al la n ls) {i : Nat} {a : AV} (hi : ls[i]? = some (some a)) : la[i]? = some (.val (cv al a)) := h.2.2 i a hi
/-- no long ends at this place -/
def nlL (ls : List (Option AV)) : Nat → Bool
  | 0 => true
  | i + 1 => match ls[i]? with
    | some (some (.inr (.inl _))) => false
    | _ => true
theorem cv_cat {al : AM} {a : AV} : (cv al a).category = 2 → ∃ x, a = aL x := by
  intro h
  match a, h with
  | .inl _, h => exact absurd h (by show ¬ (1 : Nat) = 2; omega)
  | .inr (.inl x), _ => exact ⟨x, rfl⟩
  | .inr (.inr (some _)), h => exact absurd h (by show ¬ (1 : Nat) = 2; omega)
  | .inr (.inr none), h => exact absurd h (by show ¬ (1 : Nat) = 2; omega)
theorem LA.put {al : AM} {la' : Array Slot} {n i : Nat} {ls : List (Option AV)} {v : AV} (hl : nlL ls i = true) (h : lv_has la' n ((i, cv al v) :: (ascA al ls).filter (fun q => !(q.1 == i) && !(q.1 + 1 == i && q.2.category == 2)))) : LA al la' n (ls.set i (some v)) := by
  refine ⟨h.1, h.2.1, fun j a hj => ?_⟩
  by_cases hji : j = i
  · subst hji
    have hlt := (List.getElem?_eq_some_iff.mp hj).1
    rw [List.length_set] at hlt
    rw [List.getElem?_set_self hlt] at hj
    cases hj
    exact h.2.2 (j, cv al v) List.mem_cons_self
  · rw [List.getElem?_set_ne (Ne.symm hji)] at hj
    refine h.2.2 (j, cv al a) (List.mem_cons_of_mem _ (List.mem_filter.mpr ⟨ascA_mem.mpr ⟨a, hj, rfl⟩, ?_⟩))
    simp only [Bool.and_eq_true, Bool.not_eq_true', beq_eq_false_iff_ne, ne_eq, Bool.and_eq_false_iff]
    refine ⟨hji, ?_⟩
    by_cases hj1 : j + 1 = i
    · refine Or.inr (fun hc => ?_)
      obtain ⟨x, rfl⟩ := cv_cat hc
      subst hj1
      simp only [nlL, hj] at hl
      cases hl
    · exact Or.inl hj1
theorem LA.put2 {al : AM} {la' : Array Slot} {n i : Nat} {ls : List (Option AV)} {x : Int64} (hl : nlL ls i = true) (h : lv_has la' n ((i, Value.long x) :: (ascA al ls).filter (fun q => !(q.1 == i) && (!(q.1 == i + 1) && !(q.1 + 1 == i && q.2.category == 2))))) : LA al la' n ((ls.set i (some (aL x))).set (i + 1) none) := by
  refine ⟨h.1, h.2.1, fun j a hj => ?_⟩
  by_cases hj2 : j = i + 1
  · subst hj2
    have hlt := (List.getElem?_eq_some_iff.mp hj).1
    rw [List.length_set] at hlt
    rw [List.getElem?_set_self hlt] at hj
    cases hj
  · rw [List.getElem?_set_ne (Ne.symm hj2)] at hj
    by_cases hji : j = i
    · subst hji
      have hlt := (List.getElem?_eq_some_iff.mp hj).1
      rw [List.length_set] at hlt
      rw [List.getElem?_set_self hlt] at hj
      cases hj
      exact h.2.2 (j, .long x) List.mem_cons_self
    · rw [List.getElem?_set_ne (Ne.symm hji)] at hj
      refine h.2.2 (j, cv al a) (List.mem_cons_of_mem _ (List.mem_filter.mpr ⟨ascA_mem.mpr ⟨a, hj, rfl⟩, ?_⟩))
      simp only [Bool.and_eq_true, Bool.not_eq_true', beq_eq_false_iff_ne, ne_eq, Bool.and_eq_false_iff]
      refine ⟨hji, hj2, ?_⟩
      by_cases hj1 : j + 1 = i
      · refine Or.inr (fun hc => ?_)
        obtain ⟨x, rfl⟩ := cv_cat hc
        subst hj1
        simp only [nlL, hj] at hl
        cases hl
      · exact Or.inl hj1

section AWR
variable {d : Nat} {X : XS} {M : MD} {pc pc' : Nat} {ls : List (Option AV)} {st : List AV} {w : Wd} {Q : Option AV → Wd → Prop}
theorem aw_iconst {n : Int} {v : Int32} (h : decode M.2.1 pc = .ok (.iconst n, 1) ∧ pc + 1 = pc') (hv : Int32.ofInt n = v) (K : AW d X M pc' ls (aI v :: st) w Q) : AW d X M pc ls (st) w Q := by
  intro al D cI cZ cS lo p l e R s m args below meth c H locs cells slots la Z hC hE hce hsl hP hS hl hZ
  obtain ⟨hx, hb, hml, hown, hts, hlk, hrt, hdf, hdl⟩ := id hC
  obtain ⟨hd, rfl⟩ := h
  exact lv_iconst hx hb hd hv (K al D cI cZ cS lo p l e R s m args below meth c H locs cells slots la Z hC hE hce hsl hP hS hl hZ)
theorem aw_bipush {n : Int} {v : Int32} (h : decode M.2.1 pc = .ok (.bipush n, 2) ∧ pc + 2 = pc') (hv : (Int8.ofInt n).toInt32 = v) (K : AW d X M pc' ls (aI v :: st) w Q) : AW d X M pc ls (st) w Q := by
  intro al D cI cZ cS lo p l e R s m args below meth c H locs cells slots la Z hC hE hce hsl hP hS hl hZ
  obtain ⟨hx, hb, hml, hown, hts, hlk, hrt, hdf, hdl⟩ := id hC
  obtain ⟨hd, rfl⟩ := h
  exact lv_bipush hx hb hd hv (K al D cI cZ cS lo p l e R s m args below meth c H locs cells slots la Z hC hE hce hsl hP hS hl hZ)
theorem aw_sipush {n : Int} {v : Int32} (h : decode M.2.1 pc = .ok (.sipush n, 3) ∧ pc + 3 = pc') (hv : (Int16.ofInt n).toInt32 = v) (K : AW d X M pc' ls (aI v :: st) w Q) : AW d X M pc ls (st) w Q := by
  intro al D cI cZ cS lo p l e R s m args below meth c H locs cells slots la Z hC hE hce hsl hP hS hl hZ
  obtain ⟨hx, hb, hml, hown, hts, hlk, hrt, hdf, hdl⟩ := id hC
  obtain ⟨hd, rfl⟩ := h
  exact lv_sipush hx hb hd hv (K al D cI cZ cS lo p l e R s m args below meth c H locs cells slots la Z hC hE hce hsl hP hS hl hZ)
theorem aw_lconst {n : Fin 2} {v : Int64} (h : decode M.2.1 pc = .ok (.lconst n, 1) ∧ pc + 1 = pc') (hv : Int64.ofNat (n : Nat) = v) (K : AW d X M pc' ls (aL v :: st) w Q) : AW d X M pc ls (st) w Q := by
  intro al D cI cZ cS lo p l e R s m args below meth c H locs cells slots la Z hC hE hce hsl hP hS hl hZ
  obtain ⟨hx, hb, hml, hown, hts, hlk, hrt, hdf, hdl⟩ := id hC
  obtain ⟨hd, rfl⟩ := h
  exact lv_lconst hx hb hd hv (K al D cI cZ cS lo p l e R s m args below meth c H locs cells slots la Z hC hE hce hsl hP hS hl hZ)
theorem aw_null  (h : decode M.2.1 pc = .ok (.aconst_null, 1) ∧ pc + 1 = pc') (K : AW d X M pc' ls (aN :: st) w Q) : AW d X M pc ls (st) w Q := by
  intro al D cI cZ cS lo p l e R s m args below meth c H locs cells slots la Z hC hE hce hsl hP hS hl hZ
  obtain ⟨hx, hb, hml, hown, hts, hlk, hrt, hdf, hdl⟩ := id hC
  obtain ⟨hd, rfl⟩ := h
  exact lv_null hx hb hd  (K al D cI cZ cS lo p l e R s m args below meth c H locs cells slots la Z hC hE hce hsl hP hS hl hZ)
theorem aw_iload_n {k : Fin 4} {x : Int32} (h : decode M.2.1 pc = .ok (.iload_n k, 1) ∧ pc + 1 = pc') (hl0 : ls[(k : Nat)]? = some (some (aI x))) (K : AW d X M pc' ls (aI x :: st) w Q) : AW d X M pc ls (st) w Q := by
  intro al D cI cZ cS lo p l e R s m args below meth c H locs cells slots la Z hC hE hce hsl hP hS hl hZ
  obtain ⟨hx, hb, hml, hown, hts, hlk, hrt, hdf, hdl⟩ := id hC
  obtain ⟨hd, rfl⟩ := h
  exact lv_iload_n hx hb hd rfl (hl.at hl0) (K al D cI cZ cS lo p l e R s m args below meth c H locs cells slots la Z hC hE hce hsl hP hS hl hZ)
theorem aw_iload {i : Nat} {x : Int32} (h : decode M.2.1 pc = .ok (.iload i, 2) ∧ pc + 2 = pc') (hl0 : ls[i]? = some (some (aI x))) (K : AW d X M pc' ls (aI x :: st) w Q) : AW d X M pc ls (st) w Q := by
  intro al D cI cZ cS lo p l e R s m args below meth c H locs cells slots la Z hC hE hce hsl hP hS hl hZ
  obtain ⟨hx, hb, hml, hown, hts, hlk, hrt, hdf, hdl⟩ := id hC
  obtain ⟨hd, rfl⟩ := h
  exact lv_iload hx hb hd (hl.at hl0) (K al D cI cZ cS lo p l e R s m args below meth c H locs cells slots la Z hC hE hce hsl hP hS hl hZ)
theorem aw_lload_n {k : Fin 4} {x : Int64} (h : decode M.2.1 pc = .ok (.lload_n k, 1) ∧ pc + 1 = pc') (hl0 : ls[(k : Nat)]? = some (some (aL x))) (K : AW d X M pc' ls (aL x :: st) w Q) : AW d X M pc ls (st) w Q := by
  intro al D cI cZ cS lo p l e R s m args below meth c H locs cells slots la Z hC hE hce hsl hP hS hl hZ
  obtain ⟨hx, hb, hml, hown, hts, hlk, hrt, hdf, hdl⟩ := id hC
  obtain ⟨hd, rfl⟩ := h
  exact lv_lload_n hx hb hd rfl (hl.at hl0) (K al D cI cZ cS lo p l e R s m args below meth c H locs cells slots la Z hC hE hce hsl hP hS hl hZ)
theorem aw_lload {i : Nat} {x : Int64} (h : decode M.2.1 pc = .ok (.lload i, 2) ∧ pc + 2 = pc') (hl0 : ls[i]? = some (some (aL x))) (K : AW d X M pc' ls (aL x :: st) w Q) : AW d X M pc ls (st) w Q := by
  intro al D cI cZ cS lo p l e R s m args below meth c H locs cells slots la Z hC hE hce hsl hP hS hl hZ
  obtain ⟨hx, hb, hml, hown, hts, hlk, hrt, hdf, hdl⟩ := id hC
  obtain ⟨hd, rfl⟩ := h
  exact lv_lload hx hb hd (hl.at hl0) (K al D cI cZ cS lo p l e R s m args below meth c H locs cells slots la Z hC hE hce hsl hP hS hl hZ)
theorem aw_aload_n {k : Fin 4} {a b : Nat} (h : decode M.2.1 pc = .ok (.aload_n k, 1) ∧ pc + 1 = pc') (hl0 : ls[(k : Nat)]? = some (some (aR a b))) (K : AW d X M pc' ls (aR a b :: st) w Q) : AW d X M pc ls (st) w Q := by
  intro al D cI cZ cS lo p l e R s m args below meth c H locs cells slots la Z hC hE hce hsl hP hS hl hZ
  obtain ⟨hx, hb, hml, hown, hts, hlk, hrt, hdf, hdl⟩ := id hC
  obtain ⟨hd, rfl⟩ := h
  exact lv_aload_n hx hb hd rfl (hl.at hl0) (K al D cI cZ cS lo p l e R s m args below meth c H locs cells slots la Z hC hE hce hsl hP hS hl hZ)
theorem aw_istore_n {k : Fin 4} {x : Int32} (h : decode M.2.1 pc = .ok (.istore_n k, 1) ∧ pc + 1 = pc') (hn : (k : Nat) < M.2.2.1) (hnl : nlL ls (k : Nat) = true) (K : AW d X M pc' (ls.set (k : Nat) (some (aI x))) st w Q) : AW d X M pc ls (aI x :: st) w Q := by
  intro al D cI cZ cS lo p l e R s m args below meth c H locs cells slots la Z hC hE hce hsl hP hS hl hZ
  obtain ⟨hx, hb, hml, hown, hts, hlk, hrt, hdf, hdl⟩ := id hC
  obtain ⟨hd, rfl⟩ := h
  exact lv_istore_n hx hb hd rfl hl.has hn rfl (fun la' hl' => K al D cI cZ cS lo p l e R s m args below meth c H locs cells slots la' Z hC hE hce hsl hP hS (LA.put hnl hl') hZ)
theorem aw_istore {i : Nat} {x : Int32} (h : decode M.2.1 pc = .ok (.istore i, 2) ∧ pc + 2 = pc') (hn : i < M.2.2.1) (hnl : nlL ls i = true) (K : AW d X M pc' (ls.set i (some (aI x))) st w Q) : AW d X M pc ls (aI x :: st) w Q := by
  intro al D cI cZ cS lo p l e R s m args below meth c H locs cells slots la Z hC hE hce hsl hP hS hl hZ
  obtain ⟨hx, hb, hml, hown, hts, hlk, hrt, hdf, hdl⟩ := id hC
  obtain ⟨hd, rfl⟩ := h
  exact lv_istore hx hb hd hl.has hn rfl (fun la' hl' => K al D cI cZ cS lo p l e R s m args below meth c H locs cells slots la' Z hC hE hce hsl hP hS (LA.put hnl hl') hZ)
theorem aw_lstore_n {k : Fin 4} {x : Int64} (h : decode M.2.1 pc = .ok (.lstore_n k, 1) ∧ pc + 1 = pc') (hn : (k : Nat) + 1 < M.2.2.1) (hnl : nlL ls (k : Nat) = true) (K : AW d X M pc' ((ls.set (k : Nat) (some (aL x))).set ((k : Nat) + 1) none) st w Q) : AW d X M pc ls (aL x :: st) w Q := by
  intro al D cI cZ cS lo p l e R s m args below meth c H locs cells slots la Z hC hE hce hsl hP hS hl hZ
  obtain ⟨hx, hb, hml, hown, hts, hlk, hrt, hdf, hdl⟩ := id hC
  obtain ⟨hd, rfl⟩ := h
  exact lv_lstore_n hx hb hd rfl hl.has hn rfl (fun la' hl' => K al D cI cZ cS lo p l e R s m args below meth c H locs cells slots la' Z hC hE hce hsl hP hS (LA.put2 hnl hl') hZ)
theorem aw_astore_n {k : Fin 4} {a b : Nat} (h : decode M.2.1 pc = .ok (.astore_n k, 1) ∧ pc + 1 = pc') (hn : (k : Nat) < M.2.2.1) (hnl : nlL ls (k : Nat) = true) (K : AW d X M pc' (ls.set (k : Nat) (some (aR a b))) st w Q) : AW d X M pc ls (aR a b :: st) w Q := by
  intro al D cI cZ cS lo p l e R s m args below meth c H locs cells slots la Z hC hE hce hsl hP hS hl hZ
  obtain ⟨hx, hb, hml, hown, hts, hlk, hrt, hdf, hdl⟩ := id hC
  obtain ⟨hd, rfl⟩ := h
  exact lv_astore_n hx hb hd rfl hl.has hn rfl (fun la' hl' => K al D cI cZ cS lo p l e R s m args below meth c H locs cells slots la' Z hC hE hce hsl hP hS (LA.put hnl hl') hZ)
theorem aw_iinc {i : Nat} {n : Int} {x v : Int32} (h : decode M.2.1 pc = .ok (.iinc i n, 3) ∧ pc + 3 = pc') (hl0 : ls[i]? = some (some (aI x))) (hv : x + Int32.ofInt n = v) (hn : i < M.2.2.1) (hnl : nlL ls i = true) (K : AW d X M pc' (ls.set i (some (aI v))) st w Q) : AW d X M pc ls st w Q := by
  intro al D cI cZ cS lo p l e R s m args below meth c H locs cells slots la Z hC hE hce hsl hP hS hl hZ
  obtain ⟨hx, hb, hml, hown, hts, hlk, hrt, hdf, hdl⟩ := id hC
  obtain ⟨hd, rfl⟩ := h
  have hmem : (i, Value.int x) ∈ ascA al ls := ascA_mem.mpr ⟨aI x, hl0, rfl⟩
  obtain ⟨k, hk⟩ := List.getElem?_of_mem hmem
  exact lv_iinc hx hb hd hl.has hk hv hn rfl (fun la' hl' => K al D cI cZ cS lo p l e R s m args below meth c H locs cells slots la' Z hC hE hce hsl hP hS (LA.put hnl hl') hZ)
theorem aw_iadd {x y : Int32} (h : decode M.2.1 pc = .ok (.iadd, 1) ∧ pc + 1 = pc') (K : AW d X M pc' ls (aI (x + y) :: st) w Q) : AW d X M pc ls (aI y :: aI x :: st) w Q := by
  intro al D cI cZ cS lo p l e R s m args below meth c H locs cells slots la Z hC hE hce hsl hP hS hl hZ
  obtain ⟨hx, hb, hml, hown, hts, hlk, hrt, hdf, hdl⟩ := id hC
  obtain ⟨hd, rfl⟩ := h
  exact lv_iadd hx hb hd  (K al D cI cZ cS lo p l e R s m args below meth c H locs cells slots la Z hC hE hce hsl hP hS hl hZ)
theorem aw_isub {x y : Int32} (h : decode M.2.1 pc = .ok (.isub, 1) ∧ pc + 1 = pc') (K : AW d X M pc' ls (aI (x - y) :: st) w Q) : AW d X M pc ls (aI y :: aI x :: st) w Q := by
  intro al D cI cZ cS lo p l e R s m args below meth c H locs cells slots la Z hC hE hce hsl hP hS hl hZ
  obtain ⟨hx, hb, hml, hown, hts, hlk, hrt, hdf, hdl⟩ := id hC
  obtain ⟨hd, rfl⟩ := h
  exact lv_isub hx hb hd  (K al D cI cZ cS lo p l e R s m args below meth c H locs cells slots la Z hC hE hce hsl hP hS hl hZ)
theorem aw_imul {x y : Int32} (h : decode M.2.1 pc = .ok (.imul, 1) ∧ pc + 1 = pc') (K : AW d X M pc' ls (aI (x * y) :: st) w Q) : AW d X M pc ls (aI y :: aI x :: st) w Q := by
  intro al D cI cZ cS lo p l e R s m args below meth c H locs cells slots la Z hC hE hce hsl hP hS hl hZ
  obtain ⟨hx, hb, hml, hown, hts, hlk, hrt, hdf, hdl⟩ := id hC
  obtain ⟨hd, rfl⟩ := h
  exact lv_imul hx hb hd  (K al D cI cZ cS lo p l e R s m args below meth c H locs cells slots la Z hC hE hce hsl hP hS hl hZ)
theorem aw_iand {x y : Int32} (h : decode M.2.1 pc = .ok (.iand, 1) ∧ pc + 1 = pc') (K : AW d X M pc' ls (aI (x &&& y) :: st) w Q) : AW d X M pc ls (aI y :: aI x :: st) w Q := by
  intro al D cI cZ cS lo p l e R s m args below meth c H locs cells slots la Z hC hE hce hsl hP hS hl hZ
  obtain ⟨hx, hb, hml, hown, hts, hlk, hrt, hdf, hdl⟩ := id hC
  obtain ⟨hd, rfl⟩ := h
  exact lv_iand hx hb hd  (K al D cI cZ cS lo p l e R s m args below meth c H locs cells slots la Z hC hE hce hsl hP hS hl hZ)
theorem aw_ior {x y : Int32} (h : decode M.2.1 pc = .ok (.ior, 1) ∧ pc + 1 = pc') (K : AW d X M pc' ls (aI (x ||| y) :: st) w Q) : AW d X M pc ls (aI y :: aI x :: st) w Q := by
  intro al D cI cZ cS lo p l e R s m args below meth c H locs cells slots la Z hC hE hce hsl hP hS hl hZ
  obtain ⟨hx, hb, hml, hown, hts, hlk, hrt, hdf, hdl⟩ := id hC
  obtain ⟨hd, rfl⟩ := h
  exact lv_ior hx hb hd  (K al D cI cZ cS lo p l e R s m args below meth c H locs cells slots la Z hC hE hce hsl hP hS hl hZ)
theorem aw_ixor {x y : Int32} (h : decode M.2.1 pc = .ok (.ixor, 1) ∧ pc + 1 = pc') (K : AW d X M pc' ls (aI (x ^^^ y) :: st) w Q) : AW d X M pc ls (aI y :: aI x :: st) w Q := by
  intro al D cI cZ cS lo p l e R s m args below meth c H locs cells slots la Z hC hE hce hsl hP hS hl hZ
  obtain ⟨hx, hb, hml, hown, hts, hlk, hrt, hdf, hdl⟩ := id hC
  obtain ⟨hd, rfl⟩ := h
  exact lv_ixor hx hb hd  (K al D cI cZ cS lo p l e R s m args below meth c H locs cells slots la Z hC hE hce hsl hP hS hl hZ)
theorem aw_ishl {x y : Int32} (h : decode M.2.1 pc = .ok (.ishl, 1) ∧ pc + 1 = pc') (K : AW d X M pc' ls (aI (x <<< (y &&& 31)) :: st) w Q) : AW d X M pc ls (aI y :: aI x :: st) w Q := by
  intro al D cI cZ cS lo p l e R s m args below meth c H locs cells slots la Z hC hE hce hsl hP hS hl hZ
  obtain ⟨hx, hb, hml, hown, hts, hlk, hrt, hdf, hdl⟩ := id hC
  obtain ⟨hd, rfl⟩ := h
  exact lv_ishl hx hb hd  (K al D cI cZ cS lo p l e R s m args below meth c H locs cells slots la Z hC hE hce hsl hP hS hl hZ)
theorem aw_ishr {x y : Int32} (h : decode M.2.1 pc = .ok (.ishr, 1) ∧ pc + 1 = pc') (K : AW d X M pc' ls (aI (x >>> (y &&& 31)) :: st) w Q) : AW d X M pc ls (aI y :: aI x :: st) w Q := by
  intro al D cI cZ cS lo p l e R s m args below meth c H locs cells slots la Z hC hE hce hsl hP hS hl hZ
  obtain ⟨hx, hb, hml, hown, hts, hlk, hrt, hdf, hdl⟩ := id hC
  obtain ⟨hd, rfl⟩ := h
  exact lv_ishr hx hb hd  (K al D cI cZ cS lo p l e R s m args below meth c H locs cells slots la Z hC hE hce hsl hP hS hl hZ)
theorem aw_iushr {x y : Int32} (h : decode M.2.1 pc = .ok (.iushr, 1) ∧ pc + 1 = pc') (K : AW d X M pc' ls (aI ((x.toUInt32 >>> (y.toUInt32 &&& Int32.toUInt32 31)).toInt32) :: st) w Q) : AW d X M pc ls (aI y :: aI x :: st) w Q := by
  intro al D cI cZ cS lo p l e R s m args below meth c H locs cells slots la Z hC hE hce hsl hP hS hl hZ
  obtain ⟨hx, hb, hml, hown, hts, hlk, hrt, hdf, hdl⟩ := id hC
  obtain ⟨hd, rfl⟩ := h
  exact lv_iushr hx hb hd rfl (K al D cI cZ cS lo p l e R s m args below meth c H locs cells slots la Z hC hE hce hsl hP hS hl hZ)
theorem aw_idiv {x y : Int32} (h : decode M.2.1 pc = .ok (.idiv, 1) ∧ pc + 1 = pc') (hy : ¬ y = 0) (K : AW d X M pc' ls (aI (x / y) :: st) w Q) : AW d X M pc ls (aI y :: aI x :: st) w Q := by
  intro al D cI cZ cS lo p l e R s m args below meth c H locs cells slots la Z hC hE hce hsl hP hS hl hZ
  obtain ⟨hx, hb, hml, hown, hts, hlk, hrt, hdf, hdl⟩ := id hC
  obtain ⟨hd, rfl⟩ := h
  exact lv_idiv hx hb hd hy (K al D cI cZ cS lo p l e R s m args below meth c H locs cells slots la Z hC hE hce hsl hP hS hl hZ)
theorem aw_irem {x y : Int32} (h : decode M.2.1 pc = .ok (.irem, 1) ∧ pc + 1 = pc') (hy : ¬ y = 0) (K : AW d X M pc' ls (aI (x - x / y * y) :: st) w Q) : AW d X M pc ls (aI y :: aI x :: st) w Q := by
  intro al D cI cZ cS lo p l e R s m args below meth c H locs cells slots la Z hC hE hce hsl hP hS hl hZ
  obtain ⟨hx, hb, hml, hown, hts, hlk, hrt, hdf, hdl⟩ := id hC
  obtain ⟨hd, rfl⟩ := h
  exact lv_irem hx hb hd hy (K al D cI cZ cS lo p l e R s m args below meth c H locs cells slots la Z hC hE hce hsl hP hS hl hZ)
theorem aw_ineg {x : Int32} (h : decode M.2.1 pc = .ok (.ineg, 1) ∧ pc + 1 = pc') (K : AW d X M pc' ls (aI (-x) :: st) w Q) : AW d X M pc ls (aI x :: st) w Q := by
  intro al D cI cZ cS lo p l e R s m args below meth c H locs cells slots la Z hC hE hce hsl hP hS hl hZ
  obtain ⟨hx, hb, hml, hown, hts, hlk, hrt, hdf, hdl⟩ := id hC
  obtain ⟨hd, rfl⟩ := h
  exact lv_ineg hx hb hd  (K al D cI cZ cS lo p l e R s m args below meth c H locs cells slots la Z hC hE hce hsl hP hS hl hZ)
theorem aw_ladd {x y : Int64} (h : decode M.2.1 pc = .ok (.ladd, 1) ∧ pc + 1 = pc') (K : AW d X M pc' ls (aL (x + y) :: st) w Q) : AW d X M pc ls (aL y :: aL x :: st) w Q := by
  intro al D cI cZ cS lo p l e R s m args below meth c H locs cells slots la Z hC hE hce hsl hP hS hl hZ
  obtain ⟨hx, hb, hml, hown, hts, hlk, hrt, hdf, hdl⟩ := id hC
  obtain ⟨hd, rfl⟩ := h
  exact lv_ladd hx hb hd  (K al D cI cZ cS lo p l e R s m args below meth c H locs cells slots la Z hC hE hce hsl hP hS hl hZ)
theorem aw_lmul {x y : Int64} (h : decode M.2.1 pc = .ok (.lmul, 1) ∧ pc + 1 = pc') (K : AW d X M pc' ls (aL (x * y) :: st) w Q) : AW d X M pc ls (aL y :: aL x :: st) w Q := by
  intro al D cI cZ cS lo p l e R s m args below meth c H locs cells slots la Z hC hE hce hsl hP hS hl hZ
  obtain ⟨hx, hb, hml, hown, hts, hlk, hrt, hdf, hdl⟩ := id hC
  obtain ⟨hd, rfl⟩ := h
  exact lv_lmul hx hb hd  (K al D cI cZ cS lo p l e R s m args below meth c H locs cells slots la Z hC hE hce hsl hP hS hl hZ)
theorem aw_land {x y : Int64} (h : decode M.2.1 pc = .ok (.land, 1) ∧ pc + 1 = pc') (K : AW d X M pc' ls (aL (x &&& y) :: st) w Q) : AW d X M pc ls (aL y :: aL x :: st) w Q := by
  intro al D cI cZ cS lo p l e R s m args below meth c H locs cells slots la Z hC hE hce hsl hP hS hl hZ
  obtain ⟨hx, hb, hml, hown, hts, hlk, hrt, hdf, hdl⟩ := id hC
  obtain ⟨hd, rfl⟩ := h
  exact lv_land hx hb hd  (K al D cI cZ cS lo p l e R s m args below meth c H locs cells slots la Z hC hE hce hsl hP hS hl hZ)
theorem aw_lor {x y : Int64} (h : decode M.2.1 pc = .ok (.lor, 1) ∧ pc + 1 = pc') (K : AW d X M pc' ls (aL (x ||| y) :: st) w Q) : AW d X M pc ls (aL y :: aL x :: st) w Q := by
  intro al D cI cZ cS lo p l e R s m args below meth c H locs cells slots la Z hC hE hce hsl hP hS hl hZ
  obtain ⟨hx, hb, hml, hown, hts, hlk, hrt, hdf, hdl⟩ := id hC
  obtain ⟨hd, rfl⟩ := h
  exact lv_lor hx hb hd  (K al D cI cZ cS lo p l e R s m args below meth c H locs cells slots la Z hC hE hce hsl hP hS hl hZ)
theorem aw_lrem {x y : Int64} (h : decode M.2.1 pc = .ok (.lrem, 1) ∧ pc + 1 = pc') (hy : ¬ y = 0) (K : AW d X M pc' ls (aL (x - x / y * y) :: st) w Q) : AW d X M pc ls (aL y :: aL x :: st) w Q := by
  intro al D cI cZ cS lo p l e R s m args below meth c H locs cells slots la Z hC hE hce hsl hP hS hl hZ
  obtain ⟨hx, hb, hml, hown, hts, hlk, hrt, hdf, hdl⟩ := id hC
  obtain ⟨hd, rfl⟩ := h
  exact lv_lrem hx hb hd hy (K al D cI cZ cS lo p l e R s m args below meth c H locs cells slots la Z hC hE hce hsl hP hS hl hZ)
theorem aw_lshl {x : Int64} {y : Int32} (h : decode M.2.1 pc = .ok (.lshl, 1) ∧ pc + 1 = pc') (K : AW d X M pc' ls (aL (x <<< (y.toInt64 &&& 63)) :: st) w Q) : AW d X M pc ls (aI y :: aL x :: st) w Q := by
  intro al D cI cZ cS lo p l e R s m args below meth c H locs cells slots la Z hC hE hce hsl hP hS hl hZ
  obtain ⟨hx, hb, hml, hown, hts, hlk, hrt, hdf, hdl⟩ := id hC
  obtain ⟨hd, rfl⟩ := h
  exact lv_lshl hx hb hd rfl (K al D cI cZ cS lo p l e R s m args below meth c H locs cells slots la Z hC hE hce hsl hP hS hl hZ)
theorem aw_lushr {x : Int64} {y : Int32} (h : decode M.2.1 pc = .ok (.lushr, 1) ∧ pc + 1 = pc') (K : AW d X M pc' ls (aL ((x.toUInt64 >>> (y.toInt64.toUInt64 &&& Int64.toUInt64 63)).toInt64) :: st) w Q) : AW d X M pc ls (aI y :: aL x :: st) w Q := by
  intro al D cI cZ cS lo p l e R s m args below meth c H locs cells slots la Z hC hE hce hsl hP hS hl hZ
  obtain ⟨hx, hb, hml, hown, hts, hlk, hrt, hdf, hdl⟩ := id hC
  obtain ⟨hd, rfl⟩ := h
  exact lv_lushr hx hb hd rfl (K al D cI cZ cS lo p l e R s m args below meth c H locs cells slots la Z hC hE hce hsl hP hS hl hZ)
theorem aw_i2l {x : Int32} (h : decode M.2.1 pc = .ok (.i2l, 1) ∧ pc + 1 = pc') (K : AW d X M pc' ls (aL x.toInt64 :: st) w Q) : AW d X M pc ls (aI x :: st) w Q := by
  intro al D cI cZ cS lo p l e R s m args below meth c H locs cells slots la Z hC hE hce hsl hP hS hl hZ
  obtain ⟨hx, hb, hml, hown, hts, hlk, hrt, hdf, hdl⟩ := id hC
  obtain ⟨hd, rfl⟩ := h
  exact lv_i2l hx hb hd rfl (K al D cI cZ cS lo p l e R s m args below meth c H locs cells slots la Z hC hE hce hsl hP hS hl hZ)
theorem aw_l2i {x : Int64} (h : decode M.2.1 pc = .ok (.l2i, 1) ∧ pc + 1 = pc') (K : AW d X M pc' ls (aI x.toInt32 :: st) w Q) : AW d X M pc ls (aL x :: st) w Q := by
  intro al D cI cZ cS lo p l e R s m args below meth c H locs cells slots la Z hC hE hce hsl hP hS hl hZ
  obtain ⟨hx, hb, hml, hown, hts, hlk, hrt, hdf, hdl⟩ := id hC
  obtain ⟨hd, rfl⟩ := h
  exact lv_l2i hx hb hd rfl (K al D cI cZ cS lo p l e R s m args below meth c H locs cells slots la Z hC hE hce hsl hP hS hl hZ)
theorem aw_lcmp {x y : Int64} (h : decode M.2.1 pc = .ok (.lcmp, 1) ∧ pc + 1 = pc') (K : AW d X M pc' ls (aI (lg_cmp x y) :: st) w Q) : AW d X M pc ls (aL y :: aL x :: st) w Q := by
  intro al D cI cZ cS lo p l e R s m args below meth c H locs cells slots la Z hC hE hce hsl hP hS hl hZ
  obtain ⟨hx, hb, hml, hown, hts, hlk, hrt, hdf, hdl⟩ := id hC
  obtain ⟨hd, rfl⟩ := h
  exact W.lcmp hx hb hd  (K al D cI cZ cS lo p l e R s m args below meth c H locs cells slots la Z hC hE hce hsl hP hS hl hZ)
theorem aw_dupI {x : Int32} (h : decode M.2.1 pc = .ok (.dup, 1) ∧ pc + 1 = pc') (K : AW d X M pc' ls (aI x :: aI x :: st) w Q) : AW d X M pc ls (aI x :: st) w Q := by
  intro al D cI cZ cS lo p l e R s m args below meth c H locs cells slots la Z hC hE hce hsl hP hS hl hZ
  obtain ⟨hx, hb, hml, hown, hts, hlk, hrt, hdf, hdl⟩ := id hC
  obtain ⟨hd, rfl⟩ := h
  exact lv_dup hx hb hd rfl (K al D cI cZ cS lo p l e R s m args below meth c H locs cells slots la Z hC hE hce hsl hP hS hl hZ)
theorem aw_dupR {a b : Nat} (h : decode M.2.1 pc = .ok (.dup, 1) ∧ pc + 1 = pc') (K : AW d X M pc' ls (aR a b :: aR a b :: st) w Q) : AW d X M pc ls (aR a b :: st) w Q := by
  intro al D cI cZ cS lo p l e R s m args below meth c H locs cells slots la Z hC hE hce hsl hP hS hl hZ
  obtain ⟨hx, hb, hml, hown, hts, hlk, hrt, hdf, hdl⟩ := id hC
  obtain ⟨hd, rfl⟩ := h
  exact lv_dup hx hb hd rfl (K al D cI cZ cS lo p l e R s m args below meth c H locs cells slots la Z hC hE hce hsl hP hS hl hZ)
theorem aw_dup2 {x : Int32} {a b : Nat} (h : decode M.2.1 pc = .ok (.dup2, 1) ∧ pc + 1 = pc') (K : AW d X M pc' ls (aI x :: aR a b :: aI x :: aR a b :: st) w Q) : AW d X M pc ls (aI x :: aR a b :: st) w Q := by
  intro al D cI cZ cS lo p l e R s m args below meth c H locs cells slots la Z hC hE hce hsl hP hS hl hZ
  obtain ⟨hx, hb, hml, hown, hts, hlk, hrt, hdf, hdl⟩ := id hC
  obtain ⟨hd, rfl⟩ := h
  exact lv_dup2_11 hx hb hd rfl rfl (K al D cI cZ cS lo p l e R s m args below meth c H locs cells slots la Z hC hE hce hsl hP hS hl hZ)
theorem aw_popI {x : Int32} (h : decode M.2.1 pc = .ok (.pop, 1) ∧ pc + 1 = pc') (K : AW d X M pc' ls (st) w Q) : AW d X M pc ls (aI x :: st) w Q := by
  intro al D cI cZ cS lo p l e R s m args below meth c H locs cells slots la Z hC hE hce hsl hP hS hl hZ
  obtain ⟨hx, hb, hml, hown, hts, hlk, hrt, hdf, hdl⟩ := id hC
  obtain ⟨hd, rfl⟩ := h
  exact lv_pop hx hb hd rfl (K al D cI cZ cS lo p l e R s m args below meth c H locs cells slots la Z hC hE hce hsl hP hS hl hZ)
theorem aw_icmp_eq {x y : Int32} {off : Int} {tgt : Nat} (h : decode M.2.1 pc = .ok (.if_icmp .eq off, 3) ∧ (pc : Int) + off = (tgt : Int) ∧ pc + 3 = pc') (K1 : (x = y) → AW d X M tgt ls st w Q) (K2 : ¬ (x = y) → AW d X M pc' ls st w Q) : AW d X M pc ls (aI y :: aI x :: st) w Q := by
  intro al D cI cZ cS lo p l e R s m args below meth c H locs cells slots la Z hC hE hce hsl hP hS hl hZ
  obtain ⟨hx, hb, hml, hown, hts, hlk, hrt, hdf, hdl⟩ := id hC
  obtain ⟨hd, ht, rfl⟩ := h
  exact lv_icmp_eq hx hb hd ht (fun hc => K1 hc al D cI cZ cS lo p l e R s m args below meth c H locs cells slots la Z hC hE hce hsl hP hS hl hZ) (fun hc => K2 hc al D cI cZ cS lo p l e R s m args below meth c H locs cells slots la Z hC hE hce hsl hP hS hl hZ)
theorem aw_icmp_ne {x y : Int32} {off : Int} {tgt : Nat} (h : decode M.2.1 pc = .ok (.if_icmp .ne off, 3) ∧ (pc : Int) + off = (tgt : Int) ∧ pc + 3 = pc') (K1 : ¬ (x = y) → AW d X M tgt ls st w Q) (K2 : (x = y) → AW d X M pc' ls st w Q) : AW d X M pc ls (aI y :: aI x :: st) w Q := by
  intro al D cI cZ cS lo p l e R s m args below meth c H locs cells slots la Z hC hE hce hsl hP hS hl hZ
  obtain ⟨hx, hb, hml, hown, hts, hlk, hrt, hdf, hdl⟩ := id hC
  obtain ⟨hd, ht, rfl⟩ := h
  exact lv_icmp_ne hx hb hd ht (fun hc => K1 hc al D cI cZ cS lo p l e R s m args below meth c H locs cells slots la Z hC hE hce hsl hP hS hl hZ) (fun hc => K2 hc al D cI cZ cS lo p l e R s m args below meth c H locs cells slots la Z hC hE hce hsl hP hS hl hZ)
theorem aw_icmp_lt {x y : Int32} {off : Int} {tgt : Nat} (h : decode M.2.1 pc = .ok (.if_icmp .lt off, 3) ∧ (pc : Int) + off = (tgt : Int) ∧ pc + 3 = pc') (K1 : (x < y) → AW d X M tgt ls st w Q) (K2 : ¬ (x < y) → AW d X M pc' ls st w Q) : AW d X M pc ls (aI y :: aI x :: st) w Q := by
  intro al D cI cZ cS lo p l e R s m args below meth c H locs cells slots la Z hC hE hce hsl hP hS hl hZ
  obtain ⟨hx, hb, hml, hown, hts, hlk, hrt, hdf, hdl⟩ := id hC
  obtain ⟨hd, ht, rfl⟩ := h
  exact lv_icmp_lt hx hb hd ht (fun hc => K1 hc al D cI cZ cS lo p l e R s m args below meth c H locs cells slots la Z hC hE hce hsl hP hS hl hZ) (fun hc => K2 hc al D cI cZ cS lo p l e R s m args below meth c H locs cells slots la Z hC hE hce hsl hP hS hl hZ)
theorem aw_icmp_ge {x y : Int32} {off : Int} {tgt : Nat} (h : decode M.2.1 pc = .ok (.if_icmp .ge off, 3) ∧ (pc : Int) + off = (tgt : Int) ∧ pc + 3 = pc') (K1 : (y ≤ x) → AW d X M tgt ls st w Q) (K2 : ¬ (y ≤ x) → AW d X M pc' ls st w Q) : AW d X M pc ls (aI y :: aI x :: st) w Q := by
  intro al D cI cZ cS lo p l e R s m args below meth c H locs cells slots la Z hC hE hce hsl hP hS hl hZ
  obtain ⟨hx, hb, hml, hown, hts, hlk, hrt, hdf, hdl⟩ := id hC
  obtain ⟨hd, ht, rfl⟩ := h
  exact lv_icmp_ge hx hb hd ht (fun hc => K1 hc al D cI cZ cS lo p l e R s m args below meth c H locs cells slots la Z hC hE hce hsl hP hS hl hZ) (fun hc => K2 hc al D cI cZ cS lo p l e R s m args below meth c H locs cells slots la Z hC hE hce hsl hP hS hl hZ)
theorem aw_icmp_gt {x y : Int32} {off : Int} {tgt : Nat} (h : decode M.2.1 pc = .ok (.if_icmp .gt off, 3) ∧ (pc : Int) + off = (tgt : Int) ∧ pc + 3 = pc') (K1 : (y < x) → AW d X M tgt ls st w Q) (K2 : ¬ (y < x) → AW d X M pc' ls st w Q) : AW d X M pc ls (aI y :: aI x :: st) w Q := by
  intro al D cI cZ cS lo p l e R s m args below meth c H locs cells slots la Z hC hE hce hsl hP hS hl hZ
  obtain ⟨hx, hb, hml, hown, hts, hlk, hrt, hdf, hdl⟩ := id hC
  obtain ⟨hd, ht, rfl⟩ := h
  exact lv_icmp_gt hx hb hd ht (fun hc => K1 hc al D cI cZ cS lo p l e R s m args below meth c H locs cells slots la Z hC hE hce hsl hP hS hl hZ) (fun hc => K2 hc al D cI cZ cS lo p l e R s m args below meth c H locs cells slots la Z hC hE hce hsl hP hS hl hZ)
theorem aw_icmp_le {x y : Int32} {off : Int} {tgt : Nat} (h : decode M.2.1 pc = .ok (.if_icmp .le off, 3) ∧ (pc : Int) + off = (tgt : Int) ∧ pc + 3 = pc') (K1 : (x ≤ y) → AW d X M tgt ls st w Q) (K2 : ¬ (x ≤ y) → AW d X M pc' ls st w Q) : AW d X M pc ls (aI y :: aI x :: st) w Q := by
  intro al D cI cZ cS lo p l e R s m args below meth c H locs cells slots la Z hC hE hce hsl hP hS hl hZ
  obtain ⟨hx, hb, hml, hown, hts, hlk, hrt, hdf, hdl⟩ := id hC
  obtain ⟨hd, ht, rfl⟩ := h
  exact lv_icmp_le hx hb hd ht (fun hc => K1 hc al D cI cZ cS lo p l e R s m args below meth c H locs cells slots la Z hC hE hce hsl hP hS hl hZ) (fun hc => K2 hc al D cI cZ cS lo p l e R s m args below meth c H locs cells slots la Z hC hE hce hsl hP hS hl hZ)
theorem aw_if_eq {x : Int32} {off : Int} {tgt : Nat} (h : decode M.2.1 pc = .ok (.ifCond .eq off, 3) ∧ (pc : Int) + off = (tgt : Int) ∧ pc + 3 = pc') (K1 : (x = 0) → AW d X M tgt ls st w Q) (K2 : ¬ (x = 0) → AW d X M pc' ls st w Q) : AW d X M pc ls (aI x :: st) w Q := by
  intro al D cI cZ cS lo p l e R s m args below meth c H locs cells slots la Z hC hE hce hsl hP hS hl hZ
  obtain ⟨hx, hb, hml, hown, hts, hlk, hrt, hdf, hdl⟩ := id hC
  obtain ⟨hd, ht, rfl⟩ := h
  exact lv_if_eq hx hb hd ht (fun hc => K1 hc al D cI cZ cS lo p l e R s m args below meth c H locs cells slots la Z hC hE hce hsl hP hS hl hZ) (fun hc => K2 hc al D cI cZ cS lo p l e R s m args below meth c H locs cells slots la Z hC hE hce hsl hP hS hl hZ)
theorem aw_if_ne {x : Int32} {off : Int} {tgt : Nat} (h : decode M.2.1 pc = .ok (.ifCond .ne off, 3) ∧ (pc : Int) + off = (tgt : Int) ∧ pc + 3 = pc') (K1 : ¬ (x = 0) → AW d X M tgt ls st w Q) (K2 : (x = 0) → AW d X M pc' ls st w Q) : AW d X M pc ls (aI x :: st) w Q := by
  intro al D cI cZ cS lo p l e R s m args below meth c H locs cells slots la Z hC hE hce hsl hP hS hl hZ
  obtain ⟨hx, hb, hml, hown, hts, hlk, hrt, hdf, hdl⟩ := id hC
  obtain ⟨hd, ht, rfl⟩ := h
  exact lv_if_ne hx hb hd ht (fun hc => K1 hc al D cI cZ cS lo p l e R s m args below meth c H locs cells slots la Z hC hE hce hsl hP hS hl hZ) (fun hc => K2 hc al D cI cZ cS lo p l e R s m args below meth c H locs cells slots la Z hC hE hce hsl hP hS hl hZ)
theorem aw_if_lt {x : Int32} {off : Int} {tgt : Nat} (h : decode M.2.1 pc = .ok (.ifCond .lt off, 3) ∧ (pc : Int) + off = (tgt : Int) ∧ pc + 3 = pc') (K1 : (x < 0) → AW d X M tgt ls st w Q) (K2 : ¬ (x < 0) → AW d X M pc' ls st w Q) : AW d X M pc ls (aI x :: st) w Q := by
  intro al D cI cZ cS lo p l e R s m args below meth c H locs cells slots la Z hC hE hce hsl hP hS hl hZ
  obtain ⟨hx, hb, hml, hown, hts, hlk, hrt, hdf, hdl⟩ := id hC
  obtain ⟨hd, ht, rfl⟩ := h
  exact lv_if_lt hx hb hd ht (fun hc => K1 hc al D cI cZ cS lo p l e R s m args below meth c H locs cells slots la Z hC hE hce hsl hP hS hl hZ) (fun hc => K2 hc al D cI cZ cS lo p l e R s m args below meth c H locs cells slots la Z hC hE hce hsl hP hS hl hZ)
theorem aw_if_ge {x : Int32} {off : Int} {tgt : Nat} (h : decode M.2.1 pc = .ok (.ifCond .ge off, 3) ∧ (pc : Int) + off = (tgt : Int) ∧ pc + 3 = pc') (K1 : (0 ≤ x) → AW d X M tgt ls st w Q) (K2 : ¬ (0 ≤ x) → AW d X M pc' ls st w Q) : AW d X M pc ls (aI x :: st) w Q := by
  intro al D cI cZ cS lo p l e R s m args below meth c H locs cells slots la Z hC hE hce hsl hP hS hl hZ
  obtain ⟨hx, hb, hml, hown, hts, hlk, hrt, hdf, hdl⟩ := id hC
  obtain ⟨hd, ht, rfl⟩ := h
  exact lv_if_ge hx hb hd ht (fun hc => K1 hc al D cI cZ cS lo p l e R s m args below meth c H locs cells slots la Z hC hE hce hsl hP hS hl hZ) (fun hc => K2 hc al D cI cZ cS lo p l e R s m args below meth c H locs cells slots la Z hC hE hce hsl hP hS hl hZ)
theorem aw_if_gt {x : Int32} {off : Int} {tgt : Nat} (h : decode M.2.1 pc = .ok (.ifCond .gt off, 3) ∧ (pc : Int) + off = (tgt : Int) ∧ pc + 3 = pc') (K1 : (0 < x) → AW d X M tgt ls st w Q) (K2 : ¬ (0 < x) → AW d X M pc' ls st w Q) : AW d X M pc ls (aI x :: st) w Q := by
  intro al D cI cZ cS lo p l e R s m args below meth c H locs cells slots la Z hC hE hce hsl hP hS hl hZ
  obtain ⟨hx, hb, hml, hown, hts, hlk, hrt, hdf, hdl⟩ := id hC
  obtain ⟨hd, ht, rfl⟩ := h
  exact lv_if_gt hx hb hd ht (fun hc => K1 hc al D cI cZ cS lo p l e R s m args below meth c H locs cells slots la Z hC hE hce hsl hP hS hl hZ) (fun hc => K2 hc al D cI cZ cS lo p l e R s m args below meth c H locs cells slots la Z hC hE hce hsl hP hS hl hZ)
theorem aw_if_le {x : Int32} {off : Int} {tgt : Nat} (h : decode M.2.1 pc = .ok (.ifCond .le off, 3) ∧ (pc : Int) + off = (tgt : Int) ∧ pc + 3 = pc') (K1 : (x ≤ 0) → AW d X M tgt ls st w Q) (K2 : ¬ (x ≤ 0) → AW d X M pc' ls st w Q) : AW d X M pc ls (aI x :: st) w Q := by
  intro al D cI cZ cS lo p l e R s m args below meth c H locs cells slots la Z hC hE hce hsl hP hS hl hZ
  obtain ⟨hx, hb, hml, hown, hts, hlk, hrt, hdf, hdl⟩ := id hC
  obtain ⟨hd, ht, rfl⟩ := h
  exact lv_if_le hx hb hd ht (fun hc => K1 hc al D cI cZ cS lo p l e R s m args below meth c H locs cells slots la Z hC hE hce hsl hP hS hl hZ) (fun hc => K2 hc al D cI cZ cS lo p l e R s m args below meth c H locs cells slots la Z hC hE hce hsl hP hS hl hZ)
theorem aw_goto {off : Int} {tgt : Nat} (h : decode M.2.1 pc = .ok (.goto off, 3) ∧ (pc : Int) + off = (tgt : Int)) (K : AW d X M tgt ls st w Q) : AW d X M pc ls st w Q := by
  intro al D cI cZ cS lo p l e R s m args below meth c H locs cells slots la Z hC hE hce hsl hP hS hl hZ
  obtain ⟨hx, hb, hml, hown, hts, hlk, hrt, hdf, hdl⟩ := id hC
  exact lv_goto hx hb h.1 h.2 (K al D cI cZ cS lo p l e R s m args below meth c H locs cells slots la Z hC hE hce hsl hP hS hl hZ)
theorem aw_ifnonnull {off : Int} {tgt a b : Nat} (h : decode M.2.1 pc = .ok (.ifnonnull off, 3) ∧ (pc : Int) + off = (tgt : Int)) (K : AW d X M tgt ls st w Q) : AW d X M pc ls (aR a b :: st) w Q := by
  intro al D cI cZ cS lo p l e R s m args below meth c H locs cells slots la Z hC hE hce hsl hP hS hl hZ
  obtain ⟨hx, hb, hml, hown, hts, hlk, hrt, hdf, hdl⟩ := id hC
  exact lv_ifnonnull hx hb h.1 h.2 (K al D cI cZ cS lo p l e R s m args below meth c H locs cells slots la Z hC hE hce hsl hP hS hl hZ)
theorem aw_ifnull {off : Int} {a b : Nat} (h : decode M.2.1 pc = .ok (.ifnull off, 3) ∧ pc + 3 = pc') (K : AW d X M pc' ls st w Q) : AW d X M pc ls (aR a b :: st) w Q := by
  intro al D cI cZ cS lo p l e R s m args below meth c H locs cells slots la Z hC hE hce hsl hP hS hl hZ
  obtain ⟨hx, hb, hml, hown, hts, hlk, hrt, hdf, hdl⟩ := id hC
  obtain ⟨hd, rfl⟩ := h
  exact lv_ifnull hx hb hd (K al D cI cZ cS lo p l e R s m args below meth c H locs cells slots la Z hC hE hce hsl hP hS hl hZ)
theorem aw_tabIn {dflt lo0 hi0 : Int} {offs : Array Int} {len : Nat} {x : Int32} {off : Int} {tgt : Nat} (h : decode M.2.1 pc = .ok (.tableswitch dflt lo0 hi0 offs, len)) (h1 : ¬ x.toInt < lo0) (h2 : ¬ hi0 < x.toInt) (ho : offs[(x.toInt - lo0).toNat]? = some off) (ht : (pc : Int) + off = (tgt : Int)) (K : AW d X M tgt ls st w Q) : AW d X M pc ls (aI x :: st) w Q := by
  intro al D cI cZ cS lo p l e R s m args below meth c H locs cells slots la Z hC hE hce hsl hP hS hl hZ
  obtain ⟨hx, hb, hml, hown, hts, hlk, hrt, hdf, hdl⟩ := id hC
  exact lv_tableIn hx hb h h1 h2 ho ht (K al D cI cZ cS lo p l e R s m args below meth c H locs cells slots la Z hC hE hce hsl hP hS hl hZ)
theorem aw_tabOut {dflt lo0 hi0 : Int} {offs : Array Int} {len : Nat} {x : Int32} {tgt : Nat} (h : decode M.2.1 pc = .ok (.tableswitch dflt lo0 hi0 offs, len)) (h1 : x.toInt < lo0 ∨ hi0 < x.toInt) (ht : (pc : Int) + dflt = (tgt : Int)) (K : AW d X M tgt ls st w Q) : AW d X M pc ls (aI x :: st) w Q := by
  intro al D cI cZ cS lo p l e R s m args below meth c H locs cells slots la Z hC hE hce hsl hP hS hl hZ
  obtain ⟨hx, hb, hml, hown, hts, hlk, hrt, hdf, hdl⟩ := id hC
  exact lv_tableOut hx hb h h1 ht (K al D cI cZ cS lo p l e R s m args below meth c H locs cells slots la Z hC hE hce hsl hP hS hl hZ)
theorem aw_ldc2 {idx : Nat} {v : Int64} (h : decode M.2.1 pc = .ok (.ldc2_w idx, 3) ∧ pc + 3 = pc') (hw : Cond.constantLong M.1.cls idx v ∈ TT) (K : AW d X M pc' ls (aL v :: st) w Q) : AW d X M pc ls st w Q := by
  intro al D cI cZ cS lo p l e R s m args below meth c H locs cells slots la Z hC hE hce hsl hP hS hl hZ
  obtain ⟨hx, hb, hml, hown, hts, hlk, hrt, hdf, hdl⟩ := id hC
  obtain ⟨hd, rfl⟩ := h
  exact lv_ldc2 hx hb hown (hts _ hw) hd (K al D cI cZ cS lo p l e R s m args below meth c H locs cells slots la Z hC hE hce hsl hP hS hl hZ)
theorem aw_ldcw {idx : Nat} {v : Int32} (h : decode M.2.1 pc = .ok (.ldc_w idx, 3) ∧ pc + 3 = pc') (hw : Cond.constant M.1.cls idx v ∈ TT) (K : AW d X M pc' ls (aI v :: st) w Q) : AW d X M pc ls st w Q := by
  intro al D cI cZ cS lo p l e R s m args below meth c H locs cells slots la Z hC hE hce hsl hP hS hl hZ
  obtain ⟨hx, hb, hml, hown, hts, hlk, hrt, hdf, hdl⟩ := id hC
  obtain ⟨hd, rfl⟩ := h
  exact lv_ldcw hx hb hown (hts _ hw) hd (K al D cI cZ cS lo p l e R s m args below meth c H locs cells slots la Z hC hE hce hsl hP hS hl hZ)
theorem aw_ldc {idx : Nat} {v : Int32} (h : decode M.2.1 pc = .ok (.ldc idx, 2) ∧ pc + 2 = pc') (hw : Cond.constant M.1.cls idx v ∈ TT) (K : AW d X M pc' ls (aI v :: st) w Q) : AW d X M pc ls st w Q := by
  intro al D cI cZ cS lo p l e R s m args below meth c H locs cells slots la Z hC hE hce hsl hP hS hl hZ
  obtain ⟨hx, hb, hml, hown, hts, hlk, hrt, hdf, hdl⟩ := id hC
  obtain ⟨hd, rfl⟩ := h
  exact lv_ldc hx hb hown (hts _ hw) hd (K al D cI cZ cS lo p l e R s m args below meth c H locs cells slots la Z hC hE hce hsl hP hS hl hZ)
theorem aw_getf {k i f idx : Nat} {v : AV} (h : decode M.2.1 pc = .ok (.getfield idx, 3) ∧ pc + 3 = pc') (hw : Cond.fieldLink M.1.cls idx (TK k f).1 (TK k f).2.1 (TK k f).2.2.1 ∈ TT) (hk : k < 7 ∧ f < nFl k) (hi : i < cntK k) (hv : fldA k i f w = v) (K : AW d X M pc' ls (v :: st) w Q) : AW d X M pc ls (aR k i :: st) w Q := by
  intro al D cI cZ cS lo p l e R s m args below meth c H locs cells slots la Z hC hE hce hsl hP hS hl hZ
  obtain ⟨hx, hb, hml, hown, hts, hlk, hrt, hdf, hdl⟩ := id hC
  obtain ⟨hd, rfl⟩ := h
  subst hv
  obtain ⟨p0, hp0⟩ := keys_in hi
  have he := wsA_at (X := X) (al := al) (cI := cI) (cZ := cZ) (cS := cS) (w := w) hp0
  rw [cellA_obj hk.1] at he
  refine va_get hx hb hts (inl_at k hk.1) hown hE.1 hP p0 he (vw_at k hk.1) f hk.2 (hts _ hw) (fun _ h => h) (v := cv al (fldA k i f w)) ?_ hd (K al D cI cZ cS lo p l e R s m args below meth c H locs cells slots la Z hC hE hce hsl hP hS hl hZ)
  rw [List.getElem?_map, List.getElem?_range hk.2]; rfl
theorem aw_putI {k i f idx : Nat} {x : Int32} (h : decode M.2.1 pc = .ok (.putfield idx, 3) ∧ pc + 3 = pc') (hw : Cond.fieldLink M.1.cls idx (TK k f).1 (TK k f).2.1 (TK k f).2.2.1 ∈ TT) (hk : k < 7 ∧ f < nFl k) (hi : i < cntK k) (hr : refK k i f = none ∧ lngK k f = false ∧ (TK k f).2.2.2 = false ∧ tyK k f = .int) (K : AW d X M pc' ls st (wS w k i f x) Q) : AW d X M pc ls (aI x :: aR k i :: st) w Q := by
  intro al D cI cZ cS lo p l e R s m args below meth c H locs cells slots la Z hC hE hce hsl hP hS hl hZ
  obtain ⟨hx, hb, hml, hown, hts, hlk, hrt, hdf, hdl⟩ := id hC
  obtain ⟨hd, rfl⟩ := h
  obtain ⟨p0, hp0⟩ := keys_in hi
  have he := wsA_at (X := X) (al := al) (cI := cI) (cZ := cZ) (cS := cS) (w := w) hp0
  rw [cellA_obj hk.1] at he
  refine va_put hx hb hts (inl_at k hk.1) (tyK k) (ty_at k hk.1) (nm_at k hk.1) hown hE.1 hP (wsA_D hE.2.1) hS p0 he (vw_at k hk.1) f hk.2 (hts _ hw) (fun _ h => h) hr.2.2.1 (v := .int x) (by rw [ty_at k hk.1 f hk.2, hr.2.2.2]) rfl rfl (by rw [List.length_map, List.length_range]; exact hk.2) hd (fun H1 locs1 hP1 _ hS1 => ?_)
  refine K al D cI cZ cS lo p l e R s m args below meth c H1 locs1 cells slots la Z hC hE hce hsl ?_ hS1 hl hZ
  have hcell : Sum.inr (k, ((List.range (nFl k)).map (fun g => cv al (fldA k i g w))).set f (.int x)) = cellA X al cI cZ cS (wS w k i f x) (k, i) := by
    rw [cellA_obj hk.1]
    congr 2
    apply List.ext_getElem?
    intro n
    by_cases hn : n = f
    · subst hn
      rw [List.getElem?_set_self (by rw [List.length_map, List.length_range]; exact hk.2), List.getElem?_map, List.getElem?_range hk.2]
      show some (Value.int x) = some (cv al (fldA k i n (wS w k i n x)))
      unfold fldA
      rw [hr.1, wS_same]
      simp only [hr.2.1, if_true]
      rfl
    · rw [List.getElem?_set_ne (Ne.symm hn), List.getElem?_map, List.getElem?_map]
      by_cases hn2 : n < nFl k
      · rw [List.getElem?_range hn2]
        show some (cv al (fldA k i n w)) = some (cv al (fldA k i n (wS w k i f x)))
        unfold fldA
        rw [wS_same]
        simp only [if_neg hn]
        rfl
      · rw [List.getElem?_eq_none (by rw [List.length_range]; omega)]; rfl
  have hs := wsA_set (X := X) (al := al) (cI := cI) (cZ := cZ) (cS := cS) (w := w) (w' := wS w k i f x) hp0 (fun q _ hq => cellA_off (wS_off (fun z => hq (Prod.ext z.1 z.2))) rfl)
  rw [← hcell] at hs
  unfold PA
  rw [← hs]
  exact hP1
theorem aw_putL {k f idx : Nat} {x : Int64} (h : decode M.2.1 pc = .ok (.putfield idx, 3) ∧ pc + 3 = pc') (hw : Cond.fieldLink M.1.cls idx (TK k f).1 (TK k f).2.1 (TK k f).2.2.1 ∈ TT) (hk : k < 7 ∧ f < nFl k ∧ cntK k = 1) (hr : (∀ g, g < nFl k → (refK k 0 g = none ∧ lngK k g = true ↔ g = f)) ∧ (TK k f).2.2.2 = false ∧ tyK k f = .long) (K : AW d X M pc' ls st (wL w k x) Q) : AW d X M pc ls (aL x :: aR k 0 :: st) w Q := by
  intro al D cI cZ cS lo p l e R s m args below meth c H locs cells slots la Z hC hE hce hsl hP hS hl hZ
  obtain ⟨hx, hb, hml, hown, hts, hlk, hrt, hdf, hdl⟩ := id hC
  obtain ⟨hd, rfl⟩ := h
  have hi : 0 < cntK k := by rw [hk.2.2]; omega
  obtain ⟨p0, hp0⟩ := keys_in hi
  have he := wsA_at (X := X) (al := al) (cI := cI) (cZ := cZ) (cS := cS) (w := w) hp0
  rw [cellA_obj hk.1] at he
  refine va_put hx hb hts (inl_at k hk.1) (tyK k) (ty_at k hk.1) (nm_at k hk.1) hown hE.1 hP (wsA_D hE.2.1) hS p0 he (vw_at k hk.1) f hk.2.1 (hts _ hw) (fun _ h => h) hr.2.1 (v := .long x) (by rw [ty_at k hk.1 f hk.2.1, hr.2.2]) rfl rfl (by rw [List.length_map, List.length_range]; exact hk.2.1) hd (fun H1 locs1 hP1 _ hS1 => ?_)
  refine K al D cI cZ cS lo p l e R s m args below meth c H1 locs1 cells slots la Z hC hE hce hsl ?_ hS1 hl hZ
  have hcell : Sum.inr (k, ((List.range (nFl k)).map (fun g => cv al (fldA k 0 g w))).set f (.long x)) = cellA X al cI cZ cS (wL w k x) (k, 0) := by
    rw [cellA_obj hk.1]
    congr 2
    apply List.ext_getElem?
    intro n
    by_cases hn : n = f
    · subst hn
      rw [List.getElem?_set_self (by rw [List.length_map, List.length_range]; exact hk.2.1), List.getElem?_map, List.getElem?_range hk.2.1]
      obtain ⟨g1, g2⟩ := (hr.1 n hk.2.1).mpr rfl
      show some (Value.long x) = some (cv al (fldA k 0 n (wL w k x)))
      unfold fldA
      rw [g1]
      simp only [g2, if_true, wL]
      rfl
    · rw [List.getElem?_set_ne (Ne.symm hn), List.getElem?_map, List.getElem?_map]
      by_cases hn2 : n < nFl k
      · rw [List.getElem?_range hn2]
        show some (cv al (fldA k 0 n w)) = some (cv al (fldA k 0 n (wL w k x)))
        unfold fldA
        cases hrf : refK k 0 n with
        | some q => rfl
        | none =>
          have hl0 : ¬ lngK k n = true := fun z => hn ((hr.1 n hn2).mp ⟨hrf, z⟩)
          simp only [if_neg hl0, wL]
      · rw [List.getElem?_eq_none (by rw [List.length_range]; omega)]; rfl
  have hs := wsA_set (X := X) (al := al) (cI := cI) (cZ := cZ) (cS := cS) (w := w) (w' := wL w k x) hp0 (fun q hqm hq => cellA_off rfl (by
    have hne : q.1 ≠ k := fun z => by
      have h1 := keys_lt hqm
      rw [z, hk.2.2] at h1
      exact hq (Prod.ext z (by show q.2 = 0; omega))
    simp only [wL, if_neg hne]))
  rw [← hcell] at hs
  unfold PA
  rw [← hs]
  exact hP1
/-- what stands in an array of ints, the two tables and the script too -/
def rdA (X : XS) (w : Wd) (k i j : Nat) : Int32 := if k = 40 then tensA j else if k = 41 then facsA j else if k = 42 then X.2 j else w.1 k i j
def arrK (k i : Nat) : Bool := (intK k && decide (i < cntK k)) || ((k == 40 || k == 41 || k == 42) && i == 0)
theorem arrK_cases {k i : Nat} (h : arrK k i = true) : (intK k = true ∧ i < cntK k) ∨ ((k = 40 ∨ k = 41 ∨ k = 42) ∧ i = 0) := by
  simp only [arrK, Bool.or_eq_true, Bool.and_eq_true, decide_eq_true_eq, beq_iff_eq] at h
  rcases h with h | h
  · exact Or.inl h
  · exact Or.inr ⟨by rcases h.1 with (h | h) | h <;> simp [h], h.2⟩
theorem intK_lt {k : Nat} (h : intK k = true) : k < 34 := by
  simp only [intK, Bool.and_eq_true, decide_eq_true_eq] at h
  exact h.1.1.2
theorem aw_iald {k i : Nat} {x : Int32} {v : Int32} (h : decode M.2.1 pc = .ok (.iaload, 1) ∧ pc + 1 = pc') (hk : arrK k i = true) (hin : vp_in x (lenK X k)) (hv : rdA X w k i x.toNatClampNeg = v) (K : AW d X M pc' ls (aI v :: st) w Q) : AW d X M pc ls (aI x :: aR k i :: st) w Q := by
  intro al D cI cZ cS lo p l e R s m args below meth c H locs cells slots la Z hC hE hce hsl hP hS hl hZ
  obtain ⟨hx, hb, hml, hown, hts, hlk, hrt, hdf, hdl⟩ := id hC
  obtain ⟨hd, rfl⟩ := h
  subst hv
  rcases arrK_cases hk with ⟨h1, h2⟩ | ⟨h1, rfl⟩
  · obtain ⟨p0, hp0⟩ := keys_in h2
    have he := wsA_at (X := X) (al := al) (cI := cI) (cZ := cZ) (cS := cS) (w := w) hp0
    rw [cellA_int h1] at he
    have h34 := intK_lt h1
    have erd : rdA X w k i x.toNatClampNeg = w.1 k i x.toNatClampNeg := by
      unfold rdA; rw [if_neg (by omega), if_neg (by omega), if_neg (by omega)]
    rw [erd] at K
    exact va_iald hx hb hE.1 hP p0 0 he rfl hin hd (K al D cI cZ cS lo p l e R s m args below meth c H locs cells slots la Z hC hE hce hsl hP hS hl hZ)
  · rcases h1 with rfl | rfl | rfl
    · exact va_ti hx hb hE.2.2.1.1 hS hin rfl hd (K al D cI cZ cS lo p l e R s m args below meth c H locs cells slots la Z hC hE hce hsl hP hS hl hZ)
    · exact va_ti hx hb hE.2.2.1.2.1 hS hin rfl hd (K al D cI cZ cS lo p l e R s m args below meth c H locs cells slots la Z hC hE hce hsl hP hS hl hZ)
    · exact va_ti hx hb hE.2.2.1.2.2 hS hin rfl hd (K al D cI cZ cS lo p l e R s m args below meth c H locs cells slots la Z hC hE hce hsl hP hS hl hZ)
theorem aw_zald {k i : Nat} {x : Int32} (h : decode M.2.1 pc = .ok (.baload, 1) ∧ pc + 1 = pc') (hk : bolK k = true) (hi : i < cntK k) (hin : vp_in x (lenK X k)) (K : AW d X M pc' ls (aI (w.1 k i x.toNatClampNeg) :: st) w Q) : AW d X M pc ls (aI x :: aR k i :: st) w Q := by
  intro al D cI cZ cS lo p l e R s m args below meth c H locs cells slots la Z hC hE hce hsl hP hS hl hZ
  obtain ⟨hx, hb, hml, hown, hts, hlk, hrt, hdf, hdl⟩ := id hC
  obtain ⟨hd, rfl⟩ := h
  obtain ⟨p0, hp0⟩ := keys_in hi
  have he := wsA_at (X := X) (al := al) (cI := cI) (cZ := cZ) (cS := cS) (w := w) hp0
  rw [cellA_bol hk] at he
  exact va_zald hx hb hE.1 hP p0 1 he rfl hin hd (K al D cI cZ cS lo p l e R s m args below meth c H locs cells slots la Z hC hE hce hsl hP hS hl hZ)
theorem wS_cell {X : XS} {al : AM} {cI cZ cS : ClassId} {w : Wd} {k i j p0 : Nat} {x : Int32} {H1 : Heap} {D : va_G} {cA : ClassId} (hp0 : keysA[p0]? = some (k, i)) (hc : ∀ w : Wd, cellA X al cI cZ cS w (k, i) = .inl (cA, lenK X k, .inl (w.1 k i))) (hP1 : va_P D vwCl ((wsA X al cI cZ cS w).set p0 (al k i, .inl (cA, lenK X k, .inl (upd (w.1 k i) j x)))) H1) : PA X al D cI cZ cS (wS w k i j x) H1 := by
  have hs := wsA_set (X := X) (al := al) (cI := cI) (cZ := cZ) (cS := cS) (w := w) (w' := wS w k i j x) hp0 (fun q _ hq => cellA_off (wS_off (fun z => hq (Prod.ext z.1 z.2))) rfl)
  rw [hc, wS_same] at hs
  unfold PA
  rw [← hs]
  exact hP1
theorem aw_iast {k i : Nat} {x y : Int32} (h : decode M.2.1 pc = .ok (.iastore, 1) ∧ pc + 1 = pc') (hk : intK k = true) (hi : i < cntK k) (hin : vp_in x (lenK X k)) (K : AW d X M pc' ls st (wS w k i x.toNatClampNeg y) Q) : AW d X M pc ls (aI y :: aI x :: aR k i :: st) w Q := by
  intro al D cI cZ cS lo p l e R s m args below meth c H locs cells slots la Z hC hE hce hsl hP hS hl hZ
  obtain ⟨hx, hb, hml, hown, hts, hlk, hrt, hdf, hdl⟩ := id hC
  obtain ⟨hd, rfl⟩ := h
  obtain ⟨p0, hp0⟩ := keys_in hi
  have he := wsA_at (X := X) (al := al) (cI := cI) (cZ := cZ) (cS := cS) (w := w) hp0
  rw [cellA_int hk] at he
  exact va_iast hx hb hE.1 hP (wsA_D hE.2.1) hS p0 0 he rfl hin hd (fun H1 locs1 hP1 _ hS1 => K al D cI cZ cS lo p l e R s m args below meth c H1 locs1 cells slots la Z hC hE hce hsl (wS_cell hp0 (fun _ => cellA_int hk) hP1) hS1 hl hZ)
theorem aw_zast {k i : Nat} {x y : Int32} (h : decode M.2.1 pc = .ok (.bastore, 1) ∧ pc + 1 = pc') (hk : bolK k = true) (hi : i < cntK k) (hin : vp_in x (lenK X k)) (hy : vp_nar .boolean y = y) (K : AW d X M pc' ls st (wS w k i x.toNatClampNeg y) Q) : AW d X M pc ls (aI y :: aI x :: aR k i :: st) w Q := by
  intro al D cI cZ cS lo p l e R s m args below meth c H locs cells slots la Z hC hE hce hsl hP hS hl hZ
  obtain ⟨hx, hb, hml, hown, hts, hlk, hrt, hdf, hdl⟩ := id hC
  obtain ⟨hd, rfl⟩ := h
  obtain ⟨p0, hp0⟩ := keys_in hi
  have he := wsA_at (X := X) (al := al) (cI := cI) (cZ := cZ) (cS := cS) (w := w) hp0
  rw [cellA_bol hk] at he
  exact va_zast hx hb hE.1 hP (wsA_D hE.2.1) hS p0 1 he rfl hin hd (fun H1 locs1 hP1 _ hS1 => K al D cI cZ cS lo p l e R s m args below meth c H1 locs1 cells slots la Z hC hE hce hsl (wS_cell hp0 (fun _ => cellA_bol hk) (by rw [hy] at hP1; exact hP1)) hS1 hl hZ)
theorem aw_alenI {k i : Nat} {v : Int32} (h : decode M.2.1 pc = .ok (.arraylength, 1) ∧ pc + 1 = pc') (hk : arrK k i = true) (hv : Int32.ofNat (lenK X k) = v) (K : AW d X M pc' ls (aI v :: st) w Q) : AW d X M pc ls (aR k i :: st) w Q := by
  intro al D cI cZ cS lo p l e R s m args below meth c H locs cells slots la Z hC hE hce hsl hP hS hl hZ
  obtain ⟨hx, hb, hml, hown, hts, hlk, hrt, hdf, hdl⟩ := id hC
  obtain ⟨hd, rfl⟩ := h
  rcases arrK_cases hk with ⟨h1, h2⟩ | ⟨h1, rfl⟩
  · obtain ⟨p0, hp0⟩ := keys_in h2
    have he := wsA_at (X := X) (al := al) (cI := cI) (cZ := cZ) (cS := cS) (w := w) hp0
    rw [cellA_int h1] at he
    exact va_alen hx hb hE.1 hP p0 0 he rfl hv hd (K al D cI cZ cS lo p l e R s m args below meth c H locs cells slots la Z hC hE hce hsl hP hS hl hZ)
  · rcases h1 with rfl | rfl | rfl
    · exact va_tlen hx hb hE.2.2.1.1 hS hv hd (K al D cI cZ cS lo p l e R s m args below meth c H locs cells slots la Z hC hE hce hsl hP hS hl hZ)
    · exact va_tlen hx hb hE.2.2.1.2.1 hS hv hd (K al D cI cZ cS lo p l e R s m args below meth c H locs cells slots la Z hC hE hce hsl hP hS hl hZ)
    · exact va_tlen hx hb hE.2.2.1.2.2 hS hv hd (K al D cI cZ cS lo p l e R s m args below meth c H locs cells slots la Z hC hE hce hsl hP hS hl hZ)
theorem aw_alenZ {k i : Nat} {v : Int32} (h : decode M.2.1 pc = .ok (.arraylength, 1) ∧ pc + 1 = pc') (hk : bolK k = true) (hi : i < cntK k) (hv : Int32.ofNat (lenK X k) = v) (K : AW d X M pc' ls (aI v :: st) w Q) : AW d X M pc ls (aR k i :: st) w Q := by
  intro al D cI cZ cS lo p l e R s m args below meth c H locs cells slots la Z hC hE hce hsl hP hS hl hZ
  obtain ⟨hx, hb, hml, hown, hts, hlk, hrt, hdf, hdl⟩ := id hC
  obtain ⟨hd, rfl⟩ := h
  obtain ⟨p0, hp0⟩ := keys_in hi
  have he := wsA_at (X := X) (al := al) (cI := cI) (cZ := cZ) (cS := cS) (w := w) hp0
  rw [cellA_bol hk] at he
  exact va_alen hx hb hE.1 hP p0 1 he rfl hv hd (K al D cI cZ cS lo p l e R s m args below meth c H locs cells slots la Z hC hE hce hsl hP hS hl hZ)
/-- the arrays of stands: kept (34), before (35) -/
def refB : Nat → Nat
  | 34 => 3
  | _ => 5
theorem cellA_ref {X : XS} {al : AM} {cI cZ cS : ClassId} {w : Wd} {k : Nat} (hk : k = 34 ∨ k = 35) : cellA X al cI cZ cS w (k, 0) = .inl (cS, lenK X k, .inr (.inr (.inr (.inr (fun j => some (al 3 (refB k + j))))))) := by
  rcases hk with rfl | rfl <;> rfl
theorem aw_alenR {k : Nat} {v : Int32} (h : decode M.2.1 pc = .ok (.arraylength, 1) ∧ pc + 1 = pc') (hk : k = 34 ∨ k = 35) (hv : Int32.ofNat (lenK X k) = v) (K : AW d X M pc' ls (aI v :: st) w Q) : AW d X M pc ls (aR k 0 :: st) w Q := by
  intro al D cI cZ cS lo p l e R s m args below meth c H locs cells slots la Z hC hE hce hsl hP hS hl hZ
  obtain ⟨hx, hb, hml, hown, hts, hlk, hrt, hdf, hdl⟩ := id hC
  obtain ⟨hd, rfl⟩ := h
  obtain ⟨p0, hp0⟩ := keys_in (k := k) (i := 0) (by rcases hk with rfl | rfl <;> decide)
  have he := wsA_at (X := X) (al := al) (cI := cI) (cZ := cZ) (cS := cS) (w := w) hp0
  rw [cellA_ref hk] at he
  exact va_alen hx hb hE.1 hP p0 2 he rfl hv hd (K al D cI cZ cS lo p l e R s m args below meth c H locs cells slots la Z hC hE hce hsl hP hS hl hZ)
theorem aw_aald {k : Nat} {x : Int32} (h : decode M.2.1 pc = .ok (.aaload, 1) ∧ pc + 1 = pc') (hk : k = 34 ∨ k = 35) (hin : vp_in x (lenK X k)) (K : AW d X M pc' ls (aR 3 (refB k + x.toNatClampNeg) :: st) w Q) : AW d X M pc ls (aI x :: aR k 0 :: st) w Q := by
  intro al D cI cZ cS lo p l e R s m args below meth c H locs cells slots la Z hC hE hce hsl hP hS hl hZ
  obtain ⟨hx, hb, hml, hown, hts, hlk, hrt, hdf, hdl⟩ := id hC
  obtain ⟨hd, rfl⟩ := h
  obtain ⟨p0, hp0⟩ := keys_in (k := k) (i := 0) (by rcases hk with rfl | rfl <;> decide)
  have he := wsA_at (X := X) (al := al) (cI := cI) (cZ := cZ) (cS := cS) (w := w) hp0
  rw [cellA_ref hk] at he
  exact va_aldq hx hb hE.1 hP p0 2 he rfl hin hd (K al D cI cZ cS lo p l e R s m args below meth c H locs cells slots la Z hC hE hce hsl hP hS hl hZ)
theorem aw_getsT {idx : Nat} (h : decode M.2.1 pc = .ok (.getstatic idx, 3) ∧ pc + 3 = pc') (hw : Cond.fieldLink M.1.cls idx RX5 "TENS" "[I" ∈ TT) (K : AW d X M pc' ls (aR 40 0 :: st) w Q) : AW d X M pc ls st w Q := by
  intro al D cI cZ cS lo p l e R s m args below meth c H locs cells slots la Z hC hE hce hsl hP hS hl hZ
  obtain ⟨hx, hb, hml, hown, hts, hlk, hrt, hdf, hdl⟩ := id hC
  obtain ⟨hd, rfl⟩ := h
  exact va_gets hx hb hE.2.2.2.1 hS hown (hts _ hw) (fun _ h => h) hd (K al D cI cZ cS lo p l e R s m args below meth c H locs cells slots la Z hC hE hce hsl hP hS hl hZ)
theorem aw_getsF {idx : Nat} (h : decode M.2.1 pc = .ok (.getstatic idx, 3) ∧ pc + 3 = pc') (hw : Cond.fieldLink M.1.cls idx RX5 "FACTORIALS" "[I" ∈ TT) (K : AW d X M pc' ls (aR 41 0 :: st) w Q) : AW d X M pc ls st w Q := by
  intro al D cI cZ cS lo p l e R s m args below meth c H locs cells slots la Z hC hE hce hsl hP hS hl hZ
  obtain ⟨hx, hb, hml, hown, hts, hlk, hrt, hdf, hdl⟩ := id hC
  obtain ⟨hd, rfl⟩ := h
  exact va_gets hx hb hE.2.2.2.2.1 hS hown (hts _ hw) (fun _ h => h) hd (K al D cI cZ cS lo p l e R s m args below meth c H locs cells slots la Z hC hE hce hsl hP hS hl hZ)
/-! the ends -/
theorem aw_ret {r : Option AV} (hr : RI M pc r) (hq : Q r w) : AW d X M pc ls r.toList w Q := by
  intro al D cI cZ cS lo p l e R s m args below meth c H locs cells slots la Z hC hE hce hsl hP hS hl hZ
  obtain ⟨hx, hb, hml, hown, hts, hlk, hrt, hdf, hdl⟩ := id hC
  exact hZ r w H locs la pc hq hr hP hS
theorem aw_iret {x : Int32} (h : decode M.2.1 pc = .ok (.ireturn, 1)) (hn : M.2.2.2 = some .int) (hq : Q (some (aI x)) w) : AW d X M pc ls [aI x] w Q := aw_ret (r := some (aI x)) ⟨h, _, hn, rfl⟩ hq
theorem aw_zret {x : Int32} (h : decode M.2.1 pc = .ok (.ireturn, 1)) (hn : M.2.2.2 = some .boolean) (hb : narrow .boolean (.int x) = .int x) (hq : Q (some (aI x)) w) : AW d X M pc ls [aI x] w Q := aw_ret (r := some (aI x)) ⟨h, _, hn, hb⟩ hq
theorem aw_vret (h : decode M.2.1 pc = .ok (.return_, 1)) (hn : M.2.2.2 = none) (hq : Q none w) : AW d X M pc ls [] w Q := aw_ret (r := none) ⟨h, hn⟩ hq
theorem aw_lret {x : Int64} (h : decode M.2.1 pc = .ok (.lreturn, 1)) (hn : M.2.2.2 = some .long) (hq : Q (some (aL x)) w) : AW d X M pc ls [aL x] w Q := aw_ret (r := some (aL x)) ⟨h, hn⟩ hq
theorem aw_aret {a b : Nat} {nm : String} (h : decode M.2.1 pc = .ok (.areturn, 1)) (hn : M.2.2.2 = some (.object nm)) (hq : Q (some (aR a b)) w) : AW d X M pc ls [aR a b] w Q := aw_ret (r := some (aR a b)) ⟨h, _, hn, Or.inl ⟨_, rfl⟩⟩ hq
/-! fewer locals; another end; more room -/
theorem aw_loc {ls' : List (Option AV)} (h : ∀ (i : Nat) (a : AV), ls'[i]? = some (some a) → ls[i]? = some (some a)) (K : AW d X M pc ls' st w Q) : AW d X M pc ls st w Q := by
  intro al D cI cZ cS lo p l e R s m args below meth c H locs cells slots la Z hC hE hce hsl hP hS hl hZ
  obtain ⟨hx, hb, hml, hown, hts, hlk, hrt, hdf, hdl⟩ := id hC
  exact K al D cI cZ cS lo p l e R s m args below meth c H locs cells slots la Z hC hE hce hsl hP hS ⟨hl.1, hl.2.1, fun i a hi => hl.2.2 i a (h i a hi)⟩ hZ
theorem aw_post {Q' : Option AV → Wd → Prop} (h : ∀ r w', Q' r w' → Q r w') (K : AW d X M pc ls st w Q') : AW d X M pc ls st w Q := by
  intro al D cI cZ cS lo p l e R s m args below meth c H locs cells slots la Z hC hE hce hsl hP hS hl hZ
  obtain ⟨hx, hb, hml, hown, hts, hlk, hrt, hdf, hdl⟩ := id hC
  exact K al D cI cZ cS lo p l e R s m args below meth c H locs cells slots la Z hC hE hce hsl hP hS hl (fun r w' H' locs' la' pc' hq => hZ r w' H' locs' la' pc' (h r w' hq))
theorem aw_deep {d' : Nat} (h : d' ≤ d) (K : AW d' X M pc ls st w Q) : AW d X M pc ls st w Q := by
  intro al D cI cZ cS lo p l e R s m args below meth c H locs cells slots la Z hC hE hce hsl hP hS hl hZ
  obtain ⟨hx, hb, hml, hown, hts, hlk, hrt, hdf, hdl⟩ := id hC
  exact K al D cI cZ cS lo p l e R s m args below meth c H locs cells slots la Z ⟨hx, hb, hml, hown, hts, hlk, hrt, Nat.le_trans h hdf, Nat.le_trans (Nat.mul_le_mul_left 40 h) hdl⟩ hE hce hsl hP hS hl hZ
end AWR

/-! calls -/
def entA (n : Nat) (as : List AV) : List (Option AV) :=
  let l := as.flatMap fun a => match a with
    | .inr (.inl _) => [some a, none]
    | _ => [some a]
  l ++ List.replicate (n - l.length) none
def catA : AV → Nat
  | .inr (.inl _) => 2
  | _ => 1
theorem catA_eq (al : AM) (a : AV) : (cv al a).category = catA a := by
  match a with
  | .inl _ => rfl
  | .inr (.inl _) => rfl
  | .inr (.inr (some _)) => rfl
  | .inr (.inr none) => rfl
def RmA (d : Nat) : Room := { frames := d, cells := 0, slots := 0, locals := 40 * d }
theorem lv_args_at (al : AM) : ∀ (as : List AV) (i : Nat) (j : Nat) (a : AV), (as.flatMap fun a => match a with
    | .inr (.inl _) => [some a, none]
    | _ => [some a])[j]? = some (some a) → (i + j, cv al a) ∈ lv_args i (as.map (cv al)) := by
  intro as
  induction as with
  | nil => intro i j a h; simp at h
  | cons b bs ih =>
    intro i j a h
    show (i + j, cv al a) ∈ (i, cv al b) :: lv_args (if (cv al b).category = 2 then i + 2 else i + 1) (bs.map (cv al))
    rw [catA_eq]
    match b, h with
    | .inr (.inl x), h =>
      match j, h with
      | 0, h => simp at h; rw [← h]; exact List.mem_cons_self
      | 1, h => simp at h
      | j + 2, h =>
        refine List.mem_cons_of_mem _ ?_
        have h1 := ih (i + 2) j a (by simpa using h)
        rw [show i + (j + 2) = i + 2 + j by omega]
        exact h1
    | .inl x, h =>
      match j, h with
      | 0, h => simp at h; rw [← h]; exact List.mem_cons_self
      | j + 1, h =>
        refine List.mem_cons_of_mem _ ?_
        have h1 := ih (i + 1) j a (by simpa using h)
        rw [show i + (j + 1) = i + 1 + j by omega]
        exact h1
    | .inr (.inr x), h =>
      match j, h with
      | 0, h => simp at h; rw [← h]; exact List.mem_cons_self
      | j + 1, h =>
        refine List.mem_cons_of_mem _ ?_
        have h1 := ih (i + 1) j a (by simpa using h)
        rw [show i + (j + 1) = i + 1 + j by omega]
        cases x <;> exact h1
theorem entA_len (al : AM) : ∀ (as : List AV), (lg_sl (as.map (cv al))).length = (as.flatMap fun a => match a with
    | .inr (.inl _) => [some a, none]
    | _ => [some a]).length := by
  intro as
  induction as with
  | nil => rfl
  | cons b bs ih =>
    simp only [List.map_cons, lg_sl, List.flatMap_cons, List.length_append, catA_eq] at ih ⊢
    rw [ih]
    match b with
    | .inr (.inl x) => rfl
    | .inl x => rfl
    | .inr (.inr (some x)) => rfl
    | .inr (.inr none) => rfl
theorem LA.entry (al : AM) (as : List AV) (n : Nat) (h : (lg_sl (as.map (cv al))).length ≤ n) : LA al ((lg_sl (as.map (cv al)) ++ List.replicate (n - (lg_sl (as.map (cv al))).length) Slot.unset).toArray) n (entA n as) := by
  obtain ⟨h1, h2, h3⟩ := lv_entry (as.map (cv al)) h
  refine ⟨h1, h2, fun i a hi => ?_⟩
  have hm : (i, cv al a) ∈ lv_args 0 (as.map (cv al)) := by
    unfold entA at hi
    dsimp only at hi
    by_cases hlt : i < (as.flatMap fun a => match a with
      | .inr (.inl _) => [some a, none]
      | _ => [some a]).length
    · rw [List.getElem?_append_left hlt] at hi
      have := lv_args_at al as 0 i a hi
      rwa [Nat.zero_add] at this
    · rw [List.getElem?_append_right (by omega)] at hi
      have := List.eq_of_mem_replicate (List.mem_of_getElem? hi)
      cases this
  exact h3 _ hm
/-- what the tables say of a method: C: the class that is asked; n: how many arguments it takes, this aside; ln: how many places they take -/
def MI (N : MD) (C : String) (n ln : Nat) : Prop := N.1.cls = C ∧ Cond.instanceMethod N.1 ∈ TT ∧ Cond.selects C N.1 N.1 ∈ TT ∧ Cond.initialized C ∈ TT ∧ Cond.code N.1 N.2.1 N.2.2.1 N.2.2.2 ∈ TT ∧ (N.1.cls ≠ "java/lang/invoke/MethodHandle" ∧ N.1.cls ≠ "java/lang/invoke/VarHandle" ∧ (parseMethodDescriptor N.1.desc).map (fun d => d.parameters.length) = some n) ∧ N.2.2.1 ≤ 20 ∧ plainName N.1.cls = true ∧ ln ≤ N.2.2.1
def MS (N : MD) (n ln : Nat) : Prop := Cond.static N.1 ∈ TT ∧ Cond.initialized N.1.cls ∈ TT ∧ Cond.code N.1 N.2.1 N.2.2.1 N.2.2.2 ∈ TT ∧ (N.1.cls ≠ "java/lang/invoke/MethodHandle" ∧ N.1.cls ≠ "java/lang/invoke/VarHandle" ∧ (parseMethodDescriptor N.1.desc).map (fun d => d.parameters.length) = some n) ∧ N.2.2.1 ≤ 20 ∧ plainName N.1.cls = true ∧ ln ≤ N.2.2.1
def QA (X : XS) (al : AM) (D : va_G) (cI cZ cS : ClassId) (lo : Nat) (Q : Option AV → Wd → Prop) : Array Value → State → Outcome → State → Prop := fun _ st o t => ∃ r w', o = .returned (r.map (cv al)) ∧ Q r w' ∧ PA X al D cI cZ cS w' t.heap ∧ va_F (fun q => lo ≤ q) st t
theorem EA.moved {X : XS} {al : AM} {D : va_G} {cI cZ cS : ClassId} {lo : Nat} {s U : State} {H : Heap} {locs : List Loc} (h : EA X al D cI cZ cS lo s) (hvm : s.vm.Alike U.vm) (hN : ∀ q ∈ nestsA, va_Nw (.methodLinkNest q.1 q.2.1 q.2.2 RX5) U) (hU : U.heap = H) (hS : va_S (fun q => lo ≤ q) s.heap H locs) : EA X al D cI cZ cS lo U := by
  subst hU
  exact ⟨h.1.moved hvm, h.2.1, ⟨(h.2.2.1.1.kept hS.2.1).moved hvm, (h.2.2.1.2.1.kept hS.2.1).moved hvm, (h.2.2.1.2.2.kept hS.2.1).moved hvm⟩, (h.2.2.2.1.kept hS.2.1).moved hvm, (h.2.2.2.2.1.kept hS.2.1).moved hvm, hN⟩
theorem EA.warm {X : XS} {al : AM} {D : va_G} {cI cZ cS : ClassId} {lo : Nat} {s U : State} {H : Heap} {locs : List Loc} (h : EA X al D cI cZ cS lo s) (hW : s.WarmedH U.vm) (hU : U.heap = H) (hS : va_S (fun q => lo ≤ q) s.heap H locs) : EA X al D cI cZ cS lo U :=
  h.moved hW.alike (fun q hq => va_Nw.warmM hW (h.2.2.2.2.2 q hq)) hU hS
theorem met_aw {d : Nat} {X : XS} {N : MD} {l : Launch} {w : Wd} {Q : Option AV → Wd → Prop} {as : List AV} {al : AM} {D : va_G} {cI cZ cS : ClassId} {lo : Nat} (hp : plainName N.1.cls = true) (hln : (lg_sl (as.map (cv al))).length ≤ N.2.2.1) (C : AW d X N 0 (entA N.2.2.1 as) [] w Q) :
    Met l N.1 (Cond.code N.1 N.2.1 N.2.2.1 N.2.2.2 :: TT) (RmA d) (va_Pc (as.map (cv al)) (fun U => EA X al D cI cZ cS lo U ∧ PA X al D cI cZ cS w U.heap)) (QA X al D cI cZ cS lo Q) 0 0 (fun q => lo ≤ q) := by
  refine Met.ofW (cc := N.2.1) (maxL := N.2.2.1) (ret := N.2.2.2) hp rfl ?_
  intro p e s m args below meth c s₁ B hml hv
  obtain ⟨rfl, hE, hP⟩ := hv
  have hts := atoms_spec (ws := Cond.code N.1 N.2.1 N.2.2.1 N.2.2.2 :: TT) B.pre
  rw [lg_entry_eq]
  refine C al D cI cZ cS lo p l e (headSpec (Cond.code N.1 N.2.1 N.2.2.1 N.2.2.2 :: TT) (RmA d)).room s m ((as.map (cv al)).toArray) below meth c s.heap [] 0 0 _ _ ⟨B.exec, B.bytes, hml, findClass_of_methodNamed B.named, fun w hw => hts w (List.mem_cons_of_mem _ hw), B.notSynchronized, B.returns, Nat.le_refl _, Nat.le_refl _⟩ hE (Nat.zero_le _) (Nat.zero_le _) hP va_S.rf (LA.entry al as N.2.2.1 hln) ?_
  intro r w' H' locs' la' pc' hq hri hP' hS'
  have hlk := B.notSynchronized
  match r, hri, hq with
  | none, ⟨h1, h2⟩, hq => exact W.vret B.exec B.bytes (B.returns.trans h2) (fun t ht _ => ⟨none, w', rfl, hq, by rw [ht]; exact hP', hS'.F ht⟩) hS'.2.2 h1 hlk
  | some (.inl x), ⟨h1, ty, h2, h3⟩, hq => exact W.zret B.exec B.bytes (B.returns.trans h2) h3 (fun t ht _ => ⟨some (aI x), w', rfl, hq, by rw [ht]; exact hP', hS'.F ht⟩) hS'.2.2 h1 hlk
  | some (.inr (.inl x)), ⟨h1, h2⟩, hq => exact W.lret B.exec B.bytes (B.returns.trans h2) (fun t ht _ => ⟨some (aL x), w', rfl, hq, by rw [ht]; exact hP', hS'.F ht⟩) hS'.2.2 h1 hlk
  | some (.inr (.inr (some x))), ⟨h1, rt, h2, h3⟩, hq => exact W.aret B.exec B.bytes (B.returns.trans h2) h3 (Or.inr ⟨_, rfl⟩) (fun t ht _ => ⟨some (.inr (.inr (some x))), w', rfl, hq, by rw [ht]; exact hP', hS'.F ht⟩) hS'.2.2 h1 hlk
  | some (.inr (.inr none)), ⟨h1, rt, h2, h3⟩, hq => exact W.aret B.exec B.bytes (B.returns.trans h2) h3 (Or.inl rfl) (fun t ht _ => ⟨some aN, w', rfl, hq, by rw [ht]; exact hP', hS'.F ht⟩) hS'.2.2 h1 hlk
theorem blindA {X : XS} {al : AM} {D : va_G} {cI cZ cS : ClassId} {lo : Nat} {w : Wd} {vs : List Value} : FrameBlind (va_Pc vs (fun U => EA X al D cI cZ cS lo U ∧ PA X al D cI cZ cS w U.heap)) := fun a U g mk q => ⟨q.1, EA.moved (locs := []) q.2.1 (U := U.calling g mk a) (Vm.Alike.refl U.vm) (fun x hx => va_Nw.same rfl (show U.vm = (U.calling g mk a).vm from rfl) (q.2.1.2.2.2.2.2 x hx)) rfl va_S.rf, q.2.2⟩
theorem lenA_eq (al : AM) (as : List AV) : (lg_sl (as.map (cv al))).length = (as.map catA).sum := by
  rw [entA_len]
  induction as with
  | nil => rfl
  | cons b bs ih =>
    simp only [List.flatMap_cons, List.length_append, List.map_cons, List.sum_cons, ih]
    match b with
    | .inr (.inl x) => rfl
    | .inl x => rfl
    | .inr (.inr (some x)) => rfl
    | .inr (.inr none) => rfl
theorem sumA_eq (al : AM) (st : List AV) : ((st.map (cv al)).map fun v => v.category).sum = (st.map catA).sum := by
  rw [List.map_map]
  congr 1
  apply List.map_congr_left
  intro a _
  exact catA_eq al a
section AWC
variable {d : Nat} {X : XS} {M : MD} {pc pc' : Nat} {ls : List (Option AV)} {st : List AV} {w : Wd} {Q Q' : Option AV → Wd → Prop}

theorem aw_callV {d' idx n ln : Nat} {N : MD} (as : List AV) {k i : Nat} (h : decode M.2.1 pc = .ok (.invokevirtual idx, 3) ∧ pc + 3 = pc') (hw : Cond.methodLink M.1.cls idx N.1 ∈ TT) (hN : MI N (RK k) n ln) (hk : k < 7) (hi : i < cntK k) (hdd : d' + 1 ≤ d) (hn : as.length = n) (hln : ((aR k i :: as).map catA).sum = ln) (hst : (st.map catA).sum ≤ 8) (C : AW d' X N 0 (entA N.2.2.1 (aR k i :: as)) [] w Q') (K : ∀ r w', Q' r w' → AW d X M pc' ls (r.toList ++ st) w' Q) : AW d X M pc ls (as.reverse ++ aR k i :: st) w Q := by
  intro al D cI cZ cS lo p l e R s m args below meth c H locs cells slots la Z hC hE hce hsl hP hS hl hZ
  obtain ⟨hx, hb, hml, hown, hts, hlk, hrt, hdf, hdl⟩ := id hC
  obtain ⟨hd, rfl⟩ := h
  have hroom : (RmA d').frames + 1 ≤ R.frames ∧ 8 + (N.2.2.1 + 11) + (RmA d').locals ≤ R.locals := ⟨Nat.le_trans hdd hdf, by
    show 8 + (N.2.2.1 + 11) + 40 * d' ≤ R.locals
    have h20 : N.2.2.1 ≤ 20 := hN.2.2.2.2.2.2.1
    omega⟩
  obtain ⟨hcls, hin, hse, hini, hco, hdd2, h20, hpl, hll⟩ := hN
  have hG : GoodIn TT (wsV M.1.cls idx (RK k) N.1 (Cond.code N.1 N.2.1 N.2.2.1 N.2.2.2 :: TT)) := fun v hv => by
    have hm : v ∈ TT := by
      rcases List.mem_append.mp hv with h1 | h1
      · simp only [List.mem_cons, List.not_mem_nil, or_false] at h1
        rcases h1 with rfl | rfl | rfl | rfl
        · exact hw
        · exact hin
        · exact hse
        · exact hini
      · rcases List.mem_cons.mp h1 with rfl | h1
        · exact hco
        · exact h1
    exact ⟨hm, (tt_goodIn v hm).2⟩
  obtain ⟨p0, hp0⟩ := keys_in hi
  have he := wsA_at (X := X) (al := al) (cI := cI) (cZ := cZ) (cS := cS) (w := w) hp0
  rw [cellA_obj hk] at he
  have hrun := va_runV (p := p) (l := l) (e := e) (R := R) (below := below) (meth := meth) (locs := locs) (cells := cells) (slots := slots) (g := F0 m pc la (List.map (cv al) (as.reverse ++ aR k i :: st))) (As := as.map (cv al)) (b := al k i) (rest := st.map (cv al)) ⟨hx, hb, hml, hown, hts⟩
    (met_aw (l := l) (as := (aR k i :: as)) (al := al) (D := D) (cI := cI) (cZ := cZ) (cS := cS) (lo := lo) hpl (by rw [lenA_eq, hln]; exact hll) C)
    (cwV n hts hG rfl rfl rfl ⟨hcls, hdd2⟩ hroom)
    ⟨blindA, va_recv hE.1 hP (vw_at k hk) he, fun U hU hW => ⟨rfl, hE.warm hW hU hS, by rw [hU]; exact hP⟩⟩
    rfl (by rw [List.length_map]; exact hn) (hl.1) (by show List.map (cv al) _ = _; rw [List.map_append, List.map_reverse]; rfl) (lv_room (by rw [sumA_eq]; exact hst)) hd ⟨hce, hsl⟩
  intro T hT XX
  obtain ⟨v, st₀, t, T', L, h0, X', hL, e1, e2, ⟨r, w', hv, hq, hP', hF⟩, stp⟩ := hrun T hT XX
  have hvr : v = r.map (cv al) := by cases hv; rfl
  subst hvr
  have hS' : va_S (fun q => lo ≤ q) s.heap t.heap (locs ++ L) := ⟨Nat.le_trans hS.1 (by rw [← h0]; exact hF.1), fun q h1 h2 => by
      rw [hF.2 q (by rw [h0]; exact Nat.lt_of_lt_of_le h1 hS.1) h2, h0]
      exact hS.2.1 q h1 h2, fun q hq => by
      rcases List.mem_append.mp hq with h | h
      · exact hS.2.2 q h
      · exact hL q h⟩
  obtain ⟨t2, a1, b1⟩ := K r w' hq al D cI cZ cS lo p l e R s m args below meth c t.heap (locs ++ L) cells slots la Z hC hE hce hsl hP' hS' hl hZ T' e1 X'
  refine ⟨t2, stp t2 ?_, b1⟩
  have hst2 : (r.map (cv al)).toList ++ st.map (cv al) = (r.toList ++ st).map (cv al) := by
    rw [List.map_append]
    cases r <;> rfl
  rw [hst2]
  exact a1
theorem aw_callS {d' idx n ln : Nat} {N : MD} (as : List AV) (h : decode M.2.1 pc = .ok (.invokestatic idx, 3) ∧ pc + 3 = pc') (hw : Cond.methodLink M.1.cls idx N.1 ∈ TT) (hN : MS N n ln) (hdd : d' + 1 ≤ d) (hn : as.length = n) (hln : (as.map catA).sum = ln) (hst : (st.map catA).sum ≤ 8) (C : AW d' X N 0 (entA N.2.2.1 as) [] w Q') (K : ∀ r w', Q' r w' → AW d X M pc' ls (r.toList ++ st) w' Q) : AW d X M pc ls (as.reverse ++ st) w Q := by
  intro al D cI cZ cS lo p l e R s m args below meth c H locs cells slots la Z hC hE hce hsl hP hS hl hZ
  obtain ⟨hx, hb, hml, hown, hts, hlk, hrt, hdf, hdl⟩ := id hC
  obtain ⟨hd, rfl⟩ := h
  have hroom : (RmA d').frames + 1 ≤ R.frames ∧ 8 + (N.2.2.1 + 11) + (RmA d').locals ≤ R.locals := ⟨Nat.le_trans hdd hdf, by
    show 8 + (N.2.2.1 + 11) + 40 * d' ≤ R.locals
    have h20 : N.2.2.1 ≤ 20 := hN.2.2.2.2.1
    omega⟩
  obtain ⟨hin, hini, hco, hdd2, h20, hpl, hll⟩ := hN
  have hG : GoodIn TT (va_wsS M.1.cls idx N.1 (Cond.code N.1 N.2.1 N.2.2.1 N.2.2.2 :: TT)) := fun v hv => by
    have hm : v ∈ TT := by
      rcases List.mem_append.mp hv with h1 | h1
      · simp only [List.mem_cons, List.not_mem_nil, or_false] at h1
        rcases h1 with rfl | rfl | rfl
        · exact hw
        · exact hin
        · exact hini
      · rcases List.mem_cons.mp h1 with rfl | h1
        · exact hco
        · exact h1
    exact ⟨hm, (tt_goodIn v hm).2⟩
  have hrun := va_runS (p := p) (l := l) (e := e) (R := R) (below := below) (meth := meth) (locs := locs) (cells := cells) (slots := slots) (g := F0 m pc la (List.map (cv al) (as.reverse ++ st))) (As := as.map (cv al)) (rest := st.map (cv al)) ⟨hx, hb, hml, hown, hts⟩
    (met_aw (l := l) (as := as) (al := al) (D := D) (cI := cI) (cZ := cZ) (cS := cS) (lo := lo) hpl (by rw [lenA_eq, hln]; exact hll) C)
    (va_cwS n hts hG rfl rfl rfl hdd2 hroom)
    ⟨blindA, fun U hU hW => ⟨rfl, hE.warm hW hU hS, by rw [hU]; exact hP⟩⟩
    rfl (by rw [List.length_map]; exact hn) (hl.1) (by show List.map (cv al) _ = _; rw [List.map_append, List.map_reverse]) (lv_room (by rw [sumA_eq]; exact hst)) hd ⟨hce, hsl⟩
  intro T hT XX
  obtain ⟨v, st₀, t, T', L, h0, X', hL, e1, e2, ⟨r, w', hv, hq, hP', hF⟩, stp⟩ := hrun T hT XX
  have hvr : v = r.map (cv al) := by cases hv; rfl
  subst hvr
  have hS' : va_S (fun q => lo ≤ q) s.heap t.heap (locs ++ L) := ⟨Nat.le_trans hS.1 (by rw [← h0]; exact hF.1), fun q h1 h2 => by
      rw [hF.2 q (by rw [h0]; exact Nat.lt_of_lt_of_le h1 hS.1) h2, h0]
      exact hS.2.1 q h1 h2, fun q hq => by
      rcases List.mem_append.mp hq with h | h
      · exact hS.2.2 q h
      · exact hL q h⟩
  obtain ⟨t2, a1, b1⟩ := K r w' hq al D cI cZ cS lo p l e R s m args below meth c t.heap (locs ++ L) cells slots la Z hC hE hce hsl hP' hS' hl hZ T' e1 X'
  refine ⟨t2, stp t2 ?_, b1⟩
  have hst2 : (r.map (cv al)).toList ++ st.map (cv al) = (r.toList ++ st).map (cv al) := by
    rw [List.map_append]
    cases r <;> rfl
  rw [hst2]
  exact a1
theorem aw_callN {d' idx n ln : Nat} {N : MD} (as : List AV) (h : decode M.2.1 pc = .ok (.invokestatic idx, 3) ∧ pc + 3 = pc') (hw : (M.1.cls, idx, N.1) ∈ nestsA) (hN : MS N n ln) (hdd : d' + 1 ≤ d) (hn : as.length = n) (hln : (as.map catA).sum = ln) (hst : (st.map catA).sum ≤ 8) (C : AW d' X N 0 (entA N.2.2.1 as) [] w Q') (K : ∀ r w', Q' r w' → AW d X M pc' ls (r.toList ++ st) w' Q) : AW d X M pc ls (as.reverse ++ st) w Q := by
  intro al D cI cZ cS lo p l e R s m args below meth c H locs cells slots la Z hC hE hce hsl hP hS hl hZ
  obtain ⟨hx, hb, hml, hown, hts, hlk, hrt, hdf, hdl⟩ := id hC
  obtain ⟨hd, rfl⟩ := h
  have hroom : (RmA d').frames + 1 ≤ R.frames ∧ 8 + (N.2.2.1 + 11) + (RmA d').locals ≤ R.locals := ⟨Nat.le_trans hdd hdf, by
    show 8 + (N.2.2.1 + 11) + 40 * d' ≤ R.locals
    have h20 : N.2.2.1 ≤ 20 := hN.2.2.2.2.1
    omega⟩
  obtain ⟨hin, hini, hco, hdd2, h20, hpl, hll⟩ := hN
  have hG : GoodIn TT (Cond.code N.1 N.2.1 N.2.2.1 N.2.2.2 :: TT) := fun v hv => by
    have hm : v ∈ TT := by
      rcases List.mem_cons.mp hv with rfl | h1
      · exact hco
      · exact h1
    exact ⟨hm, (tt_goodIn v hm).2⟩
  have hrun := va_runSN (p := p) (l := l) (e := e) (R := R) (below := below) (meth := meth) (locs := locs) (cells := cells) (slots := slots) (host := RX5) (g := F0 m pc la (List.map (cv al) (as.reverse ++ st))) (As := as.map (cv al)) (rest := st.map (cv al)) ⟨hx, hb, hml, hown, hts⟩
    (met_aw (l := l) (as := as) (al := al) (D := D) (cI := cI) (cZ := cZ) (cS := cS) (lo := lo) hpl (by rw [lenA_eq, hln]; exact hll) C)
    ⟨va_cnB n hts hG rfl rfl rfl (hE.2.2.2.2.2 _ hw) (hts _ hini) hdd2 hroom, hts _ hin, trivial⟩
    ⟨blindA, fun U hU hW => ⟨rfl, hE.warm hW hU hS, by rw [hU]; exact hP⟩⟩
    rfl (by rw [List.length_map]; exact hn) (hl.1) (by show List.map (cv al) _ = _; rw [List.map_append, List.map_reverse]) (lv_room (by rw [sumA_eq]; exact hst)) hd ⟨hce, hsl⟩
  intro T hT XX
  obtain ⟨v, st₀, t, T', L, h0, X', hL, e1, e2, ⟨r, w', hv, hq, hP', hF⟩, stp⟩ := hrun T hT XX
  have hvr : v = r.map (cv al) := by cases hv; rfl
  subst hvr
  have hS' : va_S (fun q => lo ≤ q) s.heap t.heap (locs ++ L) := ⟨Nat.le_trans hS.1 (by rw [← h0]; exact hF.1), fun q h1 h2 => by
      rw [hF.2 q (by rw [h0]; exact Nat.lt_of_lt_of_le h1 hS.1) h2, h0]
      exact hS.2.1 q h1 h2, fun q hq => by
      rcases List.mem_append.mp hq with h | h
      · exact hS.2.2 q h
      · exact hL q h⟩
  obtain ⟨t2, a1, b1⟩ := K r w' hq al D cI cZ cS lo p l e R s m args below meth c t.heap (locs ++ L) cells slots la Z hC hE hce hsl hP' hS' hl hZ T' e1 X'
  refine ⟨t2, stp t2 ?_, b1⟩
  have hst2 : (r.map (cv al)).toList ++ st.map (cv al) = (r.toList ++ st).map (cv al) := by
    rw [List.map_append]
    cases r <;> rfl
  rw [hst2]
  exact a1
end AWC
end
section
/-! helpers for walks made by program -/
abbrev inB (x : Int32) (n : Nat) : Prop := ¬ (x < 0 ∨ n ≤ x.toNatClampNeg)
def lt {α β : Type} (a : α) (f : α → β) : β := f a
theorem lt_e {α β : Type} {a : α} {f : α → Option β} {x : β} (h : lt a f = some x) : ∃ y, y = a ∧ f y = some x := ⟨a, rfl, h⟩
theorem ip {α : Type} {c : Prop} [Decidable c] {a b : Option α} {x : α} (hc : c) (h : (if c then a else b) = some x) : a = some x := by rwa [if_pos hc] at h
theorem iq {α : Type} {c : Prop} [Decidable c] {a b : Option α} {x : α} (hc : ¬ c) (h : (if c then a else b) = some x) : b = some x := by rwa [if_neg hc] at h
theorem ck {α : Type} {c : Prop} [Decidable c] {a : Option α} {x : α} (h : (if c then a else none) = some x) : c ∧ a = some x := by
  by_cases hc : c
  · exact ⟨hc, by rwa [if_pos hc] at h⟩
  · rw [if_neg hc] at h; cases h
theorem bd {α β : Type} {o : Option α} {f : α → Option β} {x : β} (h : o.bind f = some x) : ∃ q, o = some q ∧ f q = some x := by
  cases o with
  | none => cases h
  | some q => exact ⟨q, rfl, h⟩
theorem sm {α : Type} {a b : α} (h : some a = some b) : a = b := Option.some.inj h
def PI (r : Int32) (w' : Wd) : Option AV → Wd → Prop := fun q w0 => q = some (aI r) ∧ w0 = w'
def PL (r : Int64) (w' : Wd) : Option AV → Wd → Prop := fun q w0 => q = some (aL r) ∧ w0 = w'
def PR (r : Nat) (w' : Wd) : Option AV → Wd → Prop := fun q w0 => q = some (aR 3 r) ∧ w0 = w'
def PV (w' : Wd) : Option AV → Wd → Prop := fun q w0 => q = none ∧ w0 = w'
def subL : List (Option AV) → List (Option AV) → Prop
  | [], _ => True
  | none :: t, [] => subL t []
  | none :: t, _ :: s => subL t s
  | some _ :: _, [] => False
  | some a :: t, b :: s => some a = b ∧ subL t s
theorem subL_at : ∀ (l' l : List (Option AV)), subL l' l → ∀ (i : Nat) (a : AV), l'[i]? = some (some a) → l[i]? = some (some a)
  | [], _, _, i, a, h => by simp at h
  | none :: t, [], hs, 0, a, h => by simp at h
  | none :: t, [], hs, i + 1, a, h => by
    have := subL_at t [] hs i a (by simpa using h)
    simp at this
  | none :: t, _ :: s, hs, 0, a, h => by simp at h
  | none :: t, _ :: s, hs, i + 1, a, h => by
    have := subL_at t s hs i a (by simpa using h)
    simpa using this
  | some _ :: _, [], hs, _, _, _ => hs.elim
  | some b :: t, c :: s, hs, 0, a, h => by
    simp at h; subst h; simp; exact hs.1.symm
  | some _ :: t, _ :: s, hs, i + 1, a, h => by
    have := subL_at t s hs.2 i a (by simpa using h)
    simpa using this
theorem iinc_k {x y v : Int32} {n : Int} (hk : Int32.ofInt n = v) (hy : y = x + v) : x + Int32.ofInt n = y := by rw [hk, hy]
theorem nar01 {r : Int32} (h : r = 0 ∨ r = 1) : narrow .boolean (.int r) = .int r := by rcases h with rfl | rfl <;> decide +kernel
def maxZ (x y : Int32) : Int32 := if x < y then y else x
def minZ (x y : Int32) : Int32 := if y < x then y else x
theorem vnar0 : vp_nar .boolean 0 = 0 := by decide +kernel
theorem vnar1 : vp_nar .boolean 1 = 1 := by decide +kernel
/-- arrays that a method may read by a name (not the script) -/
def lenZ (k : Nat) : Nat := lenK (0, fun _ => 0) k
def rdZ (w : Wd) (k i j : Nat) : Int32 := rdA (0, fun _ => 0) w k i j
def arrZ (k i : Nat) : Bool := arrK k i && !(k == 42)
theorem arrZ_len {X : XS} {k i : Nat} (h : arrZ k i = true) : lenK X k = lenZ k := by
  simp only [arrZ, Bool.and_eq_true, Bool.not_eq_true', beq_eq_false_iff_ne, ne_eq] at h
  unfold lenZ lenK
  split <;> first | rfl | exact absurd rfl h.2
theorem arrZ_rd {X : XS} {w : Wd} {k i j : Nat} (h : arrZ k i = true) : rdA X w k i j = rdZ w k i j := by
  simp only [arrZ, Bool.and_eq_true, Bool.not_eq_true', beq_eq_false_iff_ne, ne_eq] at h
  unfold rdZ rdA
  rw [if_neg h.2, if_neg h.2]
theorem arrZ_ok {k i : Nat} (h : arrZ k i = true) : arrK k i = true := by
  simp only [arrZ, Bool.and_eq_true] at h; exact h.1
section AWH
variable {d : Nat} {X : XS} {M : MD} {pc pc' : Nat} {ls ls' : List (Option AV)} {st : List AV} {w w' : Wd} {Q : Option AV → Wd → Prop}
theorem aw_sub (h : subL ls' ls) (K : AW d X M pc ls' st w Q) : AW d X M pc ls st w Q := aw_loc (subL_at ls' ls h) K
theorem aw_wn (h : w' = w) (K : AW d X M pc ls st w' Q) : AW d X M pc ls st w Q := h ▸ K
theorem aw_istore_nY {k : Fin 4} {x y : Int32} (hy : y = x) (h : decode M.2.1 pc = .ok (.istore_n k, 1) ∧ pc + 1 = pc') (hn : (k : Nat) < M.2.2.1) (hnl : nlL ls (k : Nat) = true) (hs : ls.set (k : Nat) (some (aI y)) = ls') (K : AW d X M pc' ls' st w Q) : AW d X M pc ls (aI x :: st) w Q := by
  subst hy; subst hs; exact aw_istore_n h hn hnl K
theorem aw_istoreY {i : Nat} {x y : Int32} (hy : y = x) (h : decode M.2.1 pc = .ok (.istore i, 2) ∧ pc + 2 = pc') (hn : i < M.2.2.1) (hnl : nlL ls i = true) (hs : ls.set i (some (aI y)) = ls') (K : AW d X M pc' ls' st w Q) : AW d X M pc ls (aI x :: st) w Q := by
  subst hy; subst hs; exact aw_istore h hn hnl K
theorem aw_lstore_nY {k : Fin 4} {x y : Int64} (hy : y = x) (h : decode M.2.1 pc = .ok (.lstore_n k, 1) ∧ pc + 1 = pc') (hn : (k : Nat) + 1 < M.2.2.1) (hnl : nlL ls (k : Nat) = true) (hs : (ls.set (k : Nat) (some (aL y))).set ((k : Nat) + 1) none = ls') (K : AW d X M pc' ls' st w Q) : AW d X M pc ls (aL x :: st) w Q := by
  subst hy; subst hs; exact aw_lstore_n h hn hnl K
theorem aw_astore_nY {k : Fin 4} {a b : Nat} (h : decode M.2.1 pc = .ok (.astore_n k, 1) ∧ pc + 1 = pc') (hn : (k : Nat) < M.2.2.1) (hnl : nlL ls (k : Nat) = true) (hs : ls.set (k : Nat) (some (aR a b)) = ls') (K : AW d X M pc' ls' st w Q) : AW d X M pc ls (aR a b :: st) w Q := by
  subst hs; exact aw_astore_n h hn hnl K
theorem aw_iincY {i : Nat} {n : Int} {x v : Int32} (hv : x + Int32.ofInt n = v) (h : decode M.2.1 pc = .ok (.iinc i n, 3) ∧ pc + 3 = pc') (hl0 : ls[i]? = some (some (aI x))) (hn : i < M.2.2.1) (hnl : nlL ls i = true) (hs : ls.set i (some (aI v)) = ls') (K : AW d X M pc' ls' st w Q) : AW d X M pc ls st w Q := by
  subst hs; exact aw_iinc h hl0 hv hn hnl K
theorem aw_ialdZ {k i : Nat} {x : Int32} (h : decode M.2.1 pc = .ok (.iaload, 1) ∧ pc + 1 = pc') (hk : arrZ k i = true) (hin : inB x (lenZ k)) (K : AW d X M pc' ls (aI (rdZ w k i x.toNatClampNeg) :: st) w Q) : AW d X M pc ls (aI x :: aR k i :: st) w Q :=
  aw_iald h (arrZ_ok hk) (by rw [arrZ_len hk]; exact hin) (arrZ_rd hk) K
theorem aw_alenZ2 {k i : Nat} (h : decode M.2.1 pc = .ok (.arraylength, 1) ∧ pc + 1 = pc') (hk : arrZ k i = true) (K : AW d X M pc' ls (aI (Int32.ofNat (lenZ k)) :: st) w Q) : AW d X M pc ls (aR k i :: st) w Q :=
  aw_alenI h (arrZ_ok hk) (by rw [arrZ_len hk]) K

theorem aw_callVI {d' idx n ln : Nat} {N : MD} {r : Int32} {w1 : Wd} (as : List AV) {k i : Nat} (h : decode M.2.1 pc = .ok (.invokevirtual idx, 3) ∧ pc + 3 = pc') (hw : Cond.methodLink M.1.cls idx N.1 ∈ TT) (hN : MI N (RK k) n ln) (hk : k < 7) (hi : i < cntK k) (hdd : d' + 1 ≤ d) (hn : as.length = n) (hln : ((aR k i :: as).map catA).sum = ln) (hst : (st.map catA).sum ≤ 8) (C : AW d' X N 0 (entA N.2.2.1 (aR k i :: as)) [] w (PI r w1)) (K : AW d X M pc' ls (aI r :: st) w1 Q) : AW d X M pc ls (as.reverse ++ aR k i :: st) w Q :=
  aw_callV as h hw hN hk hi hdd hn hln hst C (fun r0 w0 hq => by obtain ⟨rfl, rfl⟩ := hq; exact K)
theorem aw_callSI {d' idx n ln : Nat} {N : MD} {r : Int32} {w1 : Wd} (as : List AV) (h : decode M.2.1 pc = .ok (.invokestatic idx, 3) ∧ pc + 3 = pc') (hw : Cond.methodLink M.1.cls idx N.1 ∈ TT) (hN : MS N n ln) (hdd : d' + 1 ≤ d) (hn : as.length = n) (hln : (as.map catA).sum = ln) (hst : (st.map catA).sum ≤ 8) (C : AW d' X N 0 (entA N.2.2.1 as) [] w (PI r w1)) (K : AW d X M pc' ls (aI r :: st) w1 Q) : AW d X M pc ls (as.reverse ++ st) w Q :=
  aw_callS as h hw hN hdd hn hln hst C (fun r0 w0 hq => by obtain ⟨rfl, rfl⟩ := hq; exact K)
theorem aw_callNI {d' idx n ln : Nat} {N : MD} {r : Int32} {w1 : Wd} (as : List AV) (h : decode M.2.1 pc = .ok (.invokestatic idx, 3) ∧ pc + 3 = pc') (hw : (M.1.cls, idx, N.1) ∈ nestsA) (hN : MS N n ln) (hdd : d' + 1 ≤ d) (hn : as.length = n) (hln : (as.map catA).sum = ln) (hst : (st.map catA).sum ≤ 8) (C : AW d' X N 0 (entA N.2.2.1 as) [] w (PI r w1)) (K : AW d X M pc' ls (aI r :: st) w1 Q) : AW d X M pc ls (as.reverse ++ st) w Q :=
  aw_callN as h hw hN hdd hn hln hst C (fun r0 w0 hq => by obtain ⟨rfl, rfl⟩ := hq; exact K)
theorem aw_callVL {d' idx n ln : Nat} {N : MD} {r : Int64} {w1 : Wd} (as : List AV) {k i : Nat} (h : decode M.2.1 pc = .ok (.invokevirtual idx, 3) ∧ pc + 3 = pc') (hw : Cond.methodLink M.1.cls idx N.1 ∈ TT) (hN : MI N (RK k) n ln) (hk : k < 7) (hi : i < cntK k) (hdd : d' + 1 ≤ d) (hn : as.length = n) (hln : ((aR k i :: as).map catA).sum = ln) (hst : (st.map catA).sum ≤ 8) (C : AW d' X N 0 (entA N.2.2.1 (aR k i :: as)) [] w (PL r w1)) (K : AW d X M pc' ls (aL r :: st) w1 Q) : AW d X M pc ls (as.reverse ++ aR k i :: st) w Q :=
  aw_callV as h hw hN hk hi hdd hn hln hst C (fun r0 w0 hq => by obtain ⟨rfl, rfl⟩ := hq; exact K)
theorem aw_callSL {d' idx n ln : Nat} {N : MD} {r : Int64} {w1 : Wd} (as : List AV) (h : decode M.2.1 pc = .ok (.invokestatic idx, 3) ∧ pc + 3 = pc') (hw : Cond.methodLink M.1.cls idx N.1 ∈ TT) (hN : MS N n ln) (hdd : d' + 1 ≤ d) (hn : as.length = n) (hln : (as.map catA).sum = ln) (hst : (st.map catA).sum ≤ 8) (C : AW d' X N 0 (entA N.2.2.1 as) [] w (PL r w1)) (K : AW d X M pc' ls (aL r :: st) w1 Q) : AW d X M pc ls (as.reverse ++ st) w Q :=
  aw_callS as h hw hN hdd hn hln hst C (fun r0 w0 hq => by obtain ⟨rfl, rfl⟩ := hq; exact K)
theorem aw_callNL {d' idx n ln : Nat} {N : MD} {r : Int64} {w1 : Wd} (as : List AV) (h : decode M.2.1 pc = .ok (.invokestatic idx, 3) ∧ pc + 3 = pc') (hw : (M.1.cls, idx, N.1) ∈ nestsA) (hN : MS N n ln) (hdd : d' + 1 ≤ d) (hn : as.length = n) (hln : (as.map catA).sum = ln) (hst : (st.map catA).sum ≤ 8) (C : AW d' X N 0 (entA N.2.2.1 as) [] w (PL r w1)) (K : AW d X M pc' ls (aL r :: st) w1 Q) : AW d X M pc ls (as.reverse ++ st) w Q :=
  aw_callN as h hw hN hdd hn hln hst C (fun r0 w0 hq => by obtain ⟨rfl, rfl⟩ := hq; exact K)
theorem aw_callVR {d' idx n ln : Nat} {N : MD} {r : Nat} {w1 : Wd} (as : List AV) {k i : Nat} (h : decode M.2.1 pc = .ok (.invokevirtual idx, 3) ∧ pc + 3 = pc') (hw : Cond.methodLink M.1.cls idx N.1 ∈ TT) (hN : MI N (RK k) n ln) (hk : k < 7) (hi : i < cntK k) (hdd : d' + 1 ≤ d) (hn : as.length = n) (hln : ((aR k i :: as).map catA).sum = ln) (hst : (st.map catA).sum ≤ 8) (C : AW d' X N 0 (entA N.2.2.1 (aR k i :: as)) [] w (PR r w1)) (K : AW d X M pc' ls (aR 3 r :: st) w1 Q) : AW d X M pc ls (as.reverse ++ aR k i :: st) w Q :=
  aw_callV as h hw hN hk hi hdd hn hln hst C (fun r0 w0 hq => by obtain ⟨rfl, rfl⟩ := hq; exact K)
theorem aw_callSR {d' idx n ln : Nat} {N : MD} {r : Nat} {w1 : Wd} (as : List AV) (h : decode M.2.1 pc = .ok (.invokestatic idx, 3) ∧ pc + 3 = pc') (hw : Cond.methodLink M.1.cls idx N.1 ∈ TT) (hN : MS N n ln) (hdd : d' + 1 ≤ d) (hn : as.length = n) (hln : (as.map catA).sum = ln) (hst : (st.map catA).sum ≤ 8) (C : AW d' X N 0 (entA N.2.2.1 as) [] w (PR r w1)) (K : AW d X M pc' ls (aR 3 r :: st) w1 Q) : AW d X M pc ls (as.reverse ++ st) w Q :=
  aw_callS as h hw hN hdd hn hln hst C (fun r0 w0 hq => by obtain ⟨rfl, rfl⟩ := hq; exact K)
theorem aw_callNR {d' idx n ln : Nat} {N : MD} {r : Nat} {w1 : Wd} (as : List AV) (h : decode M.2.1 pc = .ok (.invokestatic idx, 3) ∧ pc + 3 = pc') (hw : (M.1.cls, idx, N.1) ∈ nestsA) (hN : MS N n ln) (hdd : d' + 1 ≤ d) (hn : as.length = n) (hln : (as.map catA).sum = ln) (hst : (st.map catA).sum ≤ 8) (C : AW d' X N 0 (entA N.2.2.1 as) [] w (PR r w1)) (K : AW d X M pc' ls (aR 3 r :: st) w1 Q) : AW d X M pc ls (as.reverse ++ st) w Q :=
  aw_callN as h hw hN hdd hn hln hst C (fun r0 w0 hq => by obtain ⟨rfl, rfl⟩ := hq; exact K)
theorem aw_callVV {d' idx n ln : Nat} {N : MD} {w1 : Wd} (as : List AV) {k i : Nat} (h : decode M.2.1 pc = .ok (.invokevirtual idx, 3) ∧ pc + 3 = pc') (hw : Cond.methodLink M.1.cls idx N.1 ∈ TT) (hN : MI N (RK k) n ln) (hk : k < 7) (hi : i < cntK k) (hdd : d' + 1 ≤ d) (hn : as.length = n) (hln : ((aR k i :: as).map catA).sum = ln) (hst : (st.map catA).sum ≤ 8) (C : AW d' X N 0 (entA N.2.2.1 (aR k i :: as)) [] w (PV w1)) (K : AW d X M pc' ls (st) w1 Q) : AW d X M pc ls (as.reverse ++ aR k i :: st) w Q :=
  aw_callV as h hw hN hk hi hdd hn hln hst C (fun r0 w0 hq => by obtain ⟨rfl, rfl⟩ := hq; exact K)
theorem aw_callSV {d' idx n ln : Nat} {N : MD} {w1 : Wd} (as : List AV) (h : decode M.2.1 pc = .ok (.invokestatic idx, 3) ∧ pc + 3 = pc') (hw : Cond.methodLink M.1.cls idx N.1 ∈ TT) (hN : MS N n ln) (hdd : d' + 1 ≤ d) (hn : as.length = n) (hln : (as.map catA).sum = ln) (hst : (st.map catA).sum ≤ 8) (C : AW d' X N 0 (entA N.2.2.1 as) [] w (PV w1)) (K : AW d X M pc' ls (st) w1 Q) : AW d X M pc ls (as.reverse ++ st) w Q :=
  aw_callS as h hw hN hdd hn hln hst C (fun r0 w0 hq => by obtain ⟨rfl, rfl⟩ := hq; exact K)
theorem aw_callNV {d' idx n ln : Nat} {N : MD} {w1 : Wd} (as : List AV) (h : decode M.2.1 pc = .ok (.invokestatic idx, 3) ∧ pc + 3 = pc') (hw : (M.1.cls, idx, N.1) ∈ nestsA) (hN : MS N n ln) (hdd : d' + 1 ≤ d) (hn : as.length = n) (hln : (as.map catA).sum = ln) (hst : (st.map catA).sum ≤ 8) (C : AW d' X N 0 (entA N.2.2.1 as) [] w (PV w1)) (K : AW d X M pc' ls (st) w1 Q) : AW d X M pc ls (as.reverse ++ st) w Q :=
  aw_callN as h hw hN hdd hn hln hst C (fun r0 w0 hq => by obtain ⟨rfl, rfl⟩ := hq; exact K)
theorem aw_mmax {idx : Nat} {x y : Int32} (h : decode M.2.1 pc = .ok (.invokestatic idx, 3) ∧ pc + 3 = pc') (hw : Cond.methodLink M.1.cls idx Lib.Math.max.name ∈ TT) (hd1 : 1 ≤ d) (hst : (st.map catA).sum ≤ 8) (K : AW d X M pc' ls (aI (maxZ x y) :: st) w Q) : AW d X M pc ls (aI y :: aI x :: st) w Q := by
  intro al D cI cZ cS lo p l e R s m args below meth c H locs cells slots la Z hC hE hce hsl hP hS hl hZ
  obtain ⟨hx, hb, hml, hown, hts, hlk, hrt, hdf, hdl⟩ := id hC
  obtain ⟨hd, rfl⟩ := h
  exact va_mmax hx hb (hml.trans hl.1.symm) hown (hts _ hw) (hts _ tw_1_5) (hts _ tw_0_8) (hts _ tw_1_6) (by omega) (by rw [sumA_eq]; omega) hce hsl hd (K al D cI cZ cS lo p l e R s m args below meth c H locs cells slots la Z hC hE hce hsl hP hS hl hZ)
theorem aw_mmin {idx : Nat} {x y : Int32} (h : decode M.2.1 pc = .ok (.invokestatic idx, 3) ∧ pc + 3 = pc') (hw : Cond.methodLink M.1.cls idx Lib.Math.min.name ∈ TT) (hd1 : 1 ≤ d) (hst : (st.map catA).sum ≤ 8) (K : AW d X M pc' ls (aI (minZ x y) :: st) w Q) : AW d X M pc ls (aI y :: aI x :: st) w Q := by
  intro al D cI cZ cS lo p l e R s m args below meth c H locs cells slots la Z hC hE hce hsl hP hS hl hZ
  obtain ⟨hx, hb, hml, hown, hts, hlk, hrt, hdf, hdl⟩ := id hC
  obtain ⟨hd, rfl⟩ := h
  exact va_mmin hx hb (hml.trans hl.1.symm) hown (hts _ hw) (hts _ tw_1_40) (hts _ tw_0_8) (hts _ tw_1_41) (by omega) (by rw [sumA_eq]; omega) hce hsl hd (K al D cI cZ cS lo p l e R s m args below meth c H locs cells slots la Z hC hE hce hsl hP hS hl hZ)
end AWH
theorem tab_out {x : Int32} {lo hi : Int} (h : ∀ c : Int, lo ≤ c → c ≤ hi → x ≠ Int32.ofInt c) : x.toInt < lo ∨ hi < x.toInt := by
  rcases Int.lt_or_le x.toInt lo with h1 | h1
  · exact Or.inl h1
  · rcases Int.lt_or_le hi x.toInt with h2 | h2
    · exact Or.inr h2
    · exact absurd (by rw [Int32.ofInt_toInt]) (h x.toInt h1 h2)
theorem k_bipush_m9 : (Int8.ofInt (-9)).toInt32 = (-9) := by decide +kernel
theorem k_bipush_m4 : (Int8.ofInt (-4)).toInt32 = (-4) := by decide +kernel
theorem k_bipush_m3 : (Int8.ofInt (-3)).toInt32 = (-3) := by decide +kernel
theorem k_bipush_m2 : (Int8.ofInt (-2)).toInt32 = (-2) := by decide +kernel
theorem k_bipush_6 : (Int8.ofInt 6).toInt32 = 6 := by decide +kernel
theorem k_bipush_7 : (Int8.ofInt 7).toInt32 = 7 := by decide +kernel
theorem k_bipush_8 : (Int8.ofInt 8).toInt32 = 8 := by decide +kernel
theorem k_bipush_9 : (Int8.ofInt 9).toInt32 = 9 := by decide +kernel
theorem k_bipush_10 : (Int8.ofInt 10).toInt32 = 10 := by decide +kernel
theorem k_bipush_11 : (Int8.ofInt 11).toInt32 = 11 := by decide +kernel
theorem k_bipush_13 : (Int8.ofInt 13).toInt32 = 13 := by decide +kernel
theorem k_bipush_14 : (Int8.ofInt 14).toInt32 = 14 := by decide +kernel
theorem k_bipush_16 : (Int8.ofInt 16).toInt32 = 16 := by decide +kernel
theorem k_bipush_30 : (Int8.ofInt 30).toInt32 = 30 := by decide +kernel
theorem k_bipush_31 : (Int8.ofInt 31).toInt32 = 31 := by decide +kernel
theorem k_bipush_32 : (Int8.ofInt 32).toInt32 = 32 := by decide +kernel
theorem k_bipush_33 : (Int8.ofInt 33).toInt32 = 33 := by decide +kernel
theorem k_bipush_44 : (Int8.ofInt 44).toInt32 = 44 := by decide +kernel
theorem k_bipush_48 : (Int8.ofInt 48).toInt32 = 48 := by decide +kernel
theorem k_bipush_63 : (Int8.ofInt 63).toInt32 = 63 := by decide +kernel
theorem k_bipush_64 : (Int8.ofInt 64).toInt32 = 64 := by decide +kernel
theorem k_bipush_78 : (Int8.ofInt 78).toInt32 = 78 := by decide +kernel
theorem k_bipush_87 : (Int8.ofInt 87).toInt32 = 87 := by decide +kernel
theorem k_bipush_112 : (Int8.ofInt 112).toInt32 = 112 := by decide +kernel
theorem k_iconst_m1 : Int32.ofInt (-1) = (-1) := by decide +kernel
theorem k_iconst_0 : Int32.ofInt 0 = 0 := by decide +kernel
theorem k_iconst_1 : Int32.ofInt 1 = 1 := by decide +kernel
theorem k_iconst_2 : Int32.ofInt 2 = 2 := by decide +kernel
theorem k_iconst_3 : Int32.ofInt 3 = 3 := by decide +kernel
theorem k_iconst_4 : Int32.ofInt 4 = 4 := by decide +kernel
theorem k_iconst_5 : Int32.ofInt 5 = 5 := by decide +kernel
theorem k_lconst_0 : Int64.ofNat (((0 : Fin 2)) : Nat) = 0 := by decide +kernel
theorem k_lconst_1 : Int64.ofNat (((1 : Fin 2)) : Nat) = 1 := by decide +kernel
theorem k_sipush_255 : (Int16.ofInt 255).toInt32 = 255 := by decide +kernel
theorem k_sipush_384 : (Int16.ofInt 384).toInt32 = 384 := by decide +kernel
abbrev mX0_init : MD := (yX0_init, cX0_init, 2, none)
abbrev mX0_clear : MD := (yX0_clear, cX0_clear, 1, none)
abbrev mX0_standAt : MD := (yX0_standAt, cX0_standAt, 3, some (.object RX3))
abbrev mX0_remember : MD := (yX0_remember, cX0_remember, 3, none)
abbrev mX0_takeBack : MD := (yX0_takeBack, cX0_takeBack, 2, some .boolean)
abbrev mX1_init : MD := (yX1_init, cX1_init, 1, none)
abbrev mX1_readFrom : MD := (yX1_readFrom, cX1_readFrom, 4, none)
abbrev mX1_has : MD := (yX1_has, cX1_has, 2, some .boolean)
abbrev mX1_everyone : MD := (yX1_everyone, cX1_everyone, 1, some .int)
abbrev mX1_figure : MD := (yX1_figure, cX1_figure, 4, some .int)
abbrev mX1_begin : MD := (yX1_begin, cX1_begin, 6, some .int)
abbrev mX1_ringFree : MD := (yX1_ringFree, cX1_ringFree, 3, some .int)
abbrev mX1_beginOn : MD := (yX1_beginOn, cX1_beginOn, 3, some .int)
abbrev mX1_celebrate : MD := (yX1_celebrate, cX1_celebrate, 4, some .boolean)
abbrev mX2_init : MD := (yX2_init, cX2_init, 1, none)
abbrev mX2_runFrom : MD := (yX2_runFrom, cX2_runFrom, 3, none)
abbrev mX2_reset : MD := (yX2_reset, cX2_reset, 4, none)
abbrev mX2_allowOnly : MD := (yX2_allowOnly, cX2_allowOnly, 3, none)
abbrev mX2_run : MD := (yX2_run, cX2_run, 2, none)
abbrev mX2_allows : MD := (yX2_allows, cX2_allows, 3, some .boolean)
abbrev mX2_record : MD := (yX2_record, cX2_record, 5, none)
abbrev mX2_goOn : MD := (yX2_goOn, cX2_goOn, 12, none)
abbrev mX3_init : MD := (yX3_init, cX3_init, 1, none)
abbrev mX3_take : MD := (yX3_take, cX3_take, 3, none)
abbrev mX3_readFrom : MD := (yX3_readFrom, cX3_readFrom, 3, none)
abbrev mX3_isWed : MD := (yX3_isWed, cX3_isWed, 2, some .boolean)
abbrev mX3_shorten : MD := (yX3_shorten, cX3_shorten, 2, none)
abbrev mX3_hoursBetween : MD := (yX3_hoursBetween, cX3_hoursBetween, 5, some .int)
abbrev mX4_init : MD := (yX4_init, cX4_init, 1, none)
abbrev mX4_add : MD := (yX4_add, cX4_add, 2, some .boolean)
abbrev mX4_figure : MD := (yX4_figure, cX4_figure, 2, some .int)
abbrev mX4_firstFault : MD := (yX4_firstFault, cX4_firstFault, 2, some .int)
abbrev mX4_fits : MD := (yX4_fits, cX4_fits, 2, some .boolean)
abbrev mX4_fitsWedding : MD := (yX4_fitsWedding, cX4_fitsWedding, 2, some .boolean)
abbrev mX4_isFigure : MD := (yX4_isFigure, cX4_isFigure, 4, some .boolean)
abbrev mX5_init : MD := (yX5_init, cX5_init, 2, none)
abbrev mX5_write : MD := (yX5_write, cX5_write, 2, some .int)
abbrev mX5_wipe : MD := (yX5_wipe, cX5_wipe, 2, some .int)
abbrev mX5_fault : MD := (yX5_fault, cX5_fault, 1, some .int)
abbrev mX5_parish : MD := (yX5_parish, cX5_parish, 2, some .int)
abbrev mX5_wedding : MD := (yX5_wedding, cX5_wedding, 3, some .int)
abbrev mX5_road : MD := (yX5_road, cX5_road, 2, some .int)
abbrev mX5_way : MD := (yX5_way, cX5_way, 3, some .int)
abbrev mX5_wed : MD := (yX5_wed, cX5_wed, 2, some .int)
abbrev mX5_carry : MD := (yX5_carry, cX5_carry, 2, some .int)
abbrev mX5_linger : MD := (yX5_linger, cX5_linger, 1, some .int)
abbrev mX5_mend : MD := (yX5_mend, cX5_mend, 2, some .int)
abbrev mX5_undo : MD := (yX5_undo, cX5_undo, 1, some .int)
abbrev mX5_most : MD := (yX5_most, cX5_most, 2, some .int)
abbrev mX5_slack : MD := (yX5_slack, cX5_slack, 3, some .int)
abbrev mX5_mending : MD := (yX5_mending, cX5_mending, 6, some .int)
abbrev mX5_judge : MD := (yX5_judge, cX5_judge, 4, some .int)
abbrev mX5_later : MD := (yX5_later, cX5_later, 4, some .int)
abbrev mX5_see : MD := (yX5_see, cX5_see, 3, some .int)
abbrev mX5_unsee : MD := (yX5_unsee, cX5_unsee, 2, some .int)
abbrev mX5_rows : MD := (yX5_rows, cX5_rows, 4, some .int)
abbrev mX5_share : MD := (yX5_share, cX5_share, 10, some .int)
abbrev mX5_rests : MD := (yX5_rests, cX5_rests, 7, some .int)
abbrev mX5_falls : MD := (yX5_falls, cX5_falls, 8, some .int)
abbrev mX5_seed : MD := (yX5_seed, cX5_seed, 5, some .long)
abbrev mX5_summers : MD := (yX5_summers, cX5_summers, 5, some .int)
abbrev mX5_keep : MD := (yX5_keep, cX5_keep, 3, some .int)
abbrev mX5_again : MD := (yX5_again, cX5_again, 2, some .int)
abbrev mX5_count : MD := (yX5_count, cX5_count, 2, some .int)
abbrev mX5_isChurch : MD := (yX5_isChurch, cX5_isChurch, 1, some .boolean)
abbrev mX5_isRoad : MD := (yX5_isRoad, cX5_isRoad, 1, some .boolean)
abbrev mX5_isSlot : MD := (yX5_isSlot, cX5_isSlot, 2, some .boolean)
abbrev mX5_at : MD := (yX5_at, cX5_at, 2, some .int)
abbrev mX5_isRow : MD := (yX5_isRow, cX5_isRow, 2, some .boolean)
abbrev mX5_weddingInRow : MD := (yX5_weddingInRow, cX5_weddingInRow, 4, some .int)
abbrev mX5_holdingNext : MD := (yX5_holdingNext, cX5_holdingNext, 3, some .int)
abbrev mX5_mostFrom : MD := (yX5_mostFrom, cX5_mostFrom, 2, some .int)
abbrev mX5_fraction : MD := (yX5_fraction, cX5_fraction, 4, some .int)
abbrev mX5_greatestDivisor : MD := (yX5_greatestDivisor, cX5_greatestDivisor, 6, some .int)
abbrev mX5_fillMostOf : MD := (yX5_fillMostOf, cX5_fillMostOf, 4, none)
abbrev mX5_isAtRest : MD := (yX5_isAtRest, cX5_isAtRest, 5, some .boolean)
abbrev mX5_gain : MD := (yX5_gain, cX5_gain, 8, some .int)
abbrev mX5_isRowOfOpenWeddings : MD := (yX5_isRowOfOpenWeddings, cX5_isRowOfOpenWeddings, 6, some .boolean)
abbrev mX5_weightOfFalls : MD := (yX5_weightOfFalls, cX5_weightOfFalls, 10, some .int)
abbrev mX5_holdsWithFalls : MD := (yX5_holdsWithFalls, cX5_holdsWithFalls, 5, some .boolean)
abbrev mX6_init : MD := (yX6_init, cX6_init, 2, none)
abbrev mX6_in : MD := (yX6_in, cX6_in, 6, some .boolean)
abbrev mX6_has : MD := (yX6_has, cX6_has, 2, some .boolean)
abbrev mX6_ones : MD := (yX6_ones, cX6_ones, 3, some .int)
abbrev mX6_write : MD := (yX6_write, cX6_write, 2, some .int)
abbrev mX6_wipe : MD := (yX6_wipe, cX6_wipe, 2, some .int)
abbrev mX6_mayBe : MD := (yX6_mayBe, cX6_mayBe, 3, some .boolean)
abbrev mX6_fault : MD := (yX6_fault, cX6_fault, 2, some .int)
abbrev mX6_parish : MD := (yX6_parish, cX6_parish, 3, some .int)
abbrev mX6_isWedding : MD := (yX6_isWedding, cX6_isWedding, 2, some .boolean)
abbrev mX6_isChurch : MD := (yX6_isChurch, cX6_isChurch, 1, some .boolean)
abbrev mX6_every : MD := (yX6_every, cX6_every, 1, some .int)
abbrev mX6_wayOn : MD := (yX6_wayOn, cX6_wayOn, 7, some .int)
abbrev mX6_begins : MD := (yX6_begins, cX6_begins, 8, some .int)
abbrev mX6_lasts : MD := (yX6_lasts, cX6_lasts, 2, some .int)
abbrev mX6_behind : MD := (yX6_behind, cX6_behind, 3, some .int)
abbrev mX6_beginsNow : MD := (yX6_beginsNow, cX6_beginsNow, 4, some .int)
abbrev mX6_wedOn : MD := (yX6_wedOn, cX6_wedOn, 5, some .boolean)
abbrev mX6_wedding : MD := (yX6_wedding, cX6_wedding, 3, some .int)
abbrev mX6_road : MD := (yX6_road, cX6_road, 2, some .int)
abbrev mX6_way : MD := (yX6_way, cX6_way, 3, some .int)
abbrev mX6_keepAct : MD := (yX6_keepAct, cX6_keepAct, 2, none)
abbrev mX6_wed : MD := (yX6_wed, cX6_wed, 2, some .int)
abbrev mX6_carry : MD := (yX6_carry, cX6_carry, 2, some .int)
abbrev mX6_linger : MD := (yX6_linger, cX6_linger, 1, some .int)
abbrev mX6_mend : MD := (yX6_mend, cX6_mend, 2, some .int)
abbrev mX6_undo : MD := (yX6_undo, cX6_undo, 2, some .int)
abbrev mX6_noteEarlier : MD := (yX6_noteEarlier, cX6_noteEarlier, 6, none)
abbrev mX6_mostOn : MD := (yX6_mostOn, cX6_mostOn, 9, some .int)
abbrev mX6_endOf : MD := (yX6_endOf, cX6_endOf, 5, some .int)
abbrev mX6_layTrial : MD := (yX6_layTrial, cX6_layTrial, 2, none)
abbrev mX6_firstRow : MD := (yX6_firstRow, cX6_firstRow, 6, some .int)
abbrev mX6_goesOn : MD := (yX6_goesOn, cX6_goesOn, 6, some .boolean)
abbrev mX6_most : MD := (yX6_most, cX6_most, 3, some .int)
abbrev mX6_slack : MD := (yX6_slack, cX6_slack, 3, some .int)
abbrev mX6_mending : MD := (yX6_mending, cX6_mending, 6, some .int)
abbrev mX6_tenTo : MD := (yX6_tenTo, cX6_tenTo, 3, some .int)
abbrev mX6_judge : MD := (yX6_judge, cX6_judge, 5, some .int)
abbrev mX6_later : MD := (yX6_later, cX6_later, 4, some .int)
abbrev mX6_see : MD := (yX6_see, cX6_see, 3, some .int)
abbrev mX6_unsee : MD := (yX6_unsee, cX6_unsee, 2, some .int)
abbrev mX6_isSeen : MD := (yX6_isSeen, cX6_isSeen, 4, some .boolean)
abbrev mX6_rowsOf : MD := (yX6_rowsOf, cX6_rowsOf, 4, some .int)
abbrev mX6_rowBy : MD := (yX6_rowBy, cX6_rowBy, 13, some .int)
abbrev mX6_rows : MD := (yX6_rows, cX6_rows, 9, some .int)
abbrev mX6_factorial : MD := (yX6_factorial, cX6_factorial, 3, some .int)
abbrev mX6_common : MD := (yX6_common, cX6_common, 5, some .int)
abbrev mX6_share : MD := (yX6_share, cX6_share, 7, some .int)
abbrev mX6_bringsOf : MD := (yX6_bringsOf, cX6_bringsOf, 3, some .int)
abbrev mX6_gain : MD := (yX6_gain, cX6_gain, 6, some .int)
abbrev mX6_isRest : MD := (yX6_isRest, cX6_isRest, 5, some .boolean)
abbrev mX6_rests : MD := (yX6_rests, cX6_rests, 7, some .int)
abbrev mX6_areOpen : MD := (yX6_areOpen, cX6_areOpen, 7, some .boolean)
abbrev mX6_holds : MD := (yX6_holds, cX6_holds, 9, some .boolean)
abbrev mX6_waysIn : MD := (yX6_waysIn, cX6_waysIn, 7, some .int)
abbrev mX6_power : MD := (yX6_power, cX6_power, 4, some .int)
abbrev mX6_falls : MD := (yX6_falls, cX6_falls, 10, some .int)
abbrev mX6_seed : MD := (yX6_seed, cX6_seed, 5, some .long)
abbrev mX6_summers : MD := (yX6_summers, cX6_summers, 5, some .int)
abbrev mX6_keep : MD := (yX6_keep, cX6_keep, 3, some .int)
abbrev mX6_again : MD := (yX6_again, cX6_again, 3, some .int)
abbrev mX6_count : MD := (yX6_count, cX6_count, 4, some .int)
abbrev mJ6_bitCount_0f7a4 : MD := (yJ6_bitCount_0f7a4, cJ6_bitCount_0f7a4, 1, some .int)
abbrev mJ9_max_7cf53 : MD := (yJ9_max_7cf53, cJ9_max_7cf53, 2, some .int)
abbrev mJ9_min_7cf53 : MD := (yJ9_min_7cf53, cJ9_min_7cf53, 2, some .int)
theorem miX0_clear : MI mX0_clear (RK 0) 0 1 := ⟨rfl, tw_1_13, tw_1_14, tw_0_5, tw_1_15, ⟨by decide +kernel, by decide +kernel, by decide +kernel⟩, by decide, by decide +kernel, by decide⟩
theorem miX0_standAt : MI mX0_standAt (RK 0) 1 2 := ⟨rfl, tw_1_75, tw_p_3, tw_0_5, tw_1_76, ⟨by decide +kernel, by decide +kernel, by decide +kernel⟩, by decide, by decide +kernel, by decide⟩
theorem miX0_remember : MI mX0_remember (RK 0) 1 2 := ⟨rfl, tw_1_70, tw_1_71, tw_0_5, tw_1_72, ⟨by decide +kernel, by decide +kernel, by decide +kernel⟩, by decide, by decide +kernel, by decide⟩
theorem miX0_takeBack : MI mX0_takeBack (RK 0) 1 2 := ⟨rfl, tw_1_111, tw_1_112, tw_0_5, tw_1_113, ⟨by decide +kernel, by decide +kernel, by decide +kernel⟩, by decide, by decide +kernel, by decide⟩
theorem miX1_readFrom : MI mX1_readFrom (RK 1) 1 2 := ⟨rfl, tw_0_236, tw_0_237, tw_0_3, tw_0_238, ⟨by decide +kernel, by decide +kernel, by decide +kernel⟩, by decide, by decide +kernel, by decide⟩
theorem miX1_has : MI mX1_has (RK 1) 1 2 := ⟨rfl, tw_1_21, tw_1_22, tw_0_3, tw_1_23, ⟨by decide +kernel, by decide +kernel, by decide +kernel⟩, by decide, by decide +kernel, by decide⟩
theorem miX1_everyone : MI mX1_everyone (RK 1) 0 1 := ⟨rfl, tw_1_197, tw_1_198, tw_0_3, tw_1_199, ⟨by decide +kernel, by decide +kernel, by decide +kernel⟩, by decide, by decide +kernel, by decide⟩
theorem miX1_figure : MI mX1_figure (RK 1) 2 3 := ⟨rfl, tw_1_1, tw_1_2, tw_0_3, tw_1_3, ⟨by decide +kernel, by decide +kernel, by decide +kernel⟩, by decide, by decide +kernel, by decide⟩
theorem miX1_begin : MI mX1_begin (RK 1) 3 4 := ⟨rfl, tw_1_45, tw_1_46, tw_0_3, tw_1_47, ⟨by decide +kernel, by decide +kernel, by decide +kernel⟩, by decide, by decide +kernel, by decide⟩
theorem miX1_ringFree : MI mX1_ringFree (RK 1) 2 3 := ⟨rfl, tw_1_87, tw_1_88, tw_0_3, tw_1_89, ⟨by decide +kernel, by decide +kernel, by decide +kernel⟩, by decide, by decide +kernel, by decide⟩
theorem miX1_beginOn : MI mX1_beginOn (RK 1) 2 3 := ⟨rfl, tw_1_30, tw_1_31, tw_0_3, tw_1_32, ⟨by decide +kernel, by decide +kernel, by decide +kernel⟩, by decide, by decide +kernel, by decide⟩
theorem miX1_celebrate : MI mX1_celebrate (RK 1) 2 3 := ⟨rfl, tw_1_82, tw_1_83, tw_0_3, tw_1_84, ⟨by decide +kernel, by decide +kernel, by decide +kernel⟩, by decide, by decide +kernel, by decide⟩
theorem miX2_runFrom : MI mX2_runFrom (RK 2) 2 3 := ⟨rfl, tw_1_119, tw_1_120, tw_0_6, tw_1_121, ⟨by decide +kernel, by decide +kernel, by decide +kernel⟩, by decide, by decide +kernel, by decide⟩
theorem miX2_reset : MI mX2_reset (RK 2) 2 3 := ⟨rfl, tw_1_123, tw_1_124, tw_0_6, tw_1_125, ⟨by decide +kernel, by decide +kernel, by decide +kernel⟩, by decide, by decide +kernel, by decide⟩
theorem miX2_allowOnly : MI mX2_allowOnly (RK 2) 2 3 := ⟨rfl, tw_1_192, tw_1_193, tw_0_6, tw_1_194, ⟨by decide +kernel, by decide +kernel, by decide +kernel⟩, by decide, by decide +kernel, by decide⟩
theorem miX2_run : MI mX2_run (RK 2) 1 2 := ⟨rfl, tw_1_128, tw_1_129, tw_0_6, tw_1_130, ⟨by decide +kernel, by decide +kernel, by decide +kernel⟩, by decide, by decide +kernel, by decide⟩
theorem miX2_allows : MI mX2_allows (RK 2) 2 3 := ⟨rfl, tw_1_133, tw_p_4, tw_0_6, tw_1_134, ⟨by decide +kernel, by decide +kernel, by decide +kernel⟩, by decide, by decide +kernel, by decide⟩
theorem miX2_record : MI mX2_record (RK 2) 4 5 := ⟨rfl, tw_1_141, tw_p_5, tw_0_6, tw_1_142, ⟨by decide +kernel, by decide +kernel, by decide +kernel⟩, by decide, by decide +kernel, by decide⟩
theorem msX2_goOn : MS mX2_goOn 7 7 := ⟨tw_1_137, tw_0_6, tw_1_138, ⟨by decide +kernel, by decide +kernel, by decide +kernel⟩, by decide, by decide +kernel, by decide⟩
theorem miX3_take : MI mX3_take (RK 3) 1 2 := ⟨rfl, tw_1_78, tw_1_79, tw_0_4, tw_1_80, ⟨by decide +kernel, by decide +kernel, by decide +kernel⟩, by decide, by decide +kernel, by decide⟩
theorem miX3_readFrom : MI mX3_readFrom (RK 3) 1 2 := ⟨rfl, tw_1_8, tw_1_9, tw_0_4, tw_1_10, ⟨by decide +kernel, by decide +kernel, by decide +kernel⟩, by decide, by decide +kernel, by decide⟩
theorem miX3_isWed : MI mX3_isWed (RK 3) 1 2 := ⟨rfl, tw_1_26, tw_1_27, tw_0_4, tw_1_28, ⟨by decide +kernel, by decide +kernel, by decide +kernel⟩, by decide, by decide +kernel, by decide⟩
theorem miX3_shorten : MI mX3_shorten (RK 3) 1 2 := ⟨rfl, tw_1_103, tw_1_104, tw_0_4, tw_1_105, ⟨by decide +kernel, by decide +kernel, by decide +kernel⟩, by decide, by decide +kernel, by decide⟩
theorem miX3_hoursBetween : MI mX3_hoursBetween (RK 3) 2 3 := ⟨rfl, tw_1_36, tw_1_37, tw_0_4, tw_1_38, ⟨by decide +kernel, by decide +kernel, by decide +kernel⟩, by decide, by decide +kernel, by decide⟩
theorem miX4_add : MI mX4_add (RK 4) 1 2 := ⟨rfl, tw_0_197, tw_0_198, tw_0_2, tw_0_199, ⟨by decide +kernel, by decide +kernel, by decide +kernel⟩, by decide, by decide +kernel, by decide⟩
theorem miX4_figure : MI mX4_figure (RK 4) 1 2 := ⟨rfl, tw_0_225, tw_0_226, tw_0_2, tw_0_227, ⟨by decide +kernel, by decide +kernel, by decide +kernel⟩, by decide, by decide +kernel, by decide⟩
theorem miX4_firstFault : MI mX4_firstFault (RK 4) 0 1 := ⟨rfl, tw_0_209, tw_0_210, tw_0_2, tw_0_211, ⟨by decide +kernel, by decide +kernel, by decide +kernel⟩, by decide, by decide +kernel, by decide⟩
theorem miX4_fits : MI mX4_fits (RK 4) 1 2 := ⟨rfl, tw_0_214, tw_p_0, tw_0_2, tw_0_215, ⟨by decide +kernel, by decide +kernel, by decide +kernel⟩, by decide, by decide +kernel, by decide⟩
theorem miX4_fitsWedding : MI mX4_fitsWedding (RK 4) 1 2 := ⟨rfl, tw_0_218, tw_p_1, tw_0_2, tw_0_219, ⟨by decide +kernel, by decide +kernel, by decide +kernel⟩, by decide, by decide +kernel, by decide⟩
theorem miX4_isFigure : MI mX4_isFigure (RK 4) 3 4 := ⟨rfl, tw_0_222, tw_p_2, tw_0_2, tw_0_223, ⟨by decide +kernel, by decide +kernel, by decide +kernel⟩, by decide, by decide +kernel, by decide⟩
theorem miX5_write : MI mX5_write (RK 5) 1 2 := ⟨rfl, tw_0_193, tw_0_194, tw_0_1, tw_0_195, ⟨by decide +kernel, by decide +kernel, by decide +kernel⟩, by decide, by decide +kernel, by decide⟩
theorem miX5_wipe : MI mX5_wipe (RK 5) 0 1 := ⟨rfl, tw_0_201, tw_0_202, tw_0_1, tw_0_203, ⟨by decide +kernel, by decide +kernel, by decide +kernel⟩, by decide, by decide +kernel, by decide⟩
theorem miX5_fault : MI mX5_fault (RK 5) 0 1 := ⟨rfl, tw_0_205, tw_0_206, tw_0_1, tw_0_207, ⟨by decide +kernel, by decide +kernel, by decide +kernel⟩, by decide, by decide +kernel, by decide⟩
theorem miX5_parish : MI mX5_parish (RK 5) 0 1 := ⟨rfl, tw_0_232, tw_0_233, tw_0_1, tw_0_234, ⟨by decide +kernel, by decide +kernel, by decide +kernel⟩, by decide, by decide +kernel, by decide⟩
theorem miX5_wedding : MI mX5_wedding (RK 5) 2 3 := ⟨rfl, tw_1_17, tw_1_18, tw_0_1, tw_1_19, ⟨by decide +kernel, by decide +kernel, by decide +kernel⟩, by decide, by decide +kernel, by decide⟩
theorem miX5_road : MI mX5_road (RK 5) 1 2 := ⟨rfl, tw_1_50, tw_1_51, tw_0_1, tw_1_52, ⟨by decide +kernel, by decide +kernel, by decide +kernel⟩, by decide, by decide +kernel, by decide⟩
theorem miX5_way : MI mX5_way (RK 5) 2 3 := ⟨rfl, tw_1_58, tw_1_59, tw_0_1, tw_1_60, ⟨by decide +kernel, by decide +kernel, by decide +kernel⟩, by decide, by decide +kernel, by decide⟩
theorem miX5_wed : MI mX5_wed (RK 5) 1 2 := ⟨rfl, tw_1_66, tw_1_67, tw_0_1, tw_1_68, ⟨by decide +kernel, by decide +kernel, by decide +kernel⟩, by decide, by decide +kernel, by decide⟩
theorem miX5_carry : MI mX5_carry (RK 5) 1 2 := ⟨rfl, tw_1_91, tw_1_92, tw_0_1, tw_1_93, ⟨by decide +kernel, by decide +kernel, by decide +kernel⟩, by decide, by decide +kernel, by decide⟩
theorem miX5_linger : MI mX5_linger (RK 5) 0 1 := ⟨rfl, tw_1_95, tw_1_96, tw_0_1, tw_1_97, ⟨by decide +kernel, by decide +kernel, by decide +kernel⟩, by decide, by decide +kernel, by decide⟩
theorem miX5_mend : MI mX5_mend (RK 5) 1 2 := ⟨rfl, tw_1_99, tw_1_100, tw_0_1, tw_1_101, ⟨by decide +kernel, by decide +kernel, by decide +kernel⟩, by decide, by decide +kernel, by decide⟩
theorem miX5_undo : MI mX5_undo (RK 5) 0 1 := ⟨rfl, tw_1_107, tw_1_108, tw_0_1, tw_1_109, ⟨by decide +kernel, by decide +kernel, by decide +kernel⟩, by decide, by decide +kernel, by decide⟩
theorem miX5_most : MI mX5_most (RK 5) 1 2 := ⟨rfl, tw_1_115, tw_1_116, tw_0_1, tw_1_117, ⟨by decide +kernel, by decide +kernel, by decide +kernel⟩, by decide, by decide +kernel, by decide⟩
theorem miX5_slack : MI mX5_slack (RK 5) 0 1 := ⟨rfl, tw_1_149, tw_1_150, tw_0_1, tw_1_151, ⟨by decide +kernel, by decide +kernel, by decide +kernel⟩, by decide, by decide +kernel, by decide⟩
theorem miX5_mending : MI mX5_mending (RK 5) 1 2 := ⟨rfl, tw_1_158, tw_1_159, tw_0_1, tw_1_160, ⟨by decide +kernel, by decide +kernel, by decide +kernel⟩, by decide, by decide +kernel, by decide⟩
theorem miX5_judge : MI mX5_judge (RK 5) 2 3 := ⟨rfl, tw_1_162, tw_1_163, tw_0_1, tw_1_164, ⟨by decide +kernel, by decide +kernel, by decide +kernel⟩, by decide, by decide +kernel, by decide⟩
theorem miX5_later : MI mX5_later (RK 5) 1 2 := ⟨rfl, tw_1_174, tw_1_175, tw_0_1, tw_1_176, ⟨by decide +kernel, by decide +kernel, by decide +kernel⟩, by decide, by decide +kernel, by decide⟩
theorem miX5_see : MI mX5_see (RK 5) 2 3 := ⟨rfl, tw_1_179, tw_1_180, tw_0_1, tw_1_181, ⟨by decide +kernel, by decide +kernel, by decide +kernel⟩, by decide, by decide +kernel, by decide⟩
theorem miX5_unsee : MI mX5_unsee (RK 5) 0 1 := ⟨rfl, tw_1_183, tw_1_184, tw_0_1, tw_1_185, ⟨by decide +kernel, by decide +kernel, by decide +kernel⟩, by decide, by decide +kernel, by decide⟩
theorem miX5_rows : MI mX5_rows (RK 5) 2 3 := ⟨rfl, tw_1_187, tw_1_188, tw_0_1, tw_1_189, ⟨by decide +kernel, by decide +kernel, by decide +kernel⟩, by decide, by decide +kernel, by decide⟩
theorem miX5_share : MI mX5_share (RK 5) 2 3 := ⟨rfl, tw_1_201, tw_1_202, tw_0_1, tw_1_203, ⟨by decide +kernel, by decide +kernel, by decide +kernel⟩, by decide, by decide +kernel, by decide⟩
theorem miX5_rests : MI mX5_rests (RK 5) 3 4 := ⟨rfl, tw_1_224, tw_1_225, tw_0_1, tw_1_226, ⟨by decide +kernel, by decide +kernel, by decide +kernel⟩, by decide, by decide +kernel, by decide⟩
theorem miX5_falls : MI mX5_falls (RK 5) 4 5 := ⟨rfl, tw_1_236, tw_1_237, tw_0_1, tw_1_238, ⟨by decide +kernel, by decide +kernel, by decide +kernel⟩, by decide, by decide +kernel, by decide⟩
theorem miX5_seed : MI mX5_seed (RK 5) 1 3 := ⟨rfl, tw_2_12, tw_2_13, tw_0_1, tw_2_14, ⟨by decide +kernel, by decide +kernel, by decide +kernel⟩, by decide, by decide +kernel, by decide⟩
theorem miX5_summers : MI mX5_summers (RK 5) 1 2 := ⟨rfl, tw_2_16, tw_2_17, tw_0_1, tw_2_18, ⟨by decide +kernel, by decide +kernel, by decide +kernel⟩, by decide, by decide +kernel, by decide⟩
theorem miX5_keep : MI mX5_keep (RK 5) 1 2 := ⟨rfl, tw_2_22, tw_2_23, tw_0_1, tw_2_24, ⟨by decide +kernel, by decide +kernel, by decide +kernel⟩, by decide, by decide +kernel, by decide⟩
theorem miX5_again : MI mX5_again (RK 5) 1 2 := ⟨rfl, tw_2_30, tw_2_31, tw_0_1, tw_2_32, ⟨by decide +kernel, by decide +kernel, by decide +kernel⟩, by decide, by decide +kernel, by decide⟩
theorem miX5_count : MI mX5_count (RK 5) 1 2 := ⟨rfl, tw_2_34, tw_2_35, tw_0_1, tw_2_36, ⟨by decide +kernel, by decide +kernel, by decide +kernel⟩, by decide, by decide +kernel, by decide⟩
theorem msX5_isChurch : MS mX5_isChurch 1 1 := ⟨tw_1_62, tw_0_1, tw_1_63, ⟨by decide +kernel, by decide +kernel, by decide +kernel⟩, by decide, by decide +kernel, by decide⟩
theorem msX5_isRoad : MS mX5_isRoad 1 1 := ⟨tw_1_54, tw_0_1, tw_1_55, ⟨by decide +kernel, by decide +kernel, by decide +kernel⟩, by decide, by decide +kernel, by decide⟩
theorem miX5_isSlot : MI mX5_isSlot (RK 5) 1 2 := ⟨rfl, tw_2_27, tw_p_13, tw_0_1, tw_2_28, ⟨by decide +kernel, by decide +kernel, by decide +kernel⟩, by decide, by decide +kernel, by decide⟩
theorem msX5_at : MS mX5_at 2 2 := ⟨tw_0_229, tw_0_1, tw_0_230, ⟨by decide +kernel, by decide +kernel, by decide +kernel⟩, by decide, by decide +kernel, by decide⟩
theorem msX5_isRow : MS mX5_isRow 2 2 := ⟨tw_1_166, tw_0_1, tw_1_167, ⟨by decide +kernel, by decide +kernel, by decide +kernel⟩, by decide, by decide +kernel, by decide⟩
theorem msX5_weddingInRow : MS mX5_weddingInRow 3 3 := ⟨tw_1_171, tw_0_1, tw_1_172, ⟨by decide +kernel, by decide +kernel, by decide +kernel⟩, by decide, by decide +kernel, by decide⟩
theorem miX5_holdingNext : MI mX5_holdingNext (RK 5) 0 1 := ⟨rfl, tw_2_39, tw_p_14, tw_0_1, tw_2_40, ⟨by decide +kernel, by decide +kernel, by decide +kernel⟩, by decide, by decide +kernel, by decide⟩
theorem miX5_mostFrom : MI mX5_mostFrom (RK 5) 1 2 := ⟨rfl, tw_1_154, tw_p_6, tw_0_1, tw_1_155, ⟨by decide +kernel, by decide +kernel, by decide +kernel⟩, by decide, by decide +kernel, by decide⟩
theorem msX5_fraction : MS mX5_fraction 3 3 := ⟨tw_1_205, tw_0_1, tw_1_206, ⟨by decide +kernel, by decide +kernel, by decide +kernel⟩, by decide, by decide +kernel, by decide⟩
theorem msX5_greatestDivisor : MS mX5_greatestDivisor 2 2 := ⟨tw_1_208, tw_0_1, tw_1_209, ⟨by decide +kernel, by decide +kernel, by decide +kernel⟩, by decide, by decide +kernel, by decide⟩
theorem miX5_fillMostOf : MI mX5_fillMostOf (RK 5) 0 1 := ⟨rfl, tw_1_212, tw_p_7, tw_0_1, tw_1_213, ⟨by decide +kernel, by decide +kernel, by decide +kernel⟩, by decide, by decide +kernel, by decide⟩
theorem miX5_isAtRest : MI mX5_isAtRest (RK 5) 4 5 := ⟨rfl, tw_1_229, tw_p_8, tw_0_1, tw_1_230, ⟨by decide +kernel, by decide +kernel, by decide +kernel⟩, by decide, by decide +kernel, by decide⟩
theorem miX5_gain : MI mX5_gain (RK 5) 4 5 := ⟨rfl, tw_1_233, tw_p_9, tw_0_1, tw_1_234, ⟨by decide +kernel, by decide +kernel, by decide +kernel⟩, by decide, by decide +kernel, by decide⟩
theorem miX5_isRowOfOpenWeddings : MI mX5_isRowOfOpenWeddings (RK 5) 2 3 := ⟨rfl, tw_2_1, tw_p_10, tw_0_1, tw_2_2, ⟨by decide +kernel, by decide +kernel, by decide +kernel⟩, by decide, by decide +kernel, by decide⟩
theorem miX5_weightOfFalls : MI mX5_weightOfFalls (RK 5) 4 5 := ⟨rfl, tw_2_5, tw_p_11, tw_0_1, tw_2_6, ⟨by decide +kernel, by decide +kernel, by decide +kernel⟩, by decide, by decide +kernel, by decide⟩
theorem miX5_holdsWithFalls : MI mX5_holdsWithFalls (RK 5) 3 4 := ⟨rfl, tw_2_9, tw_p_12, tw_0_1, tw_2_10, ⟨by decide +kernel, by decide +kernel, by decide +kernel⟩, by decide, by decide +kernel, by decide⟩
theorem msX6_in : MS mX6_in 3 6 := ⟨tw_2_117, tw_0_7, tw_2_118, ⟨by decide +kernel, by decide +kernel, by decide +kernel⟩, by decide, by decide +kernel, by decide⟩
theorem msX6_has : MS mX6_has 2 2 := ⟨tw_2_152, tw_0_7, tw_2_153, ⟨by decide +kernel, by decide +kernel, by decide +kernel⟩, by decide, by decide +kernel, by decide⟩
theorem msX6_ones : MS mX6_ones 1 1 := ⟨tw_2_228, tw_0_7, tw_2_229, ⟨by decide +kernel, by decide +kernel, by decide +kernel⟩, by decide, by decide +kernel, by decide⟩
theorem miX6_write : MI mX6_write (RK 6) 1 2 := ⟨rfl, tw_2_112, tw_2_113, tw_0_7, tw_2_114, ⟨by decide +kernel, by decide +kernel, by decide +kernel⟩, by decide, by decide +kernel, by decide⟩
theorem miX6_wipe : MI mX6_wipe (RK 6) 0 1 := ⟨rfl, tw_2_120, tw_2_121, tw_0_7, tw_2_122, ⟨by decide +kernel, by decide +kernel, by decide +kernel⟩, by decide, by decide +kernel, by decide⟩
theorem miX6_mayBe : MI mX6_mayBe (RK 6) 1 2 := ⟨rfl, tw_2_129, tw_p_15, tw_0_7, tw_2_130, ⟨by decide +kernel, by decide +kernel, by decide +kernel⟩, by decide, by decide +kernel, by decide⟩
theorem miX6_fault : MI mX6_fault (RK 6) 0 1 := ⟨rfl, tw_2_124, tw_2_125, tw_0_7, tw_2_126, ⟨by decide +kernel, by decide +kernel, by decide +kernel⟩, by decide, by decide +kernel, by decide⟩
theorem miX6_parish : MI mX6_parish (RK 6) 0 1 := ⟨rfl, tw_2_135, tw_2_136, tw_0_7, tw_2_137, ⟨by decide +kernel, by decide +kernel, by decide +kernel⟩, by decide, by decide +kernel, by decide⟩
theorem miX6_isWedding : MI mX6_isWedding (RK 6) 1 2 := ⟨rfl, tw_2_145, tw_p_16, tw_0_7, tw_2_146, ⟨by decide +kernel, by decide +kernel, by decide +kernel⟩, by decide, by decide +kernel, by decide⟩
theorem msX6_isChurch : MS mX6_isChurch 1 1 := ⟨tw_2_176, tw_0_7, tw_2_177, ⟨by decide +kernel, by decide +kernel, by decide +kernel⟩, by decide, by decide +kernel, by decide⟩
theorem miX6_every : MI mX6_every (RK 6) 0 1 := ⟨rfl, tw_2_217, tw_p_24, tw_0_7, tw_2_218, ⟨by decide +kernel, by decide +kernel, by decide +kernel⟩, by decide, by decide +kernel, by decide⟩
theorem miX6_wayOn : MI mX6_wayOn (RK 6) 3 4 := ⟨rfl, tw_2_160, tw_p_19, tw_0_7, tw_2_161, ⟨by decide +kernel, by decide +kernel, by decide +kernel⟩, by decide, by decide +kernel, by decide⟩
theorem miX6_begins : MI mX6_begins (RK 6) 5 6 := ⟨rfl, tw_2_156, tw_p_18, tw_0_7, tw_2_157, ⟨by decide +kernel, by decide +kernel, by decide +kernel⟩, by decide, by decide +kernel, by decide⟩
theorem miX6_lasts : MI mX6_lasts (RK 6) 1 2 := ⟨rfl, tw_2_164, tw_p_20, tw_0_7, tw_2_165, ⟨by decide +kernel, by decide +kernel, by decide +kernel⟩, by decide, by decide +kernel, by decide⟩
theorem miX6_behind : MI mX6_behind (RK 6) 2 3 := ⟨rfl, tw_2_192, tw_p_23, tw_0_7, tw_2_193, ⟨by decide +kernel, by decide +kernel, by decide +kernel⟩, by decide, by decide +kernel, by decide⟩
theorem miX6_beginsNow : MI mX6_beginsNow (RK 6) 2 3 := ⟨rfl, tw_2_149, tw_p_17, tw_0_7, tw_2_150, ⟨by decide +kernel, by decide +kernel, by decide +kernel⟩, by decide, by decide +kernel, by decide⟩
theorem miX6_wedOn : MI mX6_wedOn (RK 6) 2 3 := ⟨rfl, tw_2_188, tw_p_22, tw_0_7, tw_2_189, ⟨by decide +kernel, by decide +kernel, by decide +kernel⟩, by decide, by decide +kernel, by decide⟩
theorem miX6_wedding : MI mX6_wedding (RK 6) 2 3 := ⟨rfl, tw_2_140, tw_2_141, tw_0_7, tw_2_142, ⟨by decide +kernel, by decide +kernel, by decide +kernel⟩, by decide, by decide +kernel, by decide⟩
theorem miX6_road : MI mX6_road (RK 6) 1 2 := ⟨rfl, tw_2_167, tw_2_168, tw_0_7, tw_2_169, ⟨by decide +kernel, by decide +kernel, by decide +kernel⟩, by decide, by decide +kernel, by decide⟩
theorem miX6_way : MI mX6_way (RK 6) 2 3 := ⟨rfl, tw_2_172, tw_2_173, tw_0_7, tw_2_174, ⟨by decide +kernel, by decide +kernel, by decide +kernel⟩, by decide, by decide +kernel, by decide⟩
theorem miX6_keepAct : MI mX6_keepAct (RK 6) 0 1 := ⟨rfl, tw_2_184, tw_p_21, tw_0_7, tw_2_185, ⟨by decide +kernel, by decide +kernel, by decide +kernel⟩, by decide, by decide +kernel, by decide⟩
theorem miX6_wed : MI mX6_wed (RK 6) 1 2 := ⟨rfl, tw_2_179, tw_2_180, tw_0_7, tw_2_181, ⟨by decide +kernel, by decide +kernel, by decide +kernel⟩, by decide, by decide +kernel, by decide⟩
theorem miX6_carry : MI mX6_carry (RK 6) 1 2 := ⟨rfl, tw_2_195, tw_2_196, tw_0_7, tw_2_197, ⟨by decide +kernel, by decide +kernel, by decide +kernel⟩, by decide, by decide +kernel, by decide⟩
theorem miX6_linger : MI mX6_linger (RK 6) 0 1 := ⟨rfl, tw_2_199, tw_2_200, tw_0_7, tw_2_201, ⟨by decide +kernel, by decide +kernel, by decide +kernel⟩, by decide, by decide +kernel, by decide⟩
theorem miX6_mend : MI mX6_mend (RK 6) 1 2 := ⟨rfl, tw_2_203, tw_2_204, tw_0_7, tw_2_205, ⟨by decide +kernel, by decide +kernel, by decide +kernel⟩, by decide, by decide +kernel, by decide⟩
theorem miX6_undo : MI mX6_undo (RK 6) 0 1 := ⟨rfl, tw_2_207, tw_2_208, tw_0_7, tw_2_209, ⟨by decide +kernel, by decide +kernel, by decide +kernel⟩, by decide, by decide +kernel, by decide⟩
theorem miX6_noteEarlier : MI mX6_noteEarlier (RK 6) 3 4 := ⟨rfl, tw_2_225, tw_p_26, tw_0_7, tw_2_226, ⟨by decide +kernel, by decide +kernel, by decide +kernel⟩, by decide, by decide +kernel, by decide⟩
theorem miX6_mostOn : MI mX6_mostOn (RK 6) 2 3 := ⟨rfl, tw_2_221, tw_p_25, tw_0_7, tw_2_222, ⟨by decide +kernel, by decide +kernel, by decide +kernel⟩, by decide, by decide +kernel, by decide⟩
theorem miX6_endOf : MI mX6_endOf (RK 6) 1 2 := ⟨rfl, tw_3_5, tw_p_30, tw_0_7, tw_3_6, ⟨by decide +kernel, by decide +kernel, by decide +kernel⟩, by decide, by decide +kernel, by decide⟩
theorem miX6_layTrial : MI mX6_layTrial (RK 6) 0 1 := ⟨rfl, tw_3_0, tw_p_29, tw_0_7, tw_3_1, ⟨by decide +kernel, by decide +kernel, by decide +kernel⟩, by decide, by decide +kernel, by decide⟩
theorem miX6_firstRow : MI mX6_firstRow (RK 6) 1 2 := ⟨rfl, tw_2_232, tw_p_27, tw_0_7, tw_2_233, ⟨by decide +kernel, by decide +kernel, by decide +kernel⟩, by decide, by decide +kernel, by decide⟩
theorem miX6_goesOn : MI mX6_goesOn (RK 6) 3 4 := ⟨rfl, tw_2_236, tw_p_28, tw_0_7, tw_2_237, ⟨by decide +kernel, by decide +kernel, by decide +kernel⟩, by decide, by decide +kernel, by decide⟩
theorem miX6_most : MI mX6_most (RK 6) 1 2 := ⟨rfl, tw_2_211, tw_2_212, tw_0_7, tw_2_213, ⟨by decide +kernel, by decide +kernel, by decide +kernel⟩, by decide, by decide +kernel, by decide⟩
theorem miX6_slack : MI mX6_slack (RK 6) 0 1 := ⟨rfl, tw_3_8, tw_3_9, tw_0_7, tw_3_10, ⟨by decide +kernel, by decide +kernel, by decide +kernel⟩, by decide, by decide +kernel, by decide⟩
theorem miX6_mending : MI mX6_mending (RK 6) 1 2 := ⟨rfl, tw_3_12, tw_3_13, tw_0_7, tw_3_14, ⟨by decide +kernel, by decide +kernel, by decide +kernel⟩, by decide, by decide +kernel, by decide⟩
theorem msX6_tenTo : MS mX6_tenTo 1 1 := ⟨tw_3_21, tw_0_7, tw_3_22, ⟨by decide +kernel, by decide +kernel, by decide +kernel⟩, by decide, by decide +kernel, by decide⟩
theorem miX6_judge : MI mX6_judge (RK 6) 2 3 := ⟨rfl, tw_3_16, tw_3_17, tw_0_7, tw_3_18, ⟨by decide +kernel, by decide +kernel, by decide +kernel⟩, by decide, by decide +kernel, by decide⟩
theorem miX6_later : MI mX6_later (RK 6) 1 2 := ⟨rfl, tw_3_24, tw_3_25, tw_0_7, tw_3_26, ⟨by decide +kernel, by decide +kernel, by decide +kernel⟩, by decide, by decide +kernel, by decide⟩
theorem miX6_see : MI mX6_see (RK 6) 2 3 := ⟨rfl, tw_3_28, tw_3_29, tw_0_7, tw_3_30, ⟨by decide +kernel, by decide +kernel, by decide +kernel⟩, by decide, by decide +kernel, by decide⟩
theorem miX6_unsee : MI mX6_unsee (RK 6) 0 1 := ⟨rfl, tw_3_32, tw_3_33, tw_0_7, tw_3_34, ⟨by decide +kernel, by decide +kernel, by decide +kernel⟩, by decide, by decide +kernel, by decide⟩
theorem miX6_isSeen : MI mX6_isSeen (RK 6) 1 2 := ⟨rfl, tw_3_48, tw_p_32, tw_0_7, tw_3_49, ⟨by decide +kernel, by decide +kernel, by decide +kernel⟩, by decide, by decide +kernel, by decide⟩
theorem msX6_rowsOf : MS mX6_rowsOf 2 2 := ⟨tw_3_40, tw_0_7, tw_3_41, ⟨by decide +kernel, by decide +kernel, by decide +kernel⟩, by decide, by decide +kernel, by decide⟩
theorem miX6_rowBy : MI mX6_rowBy (RK 6) 2 3 := ⟨rfl, tw_3_44, tw_p_31, tw_0_7, tw_3_45, ⟨by decide +kernel, by decide +kernel, by decide +kernel⟩, by decide, by decide +kernel, by decide⟩
theorem miX6_rows : MI mX6_rows (RK 6) 2 3 := ⟨rfl, tw_3_36, tw_3_37, tw_0_7, tw_3_38, ⟨by decide +kernel, by decide +kernel, by decide +kernel⟩, by decide, by decide +kernel, by decide⟩
theorem msX6_factorial : MS mX6_factorial 1 1 := ⟨tw_3_55, tw_0_7, tw_3_56, ⟨by decide +kernel, by decide +kernel, by decide +kernel⟩, by decide, by decide +kernel, by decide⟩
theorem msX6_common : MS mX6_common 2 2 := ⟨tw_3_58, tw_0_7, tw_3_59, ⟨by decide +kernel, by decide +kernel, by decide +kernel⟩, by decide, by decide +kernel, by decide⟩
theorem miX6_share : MI mX6_share (RK 6) 2 3 := ⟨rfl, tw_3_51, tw_3_52, tw_0_7, tw_3_53, ⟨by decide +kernel, by decide +kernel, by decide +kernel⟩, by decide, by decide +kernel, by decide⟩
theorem miX6_bringsOf : MI mX6_bringsOf (RK 6) 1 2 := ⟨rfl, tw_3_74, tw_p_35, tw_0_7, tw_3_75, ⟨by decide +kernel, by decide +kernel, by decide +kernel⟩, by decide, by decide +kernel, by decide⟩
theorem miX6_gain : MI mX6_gain (RK 6) 4 5 := ⟨rfl, tw_3_70, tw_p_34, tw_0_7, tw_3_71, ⟨by decide +kernel, by decide +kernel, by decide +kernel⟩, by decide, by decide +kernel, by decide⟩
theorem miX6_isRest : MI mX6_isRest (RK 6) 4 5 := ⟨rfl, tw_3_66, tw_p_33, tw_0_7, tw_3_67, ⟨by decide +kernel, by decide +kernel, by decide +kernel⟩, by decide, by decide +kernel, by decide⟩
theorem miX6_rests : MI mX6_rests (RK 6) 3 4 := ⟨rfl, tw_3_61, tw_3_62, tw_0_7, tw_3_63, ⟨by decide +kernel, by decide +kernel, by decide +kernel⟩, by decide, by decide +kernel, by decide⟩
theorem miX6_areOpen : MI mX6_areOpen (RK 6) 2 3 := ⟨rfl, tw_3_83, tw_p_36, tw_0_7, tw_3_84, ⟨by decide +kernel, by decide +kernel, by decide +kernel⟩, by decide, by decide +kernel, by decide⟩
theorem miX6_holds : MI mX6_holds (RK 6) 3 4 := ⟨rfl, tw_3_94, tw_p_38, tw_0_7, tw_3_95, ⟨by decide +kernel, by decide +kernel, by decide +kernel⟩, by decide, by decide +kernel, by decide⟩
theorem miX6_waysIn : MI mX6_waysIn (RK 6) 2 3 := ⟨rfl, tw_3_87, tw_p_37, tw_0_7, tw_3_88, ⟨by decide +kernel, by decide +kernel, by decide +kernel⟩, by decide, by decide +kernel, by decide⟩
theorem msX6_power : MS mX6_power 2 2 := ⟨tw_3_90, tw_0_7, tw_3_91, ⟨by decide +kernel, by decide +kernel, by decide +kernel⟩, by decide, by decide +kernel, by decide⟩
theorem miX6_falls : MI mX6_falls (RK 6) 4 5 := ⟨rfl, tw_3_77, tw_3_78, tw_0_7, tw_3_79, ⟨by decide +kernel, by decide +kernel, by decide +kernel⟩, by decide, by decide +kernel, by decide⟩
theorem miX6_seed : MI mX6_seed (RK 6) 1 3 := ⟨rfl, tw_3_97, tw_3_98, tw_0_7, tw_3_99, ⟨by decide +kernel, by decide +kernel, by decide +kernel⟩, by decide, by decide +kernel, by decide⟩
theorem miX6_summers : MI mX6_summers (RK 6) 1 2 := ⟨rfl, tw_3_101, tw_3_102, tw_0_7, tw_3_103, ⟨by decide +kernel, by decide +kernel, by decide +kernel⟩, by decide, by decide +kernel, by decide⟩
theorem miX6_keep : MI mX6_keep (RK 6) 1 2 := ⟨rfl, tw_3_109, tw_3_110, tw_0_7, tw_3_111, ⟨by decide +kernel, by decide +kernel, by decide +kernel⟩, by decide, by decide +kernel, by decide⟩
theorem miX6_again : MI mX6_again (RK 6) 1 2 := ⟨rfl, tw_3_113, tw_3_114, tw_0_7, tw_3_115, ⟨by decide +kernel, by decide +kernel, by decide +kernel⟩, by decide, by decide +kernel, by decide⟩
theorem miX6_count : MI mX6_count (RK 6) 1 2 := ⟨rfl, tw_3_117, tw_3_118, tw_0_7, tw_3_119, ⟨by decide +kernel, by decide +kernel, by decide +kernel⟩, by decide, by decide +kernel, by decide⟩
theorem msJ6_bitCount_0f7a4 : MS mJ6_bitCount_0f7a4 1 1 := ⟨tw_1_215, tw_0_9, tw_1_216, ⟨by decide +kernel, by decide +kernel, by decide +kernel⟩, by decide, by decide +kernel, by decide⟩
end
section
theorem eX0_init_0 : decode cX0_init 0 = .ok (.aload_n 0, 1) ∧ 0 + 1 = 1 := ⟨by decide +kernel, rfl⟩
theorem eX0_init_1 : decode cX0_init 1 = .ok (.invokespecial 3, 3) ∧ 1 + 3 = 4 := ⟨by decide +kernel, rfl⟩
theorem eX0_init_4 : decode cX0_init 4 = .ok (.aload_n 0, 1) ∧ 4 + 1 = 5 := ⟨by decide +kernel, rfl⟩
theorem eX0_init_5 : decode cX0_init 5 = .ok (.bipush 14, 2) ∧ 5 + 2 = 7 := ⟨by decide +kernel, rfl⟩
theorem eX0_init_7 : decode cX0_init 7 = .ok (.anewarray 9, 3) ∧ 7 + 3 = 10 := ⟨by decide +kernel, rfl⟩
theorem eX0_init_10 : decode cX0_init 10 = .ok (.putfield 11, 3) ∧ 10 + 3 = 13 := ⟨by decide +kernel, rfl⟩
theorem eX0_init_13 : decode cX0_init 13 = .ok (.aload_n 0, 1) ∧ 13 + 1 = 14 := ⟨by decide +kernel, rfl⟩
theorem eX0_init_14 : decode cX0_init 14 = .ok (.iconst 0, 1) ∧ 14 + 1 = 15 := ⟨by decide +kernel, rfl⟩
theorem eX0_init_15 : decode cX0_init 15 = .ok (.putfield 17, 3) ∧ 15 + 3 = 18 := ⟨by decide +kernel, rfl⟩
theorem eX0_init_18 : decode cX0_init 18 = .ok (.aload_n 0, 1) ∧ 18 + 1 = 19 := ⟨by decide +kernel, rfl⟩
theorem eX0_init_19 : decode cX0_init 19 = .ok (.iconst 0, 1) ∧ 19 + 1 = 20 := ⟨by decide +kernel, rfl⟩
theorem eX0_init_20 : decode cX0_init 20 = .ok (.putfield 21, 3) ∧ 20 + 3 = 23 := ⟨by decide +kernel, rfl⟩
theorem eX0_init_23 : decode cX0_init 23 = .ok (.iconst 0, 1) ∧ 23 + 1 = 24 := ⟨by decide +kernel, rfl⟩
theorem eX0_init_24 : decode cX0_init 24 = .ok (.istore_n 1, 1) ∧ 24 + 1 = 25 := ⟨by decide +kernel, rfl⟩
theorem eX0_init_25 : decode cX0_init 25 = .ok (.iload_n 1, 1) ∧ 25 + 1 = 26 := ⟨by decide +kernel, rfl⟩
theorem eX0_init_26 : decode cX0_init 26 = .ok (.aload_n 0, 1) ∧ 26 + 1 = 27 := ⟨by decide +kernel, rfl⟩
theorem eX0_init_27 : decode cX0_init 27 = .ok (.getfield 11, 3) ∧ 27 + 3 = 30 := ⟨by decide +kernel, rfl⟩
theorem eX0_init_30 : decode cX0_init 30 = .ok (.arraylength, 1) ∧ 30 + 1 = 31 := ⟨by decide +kernel, rfl⟩
theorem eX0_init_31 : decode cX0_init 31 = .ok (.if_icmp .ge 22, 3) ∧ ((31 : Nat) : Int) + 22 = ((53 : Nat) : Int) ∧ 31 + 3 = 34 := ⟨by decide +kernel, by decide, rfl⟩
theorem eX0_init_34 : decode cX0_init 34 = .ok (.aload_n 0, 1) ∧ 34 + 1 = 35 := ⟨by decide +kernel, rfl⟩
theorem eX0_init_35 : decode cX0_init 35 = .ok (.getfield 11, 3) ∧ 35 + 3 = 38 := ⟨by decide +kernel, rfl⟩
theorem eX0_init_38 : decode cX0_init 38 = .ok (.iload_n 1, 1) ∧ 38 + 1 = 39 := ⟨by decide +kernel, rfl⟩
theorem eX0_init_39 : decode cX0_init 39 = .ok (.new 9, 3) ∧ 39 + 3 = 42 := ⟨by decide +kernel, rfl⟩
theorem eX0_init_42 : decode cX0_init 42 = .ok (.dup, 1) ∧ 42 + 1 = 43 := ⟨by decide +kernel, rfl⟩
theorem eX0_init_43 : decode cX0_init 43 = .ok (.invokespecial 24, 3) ∧ 43 + 3 = 46 := ⟨by decide +kernel, rfl⟩
theorem eX0_init_46 : decode cX0_init 46 = .ok (.aastore, 1) ∧ 46 + 1 = 47 := ⟨by decide +kernel, rfl⟩
theorem eX0_init_47 : decode cX0_init 47 = .ok (.iinc 1 1, 3) ∧ 47 + 3 = 50 := ⟨by decide +kernel, rfl⟩
theorem eX0_init_50 : decode cX0_init 50 = .ok (.goto (-25), 3) ∧ ((50 : Nat) : Int) + (-25) = ((25 : Nat) : Int) := ⟨by decide +kernel, by decide⟩
theorem eX0_init_53 : decode cX0_init 53 = .ok (.return_, 1) := by decide +kernel
theorem eX0_clear_0 : decode cX0_clear 0 = .ok (.aload_n 0, 1) ∧ 0 + 1 = 1 := ⟨by decide +kernel, rfl⟩
theorem eX0_clear_1 : decode cX0_clear 1 = .ok (.iconst 0, 1) ∧ 1 + 1 = 2 := ⟨by decide +kernel, rfl⟩
theorem eX0_clear_2 : decode cX0_clear 2 = .ok (.putfield 17, 3) ∧ 2 + 3 = 5 := ⟨by decide +kernel, rfl⟩
theorem eX0_clear_5 : decode cX0_clear 5 = .ok (.aload_n 0, 1) ∧ 5 + 1 = 6 := ⟨by decide +kernel, rfl⟩
theorem eX0_clear_6 : decode cX0_clear 6 = .ok (.iconst 0, 1) ∧ 6 + 1 = 7 := ⟨by decide +kernel, rfl⟩
theorem eX0_clear_7 : decode cX0_clear 7 = .ok (.putfield 21, 3) ∧ 7 + 3 = 10 := ⟨by decide +kernel, rfl⟩
theorem eX0_clear_10 : decode cX0_clear 10 = .ok (.return_, 1) := by decide +kernel
theorem eX0_standAt_0 : decode cX0_standAt 0 = .ok (.aload_n 0, 1) ∧ 0 + 1 = 1 := ⟨by decide +kernel, rfl⟩
theorem eX0_standAt_1 : decode cX0_standAt 1 = .ok (.getfield 17, 3) ∧ 1 + 3 = 4 := ⟨by decide +kernel, rfl⟩
theorem eX0_standAt_4 : decode cX0_standAt 4 = .ok (.iload_n 1, 1) ∧ 4 + 1 = 5 := ⟨by decide +kernel, rfl⟩
theorem eX0_standAt_5 : decode cX0_standAt 5 = .ok (.iadd, 1) ∧ 5 + 1 = 6 := ⟨by decide +kernel, rfl⟩
theorem eX0_standAt_6 : decode cX0_standAt 6 = .ok (.bipush 14, 2) ∧ 6 + 2 = 8 := ⟨by decide +kernel, rfl⟩
theorem eX0_standAt_8 : decode cX0_standAt 8 = .ok (.irem, 1) ∧ 8 + 1 = 9 := ⟨by decide +kernel, rfl⟩
theorem eX0_standAt_9 : decode cX0_standAt 9 = .ok (.istore_n 2, 1) ∧ 9 + 1 = 10 := ⟨by decide +kernel, rfl⟩
theorem eX0_standAt_10 : decode cX0_standAt 10 = .ok (.iload_n 2, 1) ∧ 10 + 1 = 11 := ⟨by decide +kernel, rfl⟩
theorem eX0_standAt_11 : decode cX0_standAt 11 = .ok (.ifCond .lt 21, 3) ∧ ((11 : Nat) : Int) + 21 = ((32 : Nat) : Int) ∧ 11 + 3 = 14 := ⟨by decide +kernel, by decide, rfl⟩
theorem eX0_standAt_14 : decode cX0_standAt 14 = .ok (.iload_n 2, 1) ∧ 14 + 1 = 15 := ⟨by decide +kernel, rfl⟩
theorem eX0_standAt_15 : decode cX0_standAt 15 = .ok (.aload_n 0, 1) ∧ 15 + 1 = 16 := ⟨by decide +kernel, rfl⟩
theorem eX0_standAt_16 : decode cX0_standAt 16 = .ok (.getfield 11, 3) ∧ 16 + 3 = 19 := ⟨by decide +kernel, rfl⟩
theorem eX0_standAt_19 : decode cX0_standAt 19 = .ok (.arraylength, 1) ∧ 19 + 1 = 20 := ⟨by decide +kernel, rfl⟩
theorem eX0_standAt_20 : decode cX0_standAt 20 = .ok (.if_icmp .ge 12, 3) ∧ ((20 : Nat) : Int) + 12 = ((32 : Nat) : Int) ∧ 20 + 3 = 23 := ⟨by decide +kernel, by decide, rfl⟩
theorem eX0_standAt_23 : decode cX0_standAt 23 = .ok (.aload_n 0, 1) ∧ 23 + 1 = 24 := ⟨by decide +kernel, rfl⟩
theorem eX0_standAt_24 : decode cX0_standAt 24 = .ok (.getfield 11, 3) ∧ 24 + 3 = 27 := ⟨by decide +kernel, rfl⟩
theorem eX0_standAt_27 : decode cX0_standAt 27 = .ok (.iload_n 2, 1) ∧ 27 + 1 = 28 := ⟨by decide +kernel, rfl⟩
theorem eX0_standAt_28 : decode cX0_standAt 28 = .ok (.aaload, 1) ∧ 28 + 1 = 29 := ⟨by decide +kernel, rfl⟩
theorem eX0_standAt_29 : decode cX0_standAt 29 = .ok (.goto 4, 3) ∧ ((29 : Nat) : Int) + 4 = ((33 : Nat) : Int) := ⟨by decide +kernel, by decide⟩
theorem eX0_standAt_32 : decode cX0_standAt 32 = .ok (.aconst_null, 1) ∧ 32 + 1 = 33 := ⟨by decide +kernel, rfl⟩
theorem eX0_standAt_33 : decode cX0_standAt 33 = .ok (.areturn, 1) := by decide +kernel
theorem eX0_remember_0 : decode cX0_remember 0 = .ok (.aload_n 0, 1) ∧ 0 + 1 = 1 := ⟨by decide +kernel, rfl⟩
theorem eX0_remember_1 : decode cX0_remember 1 = .ok (.aload_n 0, 1) ∧ 1 + 1 = 2 := ⟨by decide +kernel, rfl⟩
theorem eX0_remember_2 : decode cX0_remember 2 = .ok (.getfield 21, 3) ∧ 2 + 3 = 5 := ⟨by decide +kernel, rfl⟩
theorem eX0_remember_5 : decode cX0_remember 5 = .ok (.invokevirtual 25, 3) ∧ 5 + 3 = 8 := ⟨by decide +kernel, rfl⟩
theorem eX0_remember_8 : decode cX0_remember 8 = .ok (.astore_n 2, 1) ∧ 8 + 1 = 9 := ⟨by decide +kernel, rfl⟩
theorem eX0_remember_9 : decode cX0_remember 9 = .ok (.aload_n 2, 1) ∧ 9 + 1 = 10 := ⟨by decide +kernel, rfl⟩
theorem eX0_remember_10 : decode cX0_remember 10 = .ok (.ifnonnull 4, 3) ∧ ((10 : Nat) : Int) + 4 = ((14 : Nat) : Int) := ⟨by decide +kernel, by decide⟩
theorem eX0_remember_13 : decode cX0_remember 13 = .ok (.return_, 1) := by decide +kernel
theorem eX0_remember_14 : decode cX0_remember 14 = .ok (.aload_n 2, 1) ∧ 14 + 1 = 15 := ⟨by decide +kernel, rfl⟩
theorem eX0_remember_15 : decode cX0_remember 15 = .ok (.aload_n 1, 1) ∧ 15 + 1 = 16 := ⟨by decide +kernel, rfl⟩
theorem eX0_remember_16 : decode cX0_remember 16 = .ok (.invokevirtual 29, 3) ∧ 16 + 3 = 19 := ⟨by decide +kernel, rfl⟩
theorem eX0_remember_19 : decode cX0_remember 19 = .ok (.aload_n 0, 1) ∧ 19 + 1 = 20 := ⟨by decide +kernel, rfl⟩
theorem eX0_remember_20 : decode cX0_remember 20 = .ok (.getfield 21, 3) ∧ 20 + 3 = 23 := ⟨by decide +kernel, rfl⟩
theorem eX0_remember_23 : decode cX0_remember 23 = .ok (.bipush 14, 2) ∧ 23 + 2 = 25 := ⟨by decide +kernel, rfl⟩
theorem eX0_remember_25 : decode cX0_remember 25 = .ok (.if_icmp .ge 16, 3) ∧ ((25 : Nat) : Int) + 16 = ((41 : Nat) : Int) ∧ 25 + 3 = 28 := ⟨by decide +kernel, by decide, rfl⟩
theorem eX0_remember_28 : decode cX0_remember 28 = .ok (.aload_n 0, 1) ∧ 28 + 1 = 29 := ⟨by decide +kernel, rfl⟩
theorem eX0_remember_29 : decode cX0_remember 29 = .ok (.dup, 1) ∧ 29 + 1 = 30 := ⟨by decide +kernel, rfl⟩
theorem eX0_remember_30 : decode cX0_remember 30 = .ok (.getfield 21, 3) ∧ 30 + 3 = 33 := ⟨by decide +kernel, rfl⟩
theorem eX0_remember_33 : decode cX0_remember 33 = .ok (.iconst 1, 1) ∧ 33 + 1 = 34 := ⟨by decide +kernel, rfl⟩
theorem eX0_remember_34 : decode cX0_remember 34 = .ok (.iadd, 1) ∧ 34 + 1 = 35 := ⟨by decide +kernel, rfl⟩
theorem eX0_remember_35 : decode cX0_remember 35 = .ok (.putfield 21, 3) ∧ 35 + 3 = 38 := ⟨by decide +kernel, rfl⟩
theorem eX0_remember_38 : decode cX0_remember 38 = .ok (.goto 16, 3) ∧ ((38 : Nat) : Int) + 16 = ((54 : Nat) : Int) := ⟨by decide +kernel, by decide⟩
theorem eX0_remember_41 : decode cX0_remember 41 = .ok (.aload_n 0, 1) ∧ 41 + 1 = 42 := ⟨by decide +kernel, rfl⟩
theorem eX0_remember_42 : decode cX0_remember 42 = .ok (.aload_n 0, 1) ∧ 42 + 1 = 43 := ⟨by decide +kernel, rfl⟩
theorem eX0_remember_43 : decode cX0_remember 43 = .ok (.getfield 17, 3) ∧ 43 + 3 = 46 := ⟨by decide +kernel, rfl⟩
theorem eX0_remember_46 : decode cX0_remember 46 = .ok (.iconst 1, 1) ∧ 46 + 1 = 47 := ⟨by decide +kernel, rfl⟩
theorem eX0_remember_47 : decode cX0_remember 47 = .ok (.iadd, 1) ∧ 47 + 1 = 48 := ⟨by decide +kernel, rfl⟩
theorem eX0_remember_48 : decode cX0_remember 48 = .ok (.bipush 14, 2) ∧ 48 + 2 = 50 := ⟨by decide +kernel, rfl⟩
theorem eX0_remember_50 : decode cX0_remember 50 = .ok (.irem, 1) ∧ 50 + 1 = 51 := ⟨by decide +kernel, rfl⟩
theorem eX0_remember_51 : decode cX0_remember 51 = .ok (.putfield 17, 3) ∧ 51 + 3 = 54 := ⟨by decide +kernel, rfl⟩
theorem eX0_remember_54 : decode cX0_remember 54 = .ok (.return_, 1) := by decide +kernel
theorem eX0_takeBack_0 : decode cX0_takeBack 0 = .ok (.aload_n 0, 1) ∧ 0 + 1 = 1 := ⟨by decide +kernel, rfl⟩
theorem eX0_takeBack_1 : decode cX0_takeBack 1 = .ok (.getfield 21, 3) ∧ 1 + 3 = 4 := ⟨by decide +kernel, rfl⟩
theorem eX0_takeBack_4 : decode cX0_takeBack 4 = .ok (.ifCond .gt 5, 3) ∧ ((4 : Nat) : Int) + 5 = ((9 : Nat) : Int) ∧ 4 + 3 = 7 := ⟨by decide +kernel, by decide, rfl⟩
theorem eX0_takeBack_7 : decode cX0_takeBack 7 = .ok (.iconst 0, 1) ∧ 7 + 1 = 8 := ⟨by decide +kernel, rfl⟩
theorem eX0_takeBack_8 : decode cX0_takeBack 8 = .ok (.ireturn, 1) := by decide +kernel
theorem eX0_takeBack_9 : decode cX0_takeBack 9 = .ok (.aload_n 0, 1) ∧ 9 + 1 = 10 := ⟨by decide +kernel, rfl⟩
theorem eX0_takeBack_10 : decode cX0_takeBack 10 = .ok (.dup, 1) ∧ 10 + 1 = 11 := ⟨by decide +kernel, rfl⟩
theorem eX0_takeBack_11 : decode cX0_takeBack 11 = .ok (.getfield 21, 3) ∧ 11 + 3 = 14 := ⟨by decide +kernel, rfl⟩
theorem eX0_takeBack_14 : decode cX0_takeBack 14 = .ok (.iconst 1, 1) ∧ 14 + 1 = 15 := ⟨by decide +kernel, rfl⟩
theorem eX0_takeBack_15 : decode cX0_takeBack 15 = .ok (.isub, 1) ∧ 15 + 1 = 16 := ⟨by decide +kernel, rfl⟩
theorem eX0_takeBack_16 : decode cX0_takeBack 16 = .ok (.putfield 21, 3) ∧ 16 + 3 = 19 := ⟨by decide +kernel, rfl⟩
theorem eX0_takeBack_19 : decode cX0_takeBack 19 = .ok (.aload_n 1, 1) ∧ 19 + 1 = 20 := ⟨by decide +kernel, rfl⟩
theorem eX0_takeBack_20 : decode cX0_takeBack 20 = .ok (.aload_n 0, 1) ∧ 20 + 1 = 21 := ⟨by decide +kernel, rfl⟩
theorem eX0_takeBack_21 : decode cX0_takeBack 21 = .ok (.aload_n 0, 1) ∧ 21 + 1 = 22 := ⟨by decide +kernel, rfl⟩
theorem eX0_takeBack_22 : decode cX0_takeBack 22 = .ok (.getfield 21, 3) ∧ 22 + 3 = 25 := ⟨by decide +kernel, rfl⟩
theorem eX0_takeBack_25 : decode cX0_takeBack 25 = .ok (.invokevirtual 25, 3) ∧ 25 + 3 = 28 := ⟨by decide +kernel, rfl⟩
theorem eX0_takeBack_28 : decode cX0_takeBack 28 = .ok (.invokevirtual 29, 3) ∧ 28 + 3 = 31 := ⟨by decide +kernel, rfl⟩
theorem eX0_takeBack_31 : decode cX0_takeBack 31 = .ok (.iconst 1, 1) ∧ 31 + 1 = 32 := ⟨by decide +kernel, rfl⟩
theorem eX0_takeBack_32 : decode cX0_takeBack 32 = .ok (.ireturn, 1) := by decide +kernel
theorem eX1_init_0 : decode cX1_init 0 = .ok (.aload_n 0, 1) ∧ 0 + 1 = 1 := ⟨by decide +kernel, rfl⟩
theorem eX1_init_1 : decode cX1_init 1 = .ok (.invokespecial 3, 3) ∧ 1 + 3 = 4 := ⟨by decide +kernel, rfl⟩
theorem eX1_init_4 : decode cX1_init 4 = .ok (.aload_n 0, 1) ∧ 4 + 1 = 5 := ⟨by decide +kernel, rfl⟩
theorem eX1_init_5 : decode cX1_init 5 = .ok (.bipush 30, 2) ∧ 5 + 2 = 7 := ⟨by decide +kernel, rfl⟩
theorem eX1_init_7 : decode cX1_init 7 = .ok (.newarray .int, 2) ∧ 7 + 2 = 9 := ⟨by decide +kernel, rfl⟩
theorem eX1_init_9 : decode cX1_init 9 = .ok (.putfield 9, 3) ∧ 9 + 3 = 12 := ⟨by decide +kernel, rfl⟩
theorem eX1_init_12 : decode cX1_init 12 = .ok (.aload_n 0, 1) ∧ 12 + 1 = 13 := ⟨by decide +kernel, rfl⟩
theorem eX1_init_13 : decode cX1_init 13 = .ok (.bipush 6, 2) ∧ 13 + 2 = 15 := ⟨by decide +kernel, rfl⟩
theorem eX1_init_15 : decode cX1_init 15 = .ok (.newarray .int, 2) ∧ 15 + 2 = 17 := ⟨by decide +kernel, rfl⟩
theorem eX1_init_17 : decode cX1_init 17 = .ok (.putfield 15, 3) ∧ 17 + 3 = 20 := ⟨by decide +kernel, rfl⟩
theorem eX1_init_20 : decode cX1_init 20 = .ok (.aload_n 0, 1) ∧ 20 + 1 = 21 := ⟨by decide +kernel, rfl⟩
theorem eX1_init_21 : decode cX1_init 21 = .ok (.iconst 0, 1) ∧ 21 + 1 = 22 := ⟨by decide +kernel, rfl⟩
theorem eX1_init_22 : decode cX1_init 22 = .ok (.putfield 18, 3) ∧ 22 + 3 = 25 := ⟨by decide +kernel, rfl⟩
theorem eX1_init_25 : decode cX1_init 25 = .ok (.aload_n 0, 1) ∧ 25 + 1 = 26 := ⟨by decide +kernel, rfl⟩
theorem eX1_init_26 : decode cX1_init 26 = .ok (.bipush 9, 2) ∧ 26 + 2 = 28 := ⟨by decide +kernel, rfl⟩
theorem eX1_init_28 : decode cX1_init 28 = .ok (.putfield 22, 3) ∧ 28 + 3 = 31 := ⟨by decide +kernel, rfl⟩
theorem eX1_init_31 : decode cX1_init 31 = .ok (.return_, 1) := by decide +kernel
theorem eX1_readFrom_0 : decode cX1_readFrom 0 = .ok (.aload_n 0, 1) ∧ 0 + 1 = 1 := ⟨by decide +kernel, rfl⟩
theorem eX1_readFrom_1 : decode cX1_readFrom 1 = .ok (.aload_n 1, 1) ∧ 1 + 1 = 2 := ⟨by decide +kernel, rfl⟩
theorem eX1_readFrom_2 : decode cX1_readFrom 2 = .ok (.iconst 1, 1) ∧ 2 + 1 = 3 := ⟨by decide +kernel, rfl⟩
theorem eX1_readFrom_3 : decode cX1_readFrom 3 = .ok (.invokevirtual 25, 3) ∧ 3 + 3 = 6 := ⟨by decide +kernel, rfl⟩
theorem eX1_readFrom_6 : decode cX1_readFrom 6 = .ok (.putfield 22, 3) ∧ 6 + 3 = 9 := ⟨by decide +kernel, rfl⟩
theorem eX1_readFrom_9 : decode cX1_readFrom 9 = .ok (.aload_n 0, 1) ∧ 9 + 1 = 10 := ⟨by decide +kernel, rfl⟩
theorem eX1_readFrom_10 : decode cX1_readFrom 10 = .ok (.aload_n 1, 1) ∧ 10 + 1 = 11 := ⟨by decide +kernel, rfl⟩
theorem eX1_readFrom_11 : decode cX1_readFrom 11 = .ok (.getfield 31, 3) ∧ 11 + 3 = 14 := ⟨by decide +kernel, rfl⟩
theorem eX1_readFrom_14 : decode cX1_readFrom 14 = .ok (.bipush 8, 2) ∧ 14 + 2 = 16 := ⟨by decide +kernel, rfl⟩
theorem eX1_readFrom_16 : decode cX1_readFrom 16 = .ok (.isub, 1) ∧ 16 + 1 = 17 := ⟨by decide +kernel, rfl⟩
theorem eX1_readFrom_17 : decode cX1_readFrom 17 = .ok (.bipush 6, 2) ∧ 17 + 2 = 19 := ⟨by decide +kernel, rfl⟩
theorem eX1_readFrom_19 : decode cX1_readFrom 19 = .ok (.idiv, 1) ∧ 19 + 1 = 20 := ⟨by decide +kernel, rfl⟩
theorem eX1_readFrom_20 : decode cX1_readFrom 20 = .ok (.putfield 18, 3) ∧ 20 + 3 = 23 := ⟨by decide +kernel, rfl⟩
theorem eX1_readFrom_23 : decode cX1_readFrom 23 = .ok (.iconst 0, 1) ∧ 23 + 1 = 24 := ⟨by decide +kernel, rfl⟩
theorem eX1_readFrom_24 : decode cX1_readFrom 24 = .ok (.istore_n 2, 1) ∧ 24 + 1 = 25 := ⟨by decide +kernel, rfl⟩
theorem eX1_readFrom_25 : decode cX1_readFrom 25 = .ok (.iload_n 2, 1) ∧ 25 + 1 = 26 := ⟨by decide +kernel, rfl⟩
theorem eX1_readFrom_26 : decode cX1_readFrom 26 = .ok (.aload_n 0, 1) ∧ 26 + 1 = 27 := ⟨by decide +kernel, rfl⟩
theorem eX1_readFrom_27 : decode cX1_readFrom 27 = .ok (.getfield 9, 3) ∧ 27 + 3 = 30 := ⟨by decide +kernel, rfl⟩
theorem eX1_readFrom_30 : decode cX1_readFrom 30 = .ok (.arraylength, 1) ∧ 30 + 1 = 31 := ⟨by decide +kernel, rfl⟩
theorem eX1_readFrom_31 : decode cX1_readFrom 31 = .ok (.if_icmp .ge 48, 3) ∧ ((31 : Nat) : Int) + 48 = ((79 : Nat) : Int) ∧ 31 + 3 = 34 := ⟨by decide +kernel, by decide, rfl⟩
theorem eX1_readFrom_34 : decode cX1_readFrom 34 = .ok (.bipush 8, 2) ∧ 34 + 2 = 36 := ⟨by decide +kernel, rfl⟩
theorem eX1_readFrom_36 : decode cX1_readFrom 36 = .ok (.iload_n 2, 1) ∧ 36 + 1 = 37 := ⟨by decide +kernel, rfl⟩
theorem eX1_readFrom_37 : decode cX1_readFrom 37 = .ok (.iconst 5, 1) ∧ 37 + 1 = 38 := ⟨by decide +kernel, rfl⟩
theorem eX1_readFrom_38 : decode cX1_readFrom 38 = .ok (.idiv, 1) ∧ 38 + 1 = 39 := ⟨by decide +kernel, rfl⟩
theorem eX1_readFrom_39 : decode cX1_readFrom 39 = .ok (.bipush 6, 2) ∧ 39 + 2 = 41 := ⟨by decide +kernel, rfl⟩
theorem eX1_readFrom_41 : decode cX1_readFrom 41 = .ok (.imul, 1) ∧ 41 + 1 = 42 := ⟨by decide +kernel, rfl⟩
theorem eX1_readFrom_42 : decode cX1_readFrom 42 = .ok (.iadd, 1) ∧ 42 + 1 = 43 := ⟨by decide +kernel, rfl⟩
theorem eX1_readFrom_43 : decode cX1_readFrom 43 = .ok (.iconst 1, 1) ∧ 43 + 1 = 44 := ⟨by decide +kernel, rfl⟩
theorem eX1_readFrom_44 : decode cX1_readFrom 44 = .ok (.iadd, 1) ∧ 44 + 1 = 45 := ⟨by decide +kernel, rfl⟩
theorem eX1_readFrom_45 : decode cX1_readFrom 45 = .ok (.iload_n 2, 1) ∧ 45 + 1 = 46 := ⟨by decide +kernel, rfl⟩
theorem eX1_readFrom_46 : decode cX1_readFrom 46 = .ok (.iconst 5, 1) ∧ 46 + 1 = 47 := ⟨by decide +kernel, rfl⟩
theorem eX1_readFrom_47 : decode cX1_readFrom 47 = .ok (.irem, 1) ∧ 47 + 1 = 48 := ⟨by decide +kernel, rfl⟩
theorem eX1_readFrom_48 : decode cX1_readFrom 48 = .ok (.iadd, 1) ∧ 48 + 1 = 49 := ⟨by decide +kernel, rfl⟩
theorem eX1_readFrom_49 : decode cX1_readFrom 49 = .ok (.istore_n 3, 1) ∧ 49 + 1 = 50 := ⟨by decide +kernel, rfl⟩
theorem eX1_readFrom_50 : decode cX1_readFrom 50 = .ok (.aload_n 0, 1) ∧ 50 + 1 = 51 := ⟨by decide +kernel, rfl⟩
theorem eX1_readFrom_51 : decode cX1_readFrom 51 = .ok (.getfield 9, 3) ∧ 51 + 3 = 54 := ⟨by decide +kernel, rfl⟩
theorem eX1_readFrom_54 : decode cX1_readFrom 54 = .ok (.iload_n 2, 1) ∧ 54 + 1 = 55 := ⟨by decide +kernel, rfl⟩
theorem eX1_readFrom_55 : decode cX1_readFrom 55 = .ok (.iload_n 3, 1) ∧ 55 + 1 = 56 := ⟨by decide +kernel, rfl⟩
theorem eX1_readFrom_56 : decode cX1_readFrom 56 = .ok (.aload_n 1, 1) ∧ 56 + 1 = 57 := ⟨by decide +kernel, rfl⟩
theorem eX1_readFrom_57 : decode cX1_readFrom 57 = .ok (.getfield 31, 3) ∧ 57 + 3 = 60 := ⟨by decide +kernel, rfl⟩
theorem eX1_readFrom_60 : decode cX1_readFrom 60 = .ok (.if_icmp .ge 11, 3) ∧ ((60 : Nat) : Int) + 11 = ((71 : Nat) : Int) ∧ 60 + 3 = 63 := ⟨by decide +kernel, by decide, rfl⟩
theorem eX1_readFrom_63 : decode cX1_readFrom 63 = .ok (.aload_n 1, 1) ∧ 63 + 1 = 64 := ⟨by decide +kernel, rfl⟩
theorem eX1_readFrom_64 : decode cX1_readFrom 64 = .ok (.iload_n 3, 1) ∧ 64 + 1 = 65 := ⟨by decide +kernel, rfl⟩
theorem eX1_readFrom_65 : decode cX1_readFrom 65 = .ok (.invokevirtual 25, 3) ∧ 65 + 3 = 68 := ⟨by decide +kernel, rfl⟩
theorem eX1_readFrom_68 : decode cX1_readFrom 68 = .ok (.goto 4, 3) ∧ ((68 : Nat) : Int) + 4 = ((72 : Nat) : Int) := ⟨by decide +kernel, by decide⟩
theorem eX1_readFrom_71 : decode cX1_readFrom 71 = .ok (.iconst 0, 1) ∧ 71 + 1 = 72 := ⟨by decide +kernel, rfl⟩
theorem eX1_readFrom_72 : decode cX1_readFrom 72 = .ok (.iastore, 1) ∧ 72 + 1 = 73 := ⟨by decide +kernel, rfl⟩
theorem eX1_readFrom_73 : decode cX1_readFrom 73 = .ok (.iinc 2 1, 3) ∧ 73 + 3 = 76 := ⟨by decide +kernel, rfl⟩
theorem eX1_readFrom_76 : decode cX1_readFrom 76 = .ok (.goto (-51), 3) ∧ ((76 : Nat) : Int) + (-51) = ((25 : Nat) : Int) := ⟨by decide +kernel, by decide⟩
theorem eX1_readFrom_79 : decode cX1_readFrom 79 = .ok (.iconst 0, 1) ∧ 79 + 1 = 80 := ⟨by decide +kernel, rfl⟩
theorem eX1_readFrom_80 : decode cX1_readFrom 80 = .ok (.istore_n 2, 1) ∧ 80 + 1 = 81 := ⟨by decide +kernel, rfl⟩
theorem eX1_readFrom_81 : decode cX1_readFrom 81 = .ok (.iload_n 2, 1) ∧ 81 + 1 = 82 := ⟨by decide +kernel, rfl⟩
theorem eX1_readFrom_82 : decode cX1_readFrom 82 = .ok (.aload_n 0, 1) ∧ 82 + 1 = 83 := ⟨by decide +kernel, rfl⟩
theorem eX1_readFrom_83 : decode cX1_readFrom 83 = .ok (.getfield 15, 3) ∧ 83 + 3 = 86 := ⟨by decide +kernel, rfl⟩
theorem eX1_readFrom_86 : decode cX1_readFrom 86 = .ok (.arraylength, 1) ∧ 86 + 1 = 87 := ⟨by decide +kernel, rfl⟩
theorem eX1_readFrom_87 : decode cX1_readFrom 87 = .ok (.if_icmp .ge 43, 3) ∧ ((87 : Nat) : Int) + 43 = ((130 : Nat) : Int) ∧ 87 + 3 = 90 := ⟨by decide +kernel, by decide, rfl⟩
theorem eX1_readFrom_90 : decode cX1_readFrom 90 = .ok (.aload_n 0, 1) ∧ 90 + 1 = 91 := ⟨by decide +kernel, rfl⟩
theorem eX1_readFrom_91 : decode cX1_readFrom 91 = .ok (.iload_n 2, 1) ∧ 91 + 1 = 92 := ⟨by decide +kernel, rfl⟩
theorem eX1_readFrom_92 : decode cX1_readFrom 92 = .ok (.iconst 4, 1) ∧ 92 + 1 = 93 := ⟨by decide +kernel, rfl⟩
theorem eX1_readFrom_93 : decode cX1_readFrom 93 = .ok (.invokevirtual 34, 3) ∧ 93 + 3 = 96 := ⟨by decide +kernel, rfl⟩
theorem eX1_readFrom_96 : decode cX1_readFrom 96 = .ok (.iconst 3, 1) ∧ 96 + 1 = 97 := ⟨by decide +kernel, rfl⟩
theorem eX1_readFrom_97 : decode cX1_readFrom 97 = .ok (.if_icmp .ne 7, 3) ∧ ((97 : Nat) : Int) + 7 = ((104 : Nat) : Int) ∧ 97 + 3 = 100 := ⟨by decide +kernel, by decide, rfl⟩
theorem eX1_readFrom_100 : decode cX1_readFrom 100 = .ok (.iconst 1, 1) ∧ 100 + 1 = 101 := ⟨by decide +kernel, rfl⟩
theorem eX1_readFrom_101 : decode cX1_readFrom 101 = .ok (.goto 4, 3) ∧ ((101 : Nat) : Int) + 4 = ((105 : Nat) : Int) := ⟨by decide +kernel, by decide⟩
theorem eX1_readFrom_104 : decode cX1_readFrom 104 = .ok (.iconst 0, 1) ∧ 104 + 1 = 105 := ⟨by decide +kernel, rfl⟩
theorem eX1_readFrom_105 : decode cX1_readFrom 105 = .ok (.istore_n 3, 1) ∧ 105 + 1 = 106 := ⟨by decide +kernel, rfl⟩
theorem eX1_readFrom_106 : decode cX1_readFrom 106 = .ok (.aload_n 0, 1) ∧ 106 + 1 = 107 := ⟨by decide +kernel, rfl⟩
theorem eX1_readFrom_107 : decode cX1_readFrom 107 = .ok (.getfield 15, 3) ∧ 107 + 3 = 110 := ⟨by decide +kernel, rfl⟩
theorem eX1_readFrom_110 : decode cX1_readFrom 110 = .ok (.iload_n 2, 1) ∧ 110 + 1 = 111 := ⟨by decide +kernel, rfl⟩
theorem eX1_readFrom_111 : decode cX1_readFrom 111 = .ok (.iconst 1, 1) ∧ 111 + 1 = 112 := ⟨by decide +kernel, rfl⟩
theorem eX1_readFrom_112 : decode cX1_readFrom 112 = .ok (.aload_n 0, 1) ∧ 112 + 1 = 113 := ⟨by decide +kernel, rfl⟩
theorem eX1_readFrom_113 : decode cX1_readFrom 113 = .ok (.iload_n 2, 1) ∧ 113 + 1 = 114 := ⟨by decide +kernel, rfl⟩
theorem eX1_readFrom_114 : decode cX1_readFrom 114 = .ok (.iconst 3, 1) ∧ 114 + 1 = 115 := ⟨by decide +kernel, rfl⟩
theorem eX1_readFrom_115 : decode cX1_readFrom 115 = .ok (.invokevirtual 34, 3) ∧ 115 + 3 = 118 := ⟨by decide +kernel, rfl⟩
theorem eX1_readFrom_118 : decode cX1_readFrom 118 = .ok (.iload_n 3, 1) ∧ 118 + 1 = 119 := ⟨by decide +kernel, rfl⟩
theorem eX1_readFrom_119 : decode cX1_readFrom 119 = .ok (.isub, 1) ∧ 119 + 1 = 120 := ⟨by decide +kernel, rfl⟩
theorem eX1_readFrom_120 : decode cX1_readFrom 120 = .ok (.invokestatic 37, 3) ∧ 120 + 3 = 123 := ⟨by decide +kernel, rfl⟩
theorem eX1_readFrom_123 : decode cX1_readFrom 123 = .ok (.iastore, 1) ∧ 123 + 1 = 124 := ⟨by decide +kernel, rfl⟩
theorem eX1_readFrom_124 : decode cX1_readFrom 124 = .ok (.iinc 2 1, 3) ∧ 124 + 3 = 127 := ⟨by decide +kernel, rfl⟩
theorem eX1_readFrom_127 : decode cX1_readFrom 127 = .ok (.goto (-46), 3) ∧ ((127 : Nat) : Int) + (-46) = ((81 : Nat) : Int) := ⟨by decide +kernel, by decide⟩
theorem eX1_readFrom_130 : decode cX1_readFrom 130 = .ok (.return_, 1) := by decide +kernel
theorem eX1_has_0 : decode cX1_has 0 = .ok (.iload_n 1, 1) ∧ 0 + 1 = 1 := ⟨by decide +kernel, rfl⟩
theorem eX1_has_1 : decode cX1_has 1 = .ok (.ifCond .lt 15, 3) ∧ ((1 : Nat) : Int) + 15 = ((16 : Nat) : Int) ∧ 1 + 3 = 4 := ⟨by decide +kernel, by decide, rfl⟩
theorem eX1_has_4 : decode cX1_has 4 = .ok (.iload_n 1, 1) ∧ 4 + 1 = 5 := ⟨by decide +kernel, rfl⟩
theorem eX1_has_5 : decode cX1_has 5 = .ok (.aload_n 0, 1) ∧ 5 + 1 = 6 := ⟨by decide +kernel, rfl⟩
theorem eX1_has_6 : decode cX1_has 6 = .ok (.getfield 18, 3) ∧ 6 + 3 = 9 := ⟨by decide +kernel, rfl⟩
theorem eX1_has_9 : decode cX1_has 9 = .ok (.if_icmp .ge 7, 3) ∧ ((9 : Nat) : Int) + 7 = ((16 : Nat) : Int) ∧ 9 + 3 = 12 := ⟨by decide +kernel, by decide, rfl⟩
theorem eX1_has_12 : decode cX1_has 12 = .ok (.iconst 1, 1) ∧ 12 + 1 = 13 := ⟨by decide +kernel, rfl⟩
theorem eX1_has_13 : decode cX1_has 13 = .ok (.goto 4, 3) ∧ ((13 : Nat) : Int) + 4 = ((17 : Nat) : Int) := ⟨by decide +kernel, by decide⟩
theorem eX1_has_16 : decode cX1_has 16 = .ok (.iconst 0, 1) ∧ 16 + 1 = 17 := ⟨by decide +kernel, rfl⟩
theorem eX1_has_17 : decode cX1_has 17 = .ok (.ireturn, 1) := by decide +kernel
theorem eX1_everyone_0 : decode cX1_everyone 0 = .ok (.iconst 1, 1) ∧ 0 + 1 = 1 := ⟨by decide +kernel, rfl⟩
theorem eX1_everyone_1 : decode cX1_everyone 1 = .ok (.aload_n 0, 1) ∧ 1 + 1 = 2 := ⟨by decide +kernel, rfl⟩
theorem eX1_everyone_2 : decode cX1_everyone 2 = .ok (.getfield 18, 3) ∧ 2 + 3 = 5 := ⟨by decide +kernel, rfl⟩
theorem eX1_everyone_5 : decode cX1_everyone 5 = .ok (.ishl, 1) ∧ 5 + 1 = 6 := ⟨by decide +kernel, rfl⟩
theorem eX1_everyone_6 : decode cX1_everyone 6 = .ok (.iconst 1, 1) ∧ 6 + 1 = 7 := ⟨by decide +kernel, rfl⟩
theorem eX1_everyone_7 : decode cX1_everyone 7 = .ok (.isub, 1) ∧ 7 + 1 = 8 := ⟨by decide +kernel, rfl⟩
theorem eX1_everyone_8 : decode cX1_everyone 8 = .ok (.ireturn, 1) := by decide +kernel
theorem eX1_figure_0 : decode cX1_figure 0 = .ok (.iload_n 1, 1) ∧ 0 + 1 = 1 := ⟨by decide +kernel, rfl⟩
theorem eX1_figure_1 : decode cX1_figure 1 = .ok (.iconst 5, 1) ∧ 1 + 1 = 2 := ⟨by decide +kernel, rfl⟩
theorem eX1_figure_2 : decode cX1_figure 2 = .ok (.imul, 1) ∧ 2 + 1 = 3 := ⟨by decide +kernel, rfl⟩
theorem eX1_figure_3 : decode cX1_figure 3 = .ok (.iload_n 2, 1) ∧ 3 + 1 = 4 := ⟨by decide +kernel, rfl⟩
theorem eX1_figure_4 : decode cX1_figure 4 = .ok (.iadd, 1) ∧ 4 + 1 = 5 := ⟨by decide +kernel, rfl⟩
theorem eX1_figure_5 : decode cX1_figure 5 = .ok (.istore_n 3, 1) ∧ 5 + 1 = 6 := ⟨by decide +kernel, rfl⟩
theorem eX1_figure_6 : decode cX1_figure 6 = .ok (.iload_n 3, 1) ∧ 6 + 1 = 7 := ⟨by decide +kernel, rfl⟩
theorem eX1_figure_7 : decode cX1_figure 7 = .ok (.ifCond .lt 21, 3) ∧ ((7 : Nat) : Int) + 21 = ((28 : Nat) : Int) ∧ 7 + 3 = 10 := ⟨by decide +kernel, by decide, rfl⟩
theorem eX1_figure_10 : decode cX1_figure 10 = .ok (.iload_n 3, 1) ∧ 10 + 1 = 11 := ⟨by decide +kernel, rfl⟩
theorem eX1_figure_11 : decode cX1_figure 11 = .ok (.aload_n 0, 1) ∧ 11 + 1 = 12 := ⟨by decide +kernel, rfl⟩
theorem eX1_figure_12 : decode cX1_figure 12 = .ok (.getfield 9, 3) ∧ 12 + 3 = 15 := ⟨by decide +kernel, rfl⟩
theorem eX1_figure_15 : decode cX1_figure 15 = .ok (.arraylength, 1) ∧ 15 + 1 = 16 := ⟨by decide +kernel, rfl⟩
theorem eX1_figure_16 : decode cX1_figure 16 = .ok (.if_icmp .ge 12, 3) ∧ ((16 : Nat) : Int) + 12 = ((28 : Nat) : Int) ∧ 16 + 3 = 19 := ⟨by decide +kernel, by decide, rfl⟩
theorem eX1_figure_19 : decode cX1_figure 19 = .ok (.aload_n 0, 1) ∧ 19 + 1 = 20 := ⟨by decide +kernel, rfl⟩
theorem eX1_figure_20 : decode cX1_figure 20 = .ok (.getfield 9, 3) ∧ 20 + 3 = 23 := ⟨by decide +kernel, rfl⟩
theorem eX1_figure_23 : decode cX1_figure 23 = .ok (.iload_n 3, 1) ∧ 23 + 1 = 24 := ⟨by decide +kernel, rfl⟩
theorem eX1_figure_24 : decode cX1_figure 24 = .ok (.iaload, 1) ∧ 24 + 1 = 25 := ⟨by decide +kernel, rfl⟩
theorem eX1_figure_25 : decode cX1_figure 25 = .ok (.goto 4, 3) ∧ ((25 : Nat) : Int) + 4 = ((29 : Nat) : Int) := ⟨by decide +kernel, by decide⟩
theorem eX1_figure_28 : decode cX1_figure 28 = .ok (.iconst 0, 1) ∧ 28 + 1 = 29 := ⟨by decide +kernel, rfl⟩
theorem eX1_figure_29 : decode cX1_figure 29 = .ok (.ireturn, 1) := by decide +kernel
theorem eX1_begin_0 : decode cX1_begin 0 = .ok (.aload_n 0, 1) ∧ 0 + 1 = 1 := ⟨by decide +kernel, rfl⟩
theorem eX1_begin_1 : decode cX1_begin 1 = .ok (.iload_n 1, 1) ∧ 1 + 1 = 2 := ⟨by decide +kernel, rfl⟩
theorem eX1_begin_2 : decode cX1_begin 2 = .ok (.iconst 4, 1) ∧ 2 + 1 = 3 := ⟨by decide +kernel, rfl⟩
theorem eX1_begin_3 : decode cX1_begin 3 = .ok (.invokevirtual 34, 3) ∧ 3 + 3 = 6 := ⟨by decide +kernel, rfl⟩
theorem eX1_begin_6 : decode cX1_begin 6 = .ok (.iconst 2, 1) ∧ 6 + 1 = 7 := ⟨by decide +kernel, rfl⟩
theorem eX1_begin_7 : decode cX1_begin 7 = .ok (.if_icmp .ne 7, 3) ∧ ((7 : Nat) : Int) + 7 = ((14 : Nat) : Int) ∧ 7 + 3 = 10 := ⟨by decide +kernel, by decide, rfl⟩
theorem eX1_begin_10 : decode cX1_begin 10 = .ok (.iconst 1, 1) ∧ 10 + 1 = 11 := ⟨by decide +kernel, rfl⟩
theorem eX1_begin_11 : decode cX1_begin 11 = .ok (.goto 4, 3) ∧ ((11 : Nat) : Int) + 4 = ((15 : Nat) : Int) := ⟨by decide +kernel, by decide⟩
theorem eX1_begin_14 : decode cX1_begin 14 = .ok (.iconst 0, 1) ∧ 14 + 1 = 15 := ⟨by decide +kernel, rfl⟩
theorem eX1_begin_15 : decode cX1_begin 15 = .ok (.istore 4, 2) ∧ 15 + 2 = 17 := ⟨by decide +kernel, rfl⟩
theorem eX1_begin_17 : decode cX1_begin 17 = .ok (.iload_n 2, 1) ∧ 17 + 1 = 18 := ⟨by decide +kernel, rfl⟩
theorem eX1_begin_18 : decode cX1_begin 18 = .ok (.iload_n 3, 1) ∧ 18 + 1 = 19 := ⟨by decide +kernel, rfl⟩
theorem eX1_begin_19 : decode cX1_begin 19 = .ok (.iadd, 1) ∧ 19 + 1 = 20 := ⟨by decide +kernel, rfl⟩
theorem eX1_begin_20 : decode cX1_begin 20 = .ok (.iload 4, 2) ∧ 20 + 2 = 22 := ⟨by decide +kernel, rfl⟩
theorem eX1_begin_22 : decode cX1_begin 22 = .ok (.iadd, 1) ∧ 22 + 1 = 23 := ⟨by decide +kernel, rfl⟩
theorem eX1_begin_23 : decode cX1_begin 23 = .ok (.aload_n 0, 1) ∧ 23 + 1 = 24 := ⟨by decide +kernel, rfl⟩
theorem eX1_begin_24 : decode cX1_begin 24 = .ok (.iload_n 1, 1) ∧ 24 + 1 = 25 := ⟨by decide +kernel, rfl⟩
theorem eX1_begin_25 : decode cX1_begin 25 = .ok (.iconst 1, 1) ∧ 25 + 1 = 26 := ⟨by decide +kernel, rfl⟩
theorem eX1_begin_26 : decode cX1_begin 26 = .ok (.invokevirtual 34, 3) ∧ 26 + 3 = 29 := ⟨by decide +kernel, rfl⟩
theorem eX1_begin_29 : decode cX1_begin 29 = .ok (.invokestatic 37, 3) ∧ 29 + 3 = 32 := ⟨by decide +kernel, rfl⟩
theorem eX1_begin_32 : decode cX1_begin 32 = .ok (.istore 5, 2) ∧ 32 + 2 = 34 := ⟨by decide +kernel, rfl⟩
theorem eX1_begin_34 : decode cX1_begin 34 = .ok (.iload 5, 2) ∧ 34 + 2 = 36 := ⟨by decide +kernel, rfl⟩
theorem eX1_begin_36 : decode cX1_begin 36 = .ok (.aload_n 0, 1) ∧ 36 + 1 = 37 := ⟨by decide +kernel, rfl⟩
theorem eX1_begin_37 : decode cX1_begin 37 = .ok (.iload_n 1, 1) ∧ 37 + 1 = 38 := ⟨by decide +kernel, rfl⟩
theorem eX1_begin_38 : decode cX1_begin 38 = .ok (.iconst 2, 1) ∧ 38 + 1 = 39 := ⟨by decide +kernel, rfl⟩
theorem eX1_begin_39 : decode cX1_begin 39 = .ok (.invokevirtual 34, 3) ∧ 39 + 3 = 42 := ⟨by decide +kernel, rfl⟩
theorem eX1_begin_42 : decode cX1_begin 42 = .ok (.if_icmp .gt 26, 3) ∧ ((42 : Nat) : Int) + 26 = ((68 : Nat) : Int) ∧ 42 + 3 = 45 := ⟨by decide +kernel, by decide, rfl⟩
theorem eX1_begin_45 : decode cX1_begin 45 = .ok (.iload 5, 2) ∧ 45 + 2 = 47 := ⟨by decide +kernel, rfl⟩
theorem eX1_begin_47 : decode cX1_begin 47 = .ok (.aload_n 0, 1) ∧ 47 + 1 = 48 := ⟨by decide +kernel, rfl⟩
theorem eX1_begin_48 : decode cX1_begin 48 = .ok (.getfield 15, 3) ∧ 48 + 3 = 51 := ⟨by decide +kernel, rfl⟩
theorem eX1_begin_51 : decode cX1_begin 51 = .ok (.iload_n 1, 1) ∧ 51 + 1 = 52 := ⟨by decide +kernel, rfl⟩
theorem eX1_begin_52 : decode cX1_begin 52 = .ok (.invokestatic 42, 3) ∧ 52 + 3 = 55 := ⟨by decide +kernel, rfl⟩
theorem eX1_begin_55 : decode cX1_begin 55 = .ok (.iadd, 1) ∧ 55 + 1 = 56 := ⟨by decide +kernel, rfl⟩
theorem eX1_begin_56 : decode cX1_begin 56 = .ok (.aload_n 0, 1) ∧ 56 + 1 = 57 := ⟨by decide +kernel, rfl⟩
theorem eX1_begin_57 : decode cX1_begin 57 = .ok (.getfield 22, 3) ∧ 57 + 3 = 60 := ⟨by decide +kernel, rfl⟩
theorem eX1_begin_60 : decode cX1_begin 60 = .ok (.if_icmp .gt 8, 3) ∧ ((60 : Nat) : Int) + 8 = ((68 : Nat) : Int) ∧ 60 + 3 = 63 := ⟨by decide +kernel, by decide, rfl⟩
theorem eX1_begin_63 : decode cX1_begin 63 = .ok (.iload 5, 2) ∧ 63 + 2 = 65 := ⟨by decide +kernel, rfl⟩
theorem eX1_begin_65 : decode cX1_begin 65 = .ok (.goto 5, 3) ∧ ((65 : Nat) : Int) + 5 = ((70 : Nat) : Int) := ⟨by decide +kernel, by decide⟩
theorem eX1_begin_68 : decode cX1_begin 68 = .ok (.bipush (-9), 2) ∧ 68 + 2 = 70 := ⟨by decide +kernel, rfl⟩
theorem eX1_begin_70 : decode cX1_begin 70 = .ok (.ireturn, 1) := by decide +kernel
theorem eX1_ringFree_0 : decode cX1_ringFree 0 = .ok (.iload_n 2, 1) ∧ 0 + 1 = 1 := ⟨by decide +kernel, rfl⟩
theorem eX1_ringFree_1 : decode cX1_ringFree 1 = .ok (.aload_n 0, 1) ∧ 1 + 1 = 2 := ⟨by decide +kernel, rfl⟩
theorem eX1_ringFree_2 : decode cX1_ringFree 2 = .ok (.getfield 15, 3) ∧ 2 + 3 = 5 := ⟨by decide +kernel, rfl⟩
theorem eX1_ringFree_5 : decode cX1_ringFree 5 = .ok (.iload_n 1, 1) ∧ 5 + 1 = 6 := ⟨by decide +kernel, rfl⟩
theorem eX1_ringFree_6 : decode cX1_ringFree 6 = .ok (.invokestatic 42, 3) ∧ 6 + 3 = 9 := ⟨by decide +kernel, rfl⟩
theorem eX1_ringFree_9 : decode cX1_ringFree 9 = .ok (.iadd, 1) ∧ 9 + 1 = 10 := ⟨by decide +kernel, rfl⟩
theorem eX1_ringFree_10 : decode cX1_ringFree 10 = .ok (.aload_n 0, 1) ∧ 10 + 1 = 11 := ⟨by decide +kernel, rfl⟩
theorem eX1_ringFree_11 : decode cX1_ringFree 11 = .ok (.iload_n 1, 1) ∧ 11 + 1 = 12 := ⟨by decide +kernel, rfl⟩
theorem eX1_ringFree_12 : decode cX1_ringFree 12 = .ok (.iconst 4, 1) ∧ 12 + 1 = 13 := ⟨by decide +kernel, rfl⟩
theorem eX1_ringFree_13 : decode cX1_ringFree 13 = .ok (.invokevirtual 34, 3) ∧ 13 + 3 = 16 := ⟨by decide +kernel, rfl⟩
theorem eX1_ringFree_16 : decode cX1_ringFree 16 = .ok (.iconst 1, 1) ∧ 16 + 1 = 17 := ⟨by decide +kernel, rfl⟩
theorem eX1_ringFree_17 : decode cX1_ringFree 17 = .ok (.if_icmp .ne 7, 3) ∧ ((17 : Nat) : Int) + 7 = ((24 : Nat) : Int) ∧ 17 + 3 = 20 := ⟨by decide +kernel, by decide, rfl⟩
theorem eX1_ringFree_20 : decode cX1_ringFree 20 = .ok (.iconst 1, 1) ∧ 20 + 1 = 21 := ⟨by decide +kernel, rfl⟩
theorem eX1_ringFree_21 : decode cX1_ringFree 21 = .ok (.goto 4, 3) ∧ ((21 : Nat) : Int) + 4 = ((25 : Nat) : Int) := ⟨by decide +kernel, by decide⟩
theorem eX1_ringFree_24 : decode cX1_ringFree 24 = .ok (.iconst 0, 1) ∧ 24 + 1 = 25 := ⟨by decide +kernel, rfl⟩
theorem eX1_ringFree_25 : decode cX1_ringFree 25 = .ok (.iadd, 1) ∧ 25 + 1 = 26 := ⟨by decide +kernel, rfl⟩
theorem eX1_ringFree_26 : decode cX1_ringFree 26 = .ok (.ireturn, 1) := by decide +kernel
theorem eX1_beginOn_0 : decode cX1_beginOn 0 = .ok (.aload_n 0, 1) ∧ 0 + 1 = 1 := ⟨by decide +kernel, rfl⟩
theorem eX1_beginOn_1 : decode cX1_beginOn 1 = .ok (.iload_n 2, 1) ∧ 1 + 1 = 2 := ⟨by decide +kernel, rfl⟩
theorem eX1_beginOn_2 : decode cX1_beginOn 2 = .ok (.invokevirtual 46, 3) ∧ 2 + 3 = 5 := ⟨by decide +kernel, rfl⟩
theorem eX1_beginOn_5 : decode cX1_beginOn 5 = .ok (.ifCond .eq 11, 3) ∧ ((5 : Nat) : Int) + 11 = ((16 : Nat) : Int) ∧ 5 + 3 = 8 := ⟨by decide +kernel, by decide, rfl⟩
theorem eX1_beginOn_8 : decode cX1_beginOn 8 = .ok (.aload_n 1, 1) ∧ 8 + 1 = 9 := ⟨by decide +kernel, rfl⟩
theorem eX1_beginOn_9 : decode cX1_beginOn 9 = .ok (.iload_n 2, 1) ∧ 9 + 1 = 10 := ⟨by decide +kernel, rfl⟩
theorem eX1_beginOn_10 : decode cX1_beginOn 10 = .ok (.invokevirtual 50, 3) ∧ 10 + 3 = 13 := ⟨by decide +kernel, rfl⟩
theorem eX1_beginOn_13 : decode cX1_beginOn 13 = .ok (.ifCond .eq 6, 3) ∧ ((13 : Nat) : Int) + 6 = ((19 : Nat) : Int) ∧ 13 + 3 = 16 := ⟨by decide +kernel, by decide, rfl⟩
theorem eX1_beginOn_16 : decode cX1_beginOn 16 = .ok (.bipush (-9), 2) ∧ 16 + 2 = 18 := ⟨by decide +kernel, rfl⟩
theorem eX1_beginOn_18 : decode cX1_beginOn 18 = .ok (.ireturn, 1) := by decide +kernel
theorem eX1_beginOn_19 : decode cX1_beginOn 19 = .ok (.aload_n 0, 1) ∧ 19 + 1 = 20 := ⟨by decide +kernel, rfl⟩
theorem eX1_beginOn_20 : decode cX1_beginOn 20 = .ok (.iload_n 2, 1) ∧ 20 + 1 = 21 := ⟨by decide +kernel, rfl⟩
theorem eX1_beginOn_21 : decode cX1_beginOn 21 = .ok (.aload_n 1, 1) ∧ 21 + 1 = 22 := ⟨by decide +kernel, rfl⟩
theorem eX1_beginOn_22 : decode cX1_beginOn 22 = .ok (.getfield 55, 3) ∧ 22 + 3 = 25 := ⟨by decide +kernel, rfl⟩
theorem eX1_beginOn_25 : decode cX1_beginOn 25 = .ok (.aload_n 1, 1) ∧ 25 + 1 = 26 := ⟨by decide +kernel, rfl⟩
theorem eX1_beginOn_26 : decode cX1_beginOn 26 = .ok (.aload_n 1, 1) ∧ 26 + 1 = 27 := ⟨by decide +kernel, rfl⟩
theorem eX1_beginOn_27 : decode cX1_beginOn 27 = .ok (.getfield 58, 3) ∧ 27 + 3 = 30 := ⟨by decide +kernel, rfl⟩
theorem eX1_beginOn_30 : decode cX1_beginOn 30 = .ok (.aload_n 0, 1) ∧ 30 + 1 = 31 := ⟨by decide +kernel, rfl⟩
theorem eX1_beginOn_31 : decode cX1_beginOn 31 = .ok (.iload_n 2, 1) ∧ 31 + 1 = 32 := ⟨by decide +kernel, rfl⟩
theorem eX1_beginOn_32 : decode cX1_beginOn 32 = .ok (.iconst 0, 1) ∧ 32 + 1 = 33 := ⟨by decide +kernel, rfl⟩
theorem eX1_beginOn_33 : decode cX1_beginOn 33 = .ok (.invokevirtual 34, 3) ∧ 33 + 3 = 36 := ⟨by decide +kernel, rfl⟩
theorem eX1_beginOn_36 : decode cX1_beginOn 36 = .ok (.invokevirtual 61, 3) ∧ 36 + 3 = 39 := ⟨by decide +kernel, rfl⟩
theorem eX1_beginOn_39 : decode cX1_beginOn 39 = .ok (.invokevirtual 64, 3) ∧ 39 + 3 = 42 := ⟨by decide +kernel, rfl⟩
theorem eX1_beginOn_42 : decode cX1_beginOn 42 = .ok (.ireturn, 1) := by decide +kernel
theorem eX1_celebrate_0 : decode cX1_celebrate 0 = .ok (.aload_n 0, 1) ∧ 0 + 1 = 1 := ⟨by decide +kernel, rfl⟩
theorem eX1_celebrate_1 : decode cX1_celebrate 1 = .ok (.aload_n 1, 1) ∧ 1 + 1 = 2 := ⟨by decide +kernel, rfl⟩
theorem eX1_celebrate_2 : decode cX1_celebrate 2 = .ok (.iload_n 2, 1) ∧ 2 + 1 = 3 := ⟨by decide +kernel, rfl⟩
theorem eX1_celebrate_3 : decode cX1_celebrate 3 = .ok (.invokevirtual 68, 3) ∧ 3 + 3 = 6 := ⟨by decide +kernel, rfl⟩
theorem eX1_celebrate_6 : decode cX1_celebrate 6 = .ok (.istore_n 3, 1) ∧ 6 + 1 = 7 := ⟨by decide +kernel, rfl⟩
theorem eX1_celebrate_7 : decode cX1_celebrate 7 = .ok (.iload_n 3, 1) ∧ 7 + 1 = 8 := ⟨by decide +kernel, rfl⟩
theorem eX1_celebrate_8 : decode cX1_celebrate 8 = .ok (.bipush (-9), 2) ∧ 8 + 2 = 10 := ⟨by decide +kernel, rfl⟩
theorem eX1_celebrate_10 : decode cX1_celebrate 10 = .ok (.if_icmp .ne 5, 3) ∧ ((10 : Nat) : Int) + 5 = ((15 : Nat) : Int) ∧ 10 + 3 = 13 := ⟨by decide +kernel, by decide, rfl⟩
theorem eX1_celebrate_13 : decode cX1_celebrate 13 = .ok (.iconst 0, 1) ∧ 13 + 1 = 14 := ⟨by decide +kernel, rfl⟩
theorem eX1_celebrate_14 : decode cX1_celebrate 14 = .ok (.ireturn, 1) := by decide +kernel
theorem eX1_celebrate_15 : decode cX1_celebrate 15 = .ok (.aload_n 1, 1) ∧ 15 + 1 = 16 := ⟨by decide +kernel, rfl⟩
theorem eX1_celebrate_16 : decode cX1_celebrate 16 = .ok (.aload_n 0, 1) ∧ 16 + 1 = 17 := ⟨by decide +kernel, rfl⟩
theorem eX1_celebrate_17 : decode cX1_celebrate 17 = .ok (.iload_n 2, 1) ∧ 17 + 1 = 18 := ⟨by decide +kernel, rfl⟩
theorem eX1_celebrate_18 : decode cX1_celebrate 18 = .ok (.iload_n 3, 1) ∧ 18 + 1 = 19 := ⟨by decide +kernel, rfl⟩
theorem eX1_celebrate_19 : decode cX1_celebrate 19 = .ok (.invokevirtual 72, 3) ∧ 19 + 3 = 22 := ⟨by decide +kernel, rfl⟩
theorem eX1_celebrate_22 : decode cX1_celebrate 22 = .ok (.putfield 55, 3) ∧ 22 + 3 = 25 := ⟨by decide +kernel, rfl⟩
theorem eX1_celebrate_25 : decode cX1_celebrate 25 = .ok (.aload_n 1, 1) ∧ 25 + 1 = 26 := ⟨by decide +kernel, rfl⟩
theorem eX1_celebrate_26 : decode cX1_celebrate 26 = .ok (.aload_n 0, 1) ∧ 26 + 1 = 27 := ⟨by decide +kernel, rfl⟩
theorem eX1_celebrate_27 : decode cX1_celebrate 27 = .ok (.iload_n 2, 1) ∧ 27 + 1 = 28 := ⟨by decide +kernel, rfl⟩
theorem eX1_celebrate_28 : decode cX1_celebrate 28 = .ok (.iconst 0, 1) ∧ 28 + 1 = 29 := ⟨by decide +kernel, rfl⟩
theorem eX1_celebrate_29 : decode cX1_celebrate 29 = .ok (.invokevirtual 34, 3) ∧ 29 + 3 = 32 := ⟨by decide +kernel, rfl⟩
theorem eX1_celebrate_32 : decode cX1_celebrate 32 = .ok (.putfield 58, 3) ∧ 32 + 3 = 35 := ⟨by decide +kernel, rfl⟩
theorem eX1_celebrate_35 : decode cX1_celebrate 35 = .ok (.aload_n 1, 1) ∧ 35 + 1 = 36 := ⟨by decide +kernel, rfl⟩
theorem eX1_celebrate_36 : decode cX1_celebrate 36 = .ok (.dup, 1) ∧ 36 + 1 = 37 := ⟨by decide +kernel, rfl⟩
theorem eX1_celebrate_37 : decode cX1_celebrate 37 = .ok (.getfield 75, 3) ∧ 37 + 3 = 40 := ⟨by decide +kernel, rfl⟩
theorem eX1_celebrate_40 : decode cX1_celebrate 40 = .ok (.iconst 1, 1) ∧ 40 + 1 = 41 := ⟨by decide +kernel, rfl⟩
theorem eX1_celebrate_41 : decode cX1_celebrate 41 = .ok (.iload_n 2, 1) ∧ 41 + 1 = 42 := ⟨by decide +kernel, rfl⟩
theorem eX1_celebrate_42 : decode cX1_celebrate 42 = .ok (.ishl, 1) ∧ 42 + 1 = 43 := ⟨by decide +kernel, rfl⟩
theorem eX1_celebrate_43 : decode cX1_celebrate 43 = .ok (.ior, 1) ∧ 43 + 1 = 44 := ⟨by decide +kernel, rfl⟩
theorem eX1_celebrate_44 : decode cX1_celebrate 44 = .ok (.putfield 75, 3) ∧ 44 + 3 = 47 := ⟨by decide +kernel, rfl⟩
theorem eX1_celebrate_47 : decode cX1_celebrate 47 = .ok (.iconst 1, 1) ∧ 47 + 1 = 48 := ⟨by decide +kernel, rfl⟩
theorem eX1_celebrate_48 : decode cX1_celebrate 48 = .ok (.ireturn, 1) := by decide +kernel
theorem eX2_init_0 : decode cX2_init 0 = .ok (.aload_n 0, 1) ∧ 0 + 1 = 1 := ⟨by decide +kernel, rfl⟩
theorem eX2_init_1 : decode cX2_init 1 = .ok (.invokespecial 3, 3) ∧ 1 + 3 = 4 := ⟨by decide +kernel, rfl⟩
theorem eX2_init_4 : decode cX2_init 4 = .ok (.aload_n 0, 1) ∧ 4 + 1 = 5 := ⟨by decide +kernel, rfl⟩
theorem eX2_init_5 : decode cX2_init 5 = .ok (.new 9, 3) ∧ 5 + 3 = 8 := ⟨by decide +kernel, rfl⟩
theorem eX2_init_8 : decode cX2_init 8 = .ok (.dup, 1) ∧ 8 + 1 = 9 := ⟨by decide +kernel, rfl⟩
theorem eX2_init_9 : decode cX2_init 9 = .ok (.invokespecial 11, 3) ∧ 9 + 3 = 12 := ⟨by decide +kernel, rfl⟩
theorem eX2_init_12 : decode cX2_init 12 = .ok (.putfield 12, 3) ∧ 12 + 3 = 15 := ⟨by decide +kernel, rfl⟩
theorem eX2_init_15 : decode cX2_init 15 = .ok (.aload_n 0, 1) ∧ 15 + 1 = 16 := ⟨by decide +kernel, rfl⟩
theorem eX2_init_16 : decode cX2_init 16 = .ok (.bipush 7, 2) ∧ 16 + 2 = 18 := ⟨by decide +kernel, rfl⟩
theorem eX2_init_18 : decode cX2_init 18 = .ok (.newarray .int, 2) ∧ 18 + 2 = 20 := ⟨by decide +kernel, rfl⟩
theorem eX2_init_20 : decode cX2_init 20 = .ok (.putfield 18, 3) ∧ 20 + 3 = 23 := ⟨by decide +kernel, rfl⟩
theorem eX2_init_23 : decode cX2_init 23 = .ok (.aload_n 0, 1) ∧ 23 + 1 = 24 := ⟨by decide +kernel, rfl⟩
theorem eX2_init_24 : decode cX2_init 24 = .ok (.bipush 64, 2) ∧ 24 + 2 = 26 := ⟨by decide +kernel, rfl⟩
theorem eX2_init_26 : decode cX2_init 26 = .ok (.newarray .int, 2) ∧ 26 + 2 = 28 := ⟨by decide +kernel, rfl⟩
theorem eX2_init_28 : decode cX2_init 28 = .ok (.putfield 22, 3) ∧ 28 + 3 = 31 := ⟨by decide +kernel, rfl⟩
theorem eX2_init_31 : decode cX2_init 31 = .ok (.aload_n 0, 1) ∧ 31 + 1 = 32 := ⟨by decide +kernel, rfl⟩
theorem eX2_init_32 : decode cX2_init 32 = .ok (.bipush 6, 2) ∧ 32 + 2 = 34 := ⟨by decide +kernel, rfl⟩
theorem eX2_init_34 : decode cX2_init 34 = .ok (.putfield 25, 3) ∧ 34 + 3 = 37 := ⟨by decide +kernel, rfl⟩
theorem eX2_init_37 : decode cX2_init 37 = .ok (.aload_n 0, 1) ∧ 37 + 1 = 38 := ⟨by decide +kernel, rfl⟩
theorem eX2_init_38 : decode cX2_init 38 = .ok (.iconst 0, 1) ∧ 38 + 1 = 39 := ⟨by decide +kernel, rfl⟩
theorem eX2_init_39 : decode cX2_init 39 = .ok (.putfield 29, 3) ∧ 39 + 3 = 42 := ⟨by decide +kernel, rfl⟩
theorem eX2_init_42 : decode cX2_init 42 = .ok (.aload_n 0, 1) ∧ 42 + 1 = 43 := ⟨by decide +kernel, rfl⟩
theorem eX2_init_43 : decode cX2_init 43 = .ok (.iconst 0, 1) ∧ 43 + 1 = 44 := ⟨by decide +kernel, rfl⟩
theorem eX2_init_44 : decode cX2_init 44 = .ok (.putfield 32, 3) ∧ 44 + 3 = 47 := ⟨by decide +kernel, rfl⟩
theorem eX2_init_47 : decode cX2_init 47 = .ok (.aload_n 0, 1) ∧ 47 + 1 = 48 := ⟨by decide +kernel, rfl⟩
theorem eX2_init_48 : decode cX2_init 48 = .ok (.iconst 0, 1) ∧ 48 + 1 = 49 := ⟨by decide +kernel, rfl⟩
theorem eX2_init_49 : decode cX2_init 49 = .ok (.putfield 35, 3) ∧ 49 + 3 = 52 := ⟨by decide +kernel, rfl⟩
theorem eX2_init_52 : decode cX2_init 52 = .ok (.aload_n 0, 1) ∧ 52 + 1 = 53 := ⟨by decide +kernel, rfl⟩
theorem eX2_init_53 : decode cX2_init 53 = .ok (.iconst 0, 1) ∧ 53 + 1 = 54 := ⟨by decide +kernel, rfl⟩
theorem eX2_init_54 : decode cX2_init 54 = .ok (.putfield 38, 3) ∧ 54 + 3 = 57 := ⟨by decide +kernel, rfl⟩
theorem eX2_init_57 : decode cX2_init 57 = .ok (.aload_n 0, 1) ∧ 57 + 1 = 58 := ⟨by decide +kernel, rfl⟩
theorem eX2_init_58 : decode cX2_init 58 = .ok (.iconst 0, 1) ∧ 58 + 1 = 59 := ⟨by decide +kernel, rfl⟩
theorem eX2_init_59 : decode cX2_init 59 = .ok (.putfield 41, 3) ∧ 59 + 3 = 62 := ⟨by decide +kernel, rfl⟩
theorem eX2_init_62 : decode cX2_init 62 = .ok (.aload_n 0, 1) ∧ 62 + 1 = 63 := ⟨by decide +kernel, rfl⟩
theorem eX2_init_63 : decode cX2_init 63 = .ok (.iconst 0, 1) ∧ 63 + 1 = 64 := ⟨by decide +kernel, rfl⟩
theorem eX2_init_64 : decode cX2_init 64 = .ok (.putfield 44, 3) ∧ 64 + 3 = 67 := ⟨by decide +kernel, rfl⟩
theorem eX2_init_67 : decode cX2_init 67 = .ok (.return_, 1) := by decide +kernel
theorem eX2_runFrom_0 : decode cX2_runFrom 0 = .ok (.aload_n 0, 1) ∧ 0 + 1 = 1 := ⟨by decide +kernel, rfl⟩
theorem eX2_runFrom_1 : decode cX2_runFrom 1 = .ok (.aload_n 2, 1) ∧ 1 + 1 = 2 := ⟨by decide +kernel, rfl⟩
theorem eX2_runFrom_2 : decode cX2_runFrom 2 = .ok (.bipush 6, 2) ∧ 2 + 2 = 4 := ⟨by decide +kernel, rfl⟩
theorem eX2_runFrom_4 : decode cX2_runFrom 4 = .ok (.invokevirtual 47, 3) ∧ 4 + 3 = 7 := ⟨by decide +kernel, rfl⟩
theorem eX2_runFrom_7 : decode cX2_runFrom 7 = .ok (.aload_n 0, 1) ∧ 7 + 1 = 8 := ⟨by decide +kernel, rfl⟩
theorem eX2_runFrom_8 : decode cX2_runFrom 8 = .ok (.aload_n 1, 1) ∧ 8 + 1 = 9 := ⟨by decide +kernel, rfl⟩
theorem eX2_runFrom_9 : decode cX2_runFrom 9 = .ok (.invokevirtual 51, 3) ∧ 9 + 3 = 12 := ⟨by decide +kernel, rfl⟩
theorem eX2_runFrom_12 : decode cX2_runFrom 12 = .ok (.return_, 1) := by decide +kernel
theorem eX2_reset_0 : decode cX2_reset 0 = .ok (.aload_n 0, 1) ∧ 0 + 1 = 1 := ⟨by decide +kernel, rfl⟩
theorem eX2_reset_1 : decode cX2_reset 1 = .ok (.getfield 12, 3) ∧ 1 + 3 = 4 := ⟨by decide +kernel, rfl⟩
theorem eX2_reset_4 : decode cX2_reset 4 = .ok (.aload_n 1, 1) ∧ 4 + 1 = 5 := ⟨by decide +kernel, rfl⟩
theorem eX2_reset_5 : decode cX2_reset 5 = .ok (.invokevirtual 55, 3) ∧ 5 + 3 = 8 := ⟨by decide +kernel, rfl⟩
theorem eX2_reset_8 : decode cX2_reset 8 = .ok (.aload_n 0, 1) ∧ 8 + 1 = 9 := ⟨by decide +kernel, rfl⟩
theorem eX2_reset_9 : decode cX2_reset 9 = .ok (.iload_n 2, 1) ∧ 9 + 1 = 10 := ⟨by decide +kernel, rfl⟩
theorem eX2_reset_10 : decode cX2_reset 10 = .ok (.putfield 25, 3) ∧ 10 + 3 = 13 := ⟨by decide +kernel, rfl⟩
theorem eX2_reset_13 : decode cX2_reset 13 = .ok (.aload_n 0, 1) ∧ 13 + 1 = 14 := ⟨by decide +kernel, rfl⟩
theorem eX2_reset_14 : decode cX2_reset 14 = .ok (.iconst 0, 1) ∧ 14 + 1 = 15 := ⟨by decide +kernel, rfl⟩
theorem eX2_reset_15 : decode cX2_reset 15 = .ok (.putfield 29, 3) ∧ 15 + 3 = 18 := ⟨by decide +kernel, rfl⟩
theorem eX2_reset_18 : decode cX2_reset 18 = .ok (.aload_n 0, 1) ∧ 18 + 1 = 19 := ⟨by decide +kernel, rfl⟩
theorem eX2_reset_19 : decode cX2_reset 19 = .ok (.iconst 0, 1) ∧ 19 + 1 = 20 := ⟨by decide +kernel, rfl⟩
theorem eX2_reset_20 : decode cX2_reset 20 = .ok (.putfield 32, 3) ∧ 20 + 3 = 23 := ⟨by decide +kernel, rfl⟩
theorem eX2_reset_23 : decode cX2_reset 23 = .ok (.aload_n 0, 1) ∧ 23 + 1 = 24 := ⟨by decide +kernel, rfl⟩
theorem eX2_reset_24 : decode cX2_reset 24 = .ok (.aload_n 0, 1) ∧ 24 + 1 = 25 := ⟨by decide +kernel, rfl⟩
theorem eX2_reset_25 : decode cX2_reset 25 = .ok (.getfield 12, 3) ∧ 25 + 3 = 28 := ⟨by decide +kernel, rfl⟩
theorem eX2_reset_28 : decode cX2_reset 28 = .ok (.getfield 59, 3) ∧ 28 + 3 = 31 := ⟨by decide +kernel, rfl⟩
theorem eX2_reset_31 : decode cX2_reset 31 = .ok (.putfield 35, 3) ∧ 31 + 3 = 34 := ⟨by decide +kernel, rfl⟩
theorem eX2_reset_34 : decode cX2_reset 34 = .ok (.aload_n 0, 1) ∧ 34 + 1 = 35 := ⟨by decide +kernel, rfl⟩
theorem eX2_reset_35 : decode cX2_reset 35 = .ok (.iconst 0, 1) ∧ 35 + 1 = 36 := ⟨by decide +kernel, rfl⟩
theorem eX2_reset_36 : decode cX2_reset 36 = .ok (.putfield 38, 3) ∧ 36 + 3 = 39 := ⟨by decide +kernel, rfl⟩
theorem eX2_reset_39 : decode cX2_reset 39 = .ok (.aload_n 0, 1) ∧ 39 + 1 = 40 := ⟨by decide +kernel, rfl⟩
theorem eX2_reset_40 : decode cX2_reset 40 = .ok (.bipush 63, 2) ∧ 40 + 2 = 42 := ⟨by decide +kernel, rfl⟩
theorem eX2_reset_42 : decode cX2_reset 42 = .ok (.putfield 41, 3) ∧ 42 + 3 = 45 := ⟨by decide +kernel, rfl⟩
theorem eX2_reset_45 : decode cX2_reset 45 = .ok (.aload_n 0, 1) ∧ 45 + 1 = 46 := ⟨by decide +kernel, rfl⟩
theorem eX2_reset_46 : decode cX2_reset 46 = .ok (.iconst 0, 1) ∧ 46 + 1 = 47 := ⟨by decide +kernel, rfl⟩
theorem eX2_reset_47 : decode cX2_reset 47 = .ok (.putfield 44, 3) ∧ 47 + 3 = 50 := ⟨by decide +kernel, rfl⟩
theorem eX2_reset_50 : decode cX2_reset 50 = .ok (.iconst 0, 1) ∧ 50 + 1 = 51 := ⟨by decide +kernel, rfl⟩
theorem eX2_reset_51 : decode cX2_reset 51 = .ok (.istore_n 3, 1) ∧ 51 + 1 = 52 := ⟨by decide +kernel, rfl⟩
theorem eX2_reset_52 : decode cX2_reset 52 = .ok (.iload_n 3, 1) ∧ 52 + 1 = 53 := ⟨by decide +kernel, rfl⟩
theorem eX2_reset_53 : decode cX2_reset 53 = .ok (.aload_n 0, 1) ∧ 53 + 1 = 54 := ⟨by decide +kernel, rfl⟩
theorem eX2_reset_54 : decode cX2_reset 54 = .ok (.getfield 18, 3) ∧ 54 + 3 = 57 := ⟨by decide +kernel, rfl⟩
theorem eX2_reset_57 : decode cX2_reset 57 = .ok (.arraylength, 1) ∧ 57 + 1 = 58 := ⟨by decide +kernel, rfl⟩
theorem eX2_reset_58 : decode cX2_reset 58 = .ok (.if_icmp .ge 17, 3) ∧ ((58 : Nat) : Int) + 17 = ((75 : Nat) : Int) ∧ 58 + 3 = 61 := ⟨by decide +kernel, by decide, rfl⟩
theorem eX2_reset_61 : decode cX2_reset 61 = .ok (.aload_n 0, 1) ∧ 61 + 1 = 62 := ⟨by decide +kernel, rfl⟩
theorem eX2_reset_62 : decode cX2_reset 62 = .ok (.getfield 18, 3) ∧ 62 + 3 = 65 := ⟨by decide +kernel, rfl⟩
theorem eX2_reset_65 : decode cX2_reset 65 = .ok (.iload_n 3, 1) ∧ 65 + 1 = 66 := ⟨by decide +kernel, rfl⟩
theorem eX2_reset_66 : decode cX2_reset 66 = .ok (.bipush 63, 2) ∧ 66 + 2 = 68 := ⟨by decide +kernel, rfl⟩
theorem eX2_reset_68 : decode cX2_reset 68 = .ok (.iastore, 1) ∧ 68 + 1 = 69 := ⟨by decide +kernel, rfl⟩
theorem eX2_reset_69 : decode cX2_reset 69 = .ok (.iinc 3 1, 3) ∧ 69 + 3 = 72 := ⟨by decide +kernel, rfl⟩
theorem eX2_reset_72 : decode cX2_reset 72 = .ok (.goto (-20), 3) ∧ ((72 : Nat) : Int) + (-20) = ((52 : Nat) : Int) := ⟨by decide +kernel, by decide⟩
theorem eX2_reset_75 : decode cX2_reset 75 = .ok (.iconst 0, 1) ∧ 75 + 1 = 76 := ⟨by decide +kernel, rfl⟩
theorem eX2_reset_76 : decode cX2_reset 76 = .ok (.istore_n 3, 1) ∧ 76 + 1 = 77 := ⟨by decide +kernel, rfl⟩
theorem eX2_reset_77 : decode cX2_reset 77 = .ok (.iload_n 3, 1) ∧ 77 + 1 = 78 := ⟨by decide +kernel, rfl⟩
theorem eX2_reset_78 : decode cX2_reset 78 = .ok (.aload_n 0, 1) ∧ 78 + 1 = 79 := ⟨by decide +kernel, rfl⟩
theorem eX2_reset_79 : decode cX2_reset 79 = .ok (.getfield 22, 3) ∧ 79 + 3 = 82 := ⟨by decide +kernel, rfl⟩
theorem eX2_reset_82 : decode cX2_reset 82 = .ok (.arraylength, 1) ∧ 82 + 1 = 83 := ⟨by decide +kernel, rfl⟩
theorem eX2_reset_83 : decode cX2_reset 83 = .ok (.if_icmp .ge 16, 3) ∧ ((83 : Nat) : Int) + 16 = ((99 : Nat) : Int) ∧ 83 + 3 = 86 := ⟨by decide +kernel, by decide, rfl⟩
theorem eX2_reset_86 : decode cX2_reset 86 = .ok (.aload_n 0, 1) ∧ 86 + 1 = 87 := ⟨by decide +kernel, rfl⟩
theorem eX2_reset_87 : decode cX2_reset 87 = .ok (.getfield 22, 3) ∧ 87 + 3 = 90 := ⟨by decide +kernel, rfl⟩
theorem eX2_reset_90 : decode cX2_reset 90 = .ok (.iload_n 3, 1) ∧ 90 + 1 = 91 := ⟨by decide +kernel, rfl⟩
theorem eX2_reset_91 : decode cX2_reset 91 = .ok (.iconst 0, 1) ∧ 91 + 1 = 92 := ⟨by decide +kernel, rfl⟩
theorem eX2_reset_92 : decode cX2_reset 92 = .ok (.iastore, 1) ∧ 92 + 1 = 93 := ⟨by decide +kernel, rfl⟩
theorem eX2_reset_93 : decode cX2_reset 93 = .ok (.iinc 3 1, 3) ∧ 93 + 3 = 96 := ⟨by decide +kernel, rfl⟩
theorem eX2_reset_96 : decode cX2_reset 96 = .ok (.goto (-19), 3) ∧ ((96 : Nat) : Int) + (-19) = ((77 : Nat) : Int) := ⟨by decide +kernel, by decide⟩
theorem eX2_reset_99 : decode cX2_reset 99 = .ok (.return_, 1) := by decide +kernel
theorem eX2_allowOnly_0 : decode cX2_allowOnly 0 = .ok (.iload_n 1, 1) ∧ 0 + 1 = 1 := ⟨by decide +kernel, rfl⟩
theorem eX2_allowOnly_1 : decode cX2_allowOnly 1 = .ok (.ifCond .lt 24, 3) ∧ ((1 : Nat) : Int) + 24 = ((25 : Nat) : Int) ∧ 1 + 3 = 4 := ⟨by decide +kernel, by decide, rfl⟩
theorem eX2_allowOnly_4 : decode cX2_allowOnly 4 = .ok (.iload_n 1, 1) ∧ 4 + 1 = 5 := ⟨by decide +kernel, rfl⟩
theorem eX2_allowOnly_5 : decode cX2_allowOnly 5 = .ok (.aload_n 0, 1) ∧ 5 + 1 = 6 := ⟨by decide +kernel, rfl⟩
theorem eX2_allowOnly_6 : decode cX2_allowOnly 6 = .ok (.getfield 18, 3) ∧ 6 + 3 = 9 := ⟨by decide +kernel, rfl⟩
theorem eX2_allowOnly_9 : decode cX2_allowOnly 9 = .ok (.arraylength, 1) ∧ 9 + 1 = 10 := ⟨by decide +kernel, rfl⟩
theorem eX2_allowOnly_10 : decode cX2_allowOnly 10 = .ok (.if_icmp .ge 15, 3) ∧ ((10 : Nat) : Int) + 15 = ((25 : Nat) : Int) ∧ 10 + 3 = 13 := ⟨by decide +kernel, by decide, rfl⟩
theorem eX2_allowOnly_13 : decode cX2_allowOnly 13 = .ok (.aload_n 0, 1) ∧ 13 + 1 = 14 := ⟨by decide +kernel, rfl⟩
theorem eX2_allowOnly_14 : decode cX2_allowOnly 14 = .ok (.getfield 18, 3) ∧ 14 + 3 = 17 := ⟨by decide +kernel, rfl⟩
theorem eX2_allowOnly_17 : decode cX2_allowOnly 17 = .ok (.iload_n 1, 1) ∧ 17 + 1 = 18 := ⟨by decide +kernel, rfl⟩
theorem eX2_allowOnly_18 : decode cX2_allowOnly 18 = .ok (.dup2, 1) ∧ 18 + 1 = 19 := ⟨by decide +kernel, rfl⟩
theorem eX2_allowOnly_19 : decode cX2_allowOnly 19 = .ok (.iaload, 1) ∧ 19 + 1 = 20 := ⟨by decide +kernel, rfl⟩
theorem eX2_allowOnly_20 : decode cX2_allowOnly 20 = .ok (.iconst 1, 1) ∧ 20 + 1 = 21 := ⟨by decide +kernel, rfl⟩
theorem eX2_allowOnly_21 : decode cX2_allowOnly 21 = .ok (.iload_n 2, 1) ∧ 21 + 1 = 22 := ⟨by decide +kernel, rfl⟩
theorem eX2_allowOnly_22 : decode cX2_allowOnly 22 = .ok (.ishl, 1) ∧ 22 + 1 = 23 := ⟨by decide +kernel, rfl⟩
theorem eX2_allowOnly_23 : decode cX2_allowOnly 23 = .ok (.iand, 1) ∧ 23 + 1 = 24 := ⟨by decide +kernel, rfl⟩
theorem eX2_allowOnly_24 : decode cX2_allowOnly 24 = .ok (.iastore, 1) ∧ 24 + 1 = 25 := ⟨by decide +kernel, rfl⟩
theorem eX2_allowOnly_25 : decode cX2_allowOnly 25 = .ok (.return_, 1) := by decide +kernel
theorem eX2_run_0 : decode cX2_run 0 = .ok (.aload_n 0, 1) ∧ 0 + 1 = 1 := ⟨by decide +kernel, rfl⟩
theorem eX2_run_1 : decode cX2_run 1 = .ok (.iconst 0, 1) ∧ 1 + 1 = 2 := ⟨by decide +kernel, rfl⟩
theorem eX2_run_2 : decode cX2_run 2 = .ok (.aload_n 0, 1) ∧ 2 + 1 = 3 := ⟨by decide +kernel, rfl⟩
theorem eX2_run_3 : decode cX2_run 3 = .ok (.getfield 12, 3) ∧ 3 + 3 = 6 := ⟨by decide +kernel, rfl⟩
theorem eX2_run_6 : decode cX2_run 6 = .ok (.getfield 62, 3) ∧ 6 + 3 = 9 := ⟨by decide +kernel, rfl⟩
theorem eX2_run_9 : decode cX2_run 9 = .ok (.invokevirtual 65, 3) ∧ 9 + 3 = 12 := ⟨by decide +kernel, rfl⟩
theorem eX2_run_12 : decode cX2_run 12 = .ok (.ifCond .eq 25, 3) ∧ ((12 : Nat) : Int) + 25 = ((37 : Nat) : Int) ∧ 12 + 3 = 15 := ⟨by decide +kernel, by decide, rfl⟩
theorem eX2_run_15 : decode cX2_run 15 = .ok (.aload_n 0, 1) ∧ 15 + 1 = 16 := ⟨by decide +kernel, rfl⟩
theorem eX2_run_16 : decode cX2_run 16 = .ok (.aload_n 1, 1) ∧ 16 + 1 = 17 := ⟨by decide +kernel, rfl⟩
theorem eX2_run_17 : decode cX2_run 17 = .ok (.iconst 0, 1) ∧ 17 + 1 = 18 := ⟨by decide +kernel, rfl⟩
theorem eX2_run_18 : decode cX2_run 18 = .ok (.aload_n 0, 1) ∧ 18 + 1 = 19 := ⟨by decide +kernel, rfl⟩
theorem eX2_run_19 : decode cX2_run 19 = .ok (.getfield 12, 3) ∧ 19 + 3 = 22 := ⟨by decide +kernel, rfl⟩
theorem eX2_run_22 : decode cX2_run 22 = .ok (.getfield 62, 3) ∧ 22 + 3 = 25 := ⟨by decide +kernel, rfl⟩
theorem eX2_run_25 : decode cX2_run 25 = .ok (.aload_n 0, 1) ∧ 25 + 1 = 26 := ⟨by decide +kernel, rfl⟩
theorem eX2_run_26 : decode cX2_run 26 = .ok (.getfield 12, 3) ∧ 26 + 3 = 29 := ⟨by decide +kernel, rfl⟩
theorem eX2_run_29 : decode cX2_run 29 = .ok (.getfield 59, 3) ∧ 29 + 3 = 32 := ⟨by decide +kernel, rfl⟩
theorem eX2_run_32 : decode cX2_run 32 = .ok (.iconst 0, 1) ∧ 32 + 1 = 33 := ⟨by decide +kernel, rfl⟩
theorem eX2_run_33 : decode cX2_run 33 = .ok (.iconst 0, 1) ∧ 33 + 1 = 34 := ⟨by decide +kernel, rfl⟩
theorem eX2_run_34 : decode cX2_run 34 = .ok (.invokestatic 69, 3) ∧ 34 + 3 = 37 := ⟨by decide +kernel, rfl⟩
theorem eX2_run_37 : decode cX2_run 37 = .ok (.return_, 1) := by decide +kernel
theorem eX2_allows_0 : decode cX2_allows 0 = .ok (.aload_n 0, 1) ∧ 0 + 1 = 1 := ⟨by decide +kernel, rfl⟩
theorem eX2_allows_1 : decode cX2_allows 1 = .ok (.getfield 18, 3) ∧ 1 + 3 = 4 := ⟨by decide +kernel, rfl⟩
theorem eX2_allows_4 : decode cX2_allows 4 = .ok (.iload_n 1, 1) ∧ 4 + 1 = 5 := ⟨by decide +kernel, rfl⟩
theorem eX2_allows_5 : decode cX2_allows 5 = .ok (.invokestatic 73, 3) ∧ 5 + 3 = 8 := ⟨by decide +kernel, rfl⟩
theorem eX2_allows_8 : decode cX2_allows 8 = .ok (.iload_n 2, 1) ∧ 8 + 1 = 9 := ⟨by decide +kernel, rfl⟩
theorem eX2_allows_9 : decode cX2_allows 9 = .ok (.ishr, 1) ∧ 9 + 1 = 10 := ⟨by decide +kernel, rfl⟩
theorem eX2_allows_10 : decode cX2_allows 10 = .ok (.iconst 1, 1) ∧ 10 + 1 = 11 := ⟨by decide +kernel, rfl⟩
theorem eX2_allows_11 : decode cX2_allows 11 = .ok (.iand, 1) ∧ 11 + 1 = 12 := ⟨by decide +kernel, rfl⟩
theorem eX2_allows_12 : decode cX2_allows 12 = .ok (.ifCond .eq 7, 3) ∧ ((12 : Nat) : Int) + 7 = ((19 : Nat) : Int) ∧ 12 + 3 = 15 := ⟨by decide +kernel, by decide, rfl⟩
theorem eX2_allows_15 : decode cX2_allows 15 = .ok (.iconst 1, 1) ∧ 15 + 1 = 16 := ⟨by decide +kernel, rfl⟩
theorem eX2_allows_16 : decode cX2_allows 16 = .ok (.goto 4, 3) ∧ ((16 : Nat) : Int) + 4 = ((20 : Nat) : Int) := ⟨by decide +kernel, by decide⟩
theorem eX2_allows_19 : decode cX2_allows 19 = .ok (.iconst 0, 1) ∧ 19 + 1 = 20 := ⟨by decide +kernel, rfl⟩
theorem eX2_allows_20 : decode cX2_allows 20 = .ok (.ireturn, 1) := by decide +kernel
theorem eX2_record_0 : decode cX2_record 0 = .ok (.iload_n 1, 1) ∧ 0 + 1 = 1 := ⟨by decide +kernel, rfl⟩
theorem eX2_record_1 : decode cX2_record 1 = .ok (.aload_n 0, 1) ∧ 1 + 1 = 2 := ⟨by decide +kernel, rfl⟩
theorem eX2_record_2 : decode cX2_record 2 = .ok (.getfield 29, 3) ∧ 2 + 3 = 5 := ⟨by decide +kernel, rfl⟩
theorem eX2_record_5 : decode cX2_record 5 = .ok (.if_icmp .le 22, 3) ∧ ((5 : Nat) : Int) + 22 = ((27 : Nat) : Int) ∧ 5 + 3 = 8 := ⟨by decide +kernel, by decide, rfl⟩
theorem eX2_record_8 : decode cX2_record 8 = .ok (.aload_n 0, 1) ∧ 8 + 1 = 9 := ⟨by decide +kernel, rfl⟩
theorem eX2_record_9 : decode cX2_record 9 = .ok (.iload_n 1, 1) ∧ 9 + 1 = 10 := ⟨by decide +kernel, rfl⟩
theorem eX2_record_10 : decode cX2_record 10 = .ok (.putfield 29, 3) ∧ 10 + 3 = 13 := ⟨by decide +kernel, rfl⟩
theorem eX2_record_13 : decode cX2_record 13 = .ok (.aload_n 0, 1) ∧ 13 + 1 = 14 := ⟨by decide +kernel, rfl⟩
theorem eX2_record_14 : decode cX2_record 14 = .ok (.iload 4, 2) ∧ 14 + 2 = 16 := ⟨by decide +kernel, rfl⟩
theorem eX2_record_16 : decode cX2_record 16 = .ok (.putfield 32, 3) ∧ 16 + 3 = 19 := ⟨by decide +kernel, rfl⟩
theorem eX2_record_19 : decode cX2_record 19 = .ok (.aload_n 0, 1) ∧ 19 + 1 = 20 := ⟨by decide +kernel, rfl⟩
theorem eX2_record_20 : decode cX2_record 20 = .ok (.iload_n 2, 1) ∧ 20 + 1 = 21 := ⟨by decide +kernel, rfl⟩
theorem eX2_record_21 : decode cX2_record 21 = .ok (.putfield 35, 3) ∧ 21 + 3 = 24 := ⟨by decide +kernel, rfl⟩
theorem eX2_record_24 : decode cX2_record 24 = .ok (.goto 23, 3) ∧ ((24 : Nat) : Int) + 23 = ((47 : Nat) : Int) := ⟨by decide +kernel, by decide⟩
theorem eX2_record_27 : decode cX2_record 27 = .ok (.iload_n 1, 1) ∧ 27 + 1 = 28 := ⟨by decide +kernel, rfl⟩
theorem eX2_record_28 : decode cX2_record 28 = .ok (.aload_n 0, 1) ∧ 28 + 1 = 29 := ⟨by decide +kernel, rfl⟩
theorem eX2_record_29 : decode cX2_record 29 = .ok (.getfield 29, 3) ∧ 29 + 3 = 32 := ⟨by decide +kernel, rfl⟩
theorem eX2_record_32 : decode cX2_record 32 = .ok (.if_icmp .ne 15, 3) ∧ ((32 : Nat) : Int) + 15 = ((47 : Nat) : Int) ∧ 32 + 3 = 35 := ⟨by decide +kernel, by decide, rfl⟩
theorem eX2_record_35 : decode cX2_record 35 = .ok (.aload_n 0, 1) ∧ 35 + 1 = 36 := ⟨by decide +kernel, rfl⟩
theorem eX2_record_36 : decode cX2_record 36 = .ok (.aload_n 0, 1) ∧ 36 + 1 = 37 := ⟨by decide +kernel, rfl⟩
theorem eX2_record_37 : decode cX2_record 37 = .ok (.getfield 35, 3) ∧ 37 + 3 = 40 := ⟨by decide +kernel, rfl⟩
theorem eX2_record_40 : decode cX2_record 40 = .ok (.iload_n 2, 1) ∧ 40 + 1 = 41 := ⟨by decide +kernel, rfl⟩
theorem eX2_record_41 : decode cX2_record 41 = .ok (.invokestatic 77, 3) ∧ 41 + 3 = 44 := ⟨by decide +kernel, rfl⟩
theorem eX2_record_44 : decode cX2_record 44 = .ok (.putfield 35, 3) ∧ 44 + 3 = 47 := ⟨by decide +kernel, rfl⟩
theorem eX2_record_47 : decode cX2_record 47 = .ok (.iload_n 3, 1) ∧ 47 + 1 = 48 := ⟨by decide +kernel, rfl⟩
theorem eX2_record_48 : decode cX2_record 48 = .ok (.ifCond .lt 19, 3) ∧ ((48 : Nat) : Int) + 19 = ((67 : Nat) : Int) ∧ 48 + 3 = 51 := ⟨by decide +kernel, by decide, rfl⟩
theorem eX2_record_51 : decode cX2_record 51 = .ok (.iload_n 3, 1) ∧ 51 + 1 = 52 := ⟨by decide +kernel, rfl⟩
theorem eX2_record_52 : decode cX2_record 52 = .ok (.aload_n 0, 1) ∧ 52 + 1 = 53 := ⟨by decide +kernel, rfl⟩
theorem eX2_record_53 : decode cX2_record 53 = .ok (.getfield 22, 3) ∧ 53 + 3 = 56 := ⟨by decide +kernel, rfl⟩
theorem eX2_record_56 : decode cX2_record 56 = .ok (.arraylength, 1) ∧ 56 + 1 = 57 := ⟨by decide +kernel, rfl⟩
theorem eX2_record_57 : decode cX2_record 57 = .ok (.if_icmp .ge 10, 3) ∧ ((57 : Nat) : Int) + 10 = ((67 : Nat) : Int) ∧ 57 + 3 = 60 := ⟨by decide +kernel, by decide, rfl⟩
theorem eX2_record_60 : decode cX2_record 60 = .ok (.aload_n 0, 1) ∧ 60 + 1 = 61 := ⟨by decide +kernel, rfl⟩
theorem eX2_record_61 : decode cX2_record 61 = .ok (.getfield 22, 3) ∧ 61 + 3 = 64 := ⟨by decide +kernel, rfl⟩
theorem eX2_record_64 : decode cX2_record 64 = .ok (.iload_n 3, 1) ∧ 64 + 1 = 65 := ⟨by decide +kernel, rfl⟩
theorem eX2_record_65 : decode cX2_record 65 = .ok (.iconst 1, 1) ∧ 65 + 1 = 66 := ⟨by decide +kernel, rfl⟩
theorem eX2_record_66 : decode cX2_record 66 = .ok (.iastore, 1) ∧ 66 + 1 = 67 := ⟨by decide +kernel, rfl⟩
theorem eX2_record_67 : decode cX2_record 67 = .ok (.iload_n 1, 1) ∧ 67 + 1 = 68 := ⟨by decide +kernel, rfl⟩
theorem eX2_record_68 : decode cX2_record 68 = .ok (.aload_n 0, 1) ∧ 68 + 1 = 69 := ⟨by decide +kernel, rfl⟩
theorem eX2_record_69 : decode cX2_record 69 = .ok (.getfield 25, 3) ∧ 69 + 3 = 72 := ⟨by decide +kernel, rfl⟩
theorem eX2_record_72 : decode cX2_record 72 = .ok (.if_icmp .ne 33, 3) ∧ ((72 : Nat) : Int) + 33 = ((105 : Nat) : Int) ∧ 72 + 3 = 75 := ⟨by decide +kernel, by decide, rfl⟩
theorem eX2_record_75 : decode cX2_record 75 = .ok (.aload_n 0, 1) ∧ 75 + 1 = 76 := ⟨by decide +kernel, rfl⟩
theorem eX2_record_76 : decode cX2_record 76 = .ok (.dup, 1) ∧ 76 + 1 = 77 := ⟨by decide +kernel, rfl⟩
theorem eX2_record_77 : decode cX2_record 77 = .ok (.getfield 38, 3) ∧ 77 + 3 = 80 := ⟨by decide +kernel, rfl⟩
theorem eX2_record_80 : decode cX2_record 80 = .ok (.iconst 1, 1) ∧ 80 + 1 = 81 := ⟨by decide +kernel, rfl⟩
theorem eX2_record_81 : decode cX2_record 81 = .ok (.iadd, 1) ∧ 81 + 1 = 82 := ⟨by decide +kernel, rfl⟩
theorem eX2_record_82 : decode cX2_record 82 = .ok (.putfield 38, 3) ∧ 82 + 3 = 85 := ⟨by decide +kernel, rfl⟩
theorem eX2_record_85 : decode cX2_record 85 = .ok (.aload_n 0, 1) ∧ 85 + 1 = 86 := ⟨by decide +kernel, rfl⟩
theorem eX2_record_86 : decode cX2_record 86 = .ok (.dup, 1) ∧ 86 + 1 = 87 := ⟨by decide +kernel, rfl⟩
theorem eX2_record_87 : decode cX2_record 87 = .ok (.getfield 41, 3) ∧ 87 + 3 = 90 := ⟨by decide +kernel, rfl⟩
theorem eX2_record_90 : decode cX2_record 90 = .ok (.iload_n 3, 1) ∧ 90 + 1 = 91 := ⟨by decide +kernel, rfl⟩
theorem eX2_record_91 : decode cX2_record 91 = .ok (.iand, 1) ∧ 91 + 1 = 92 := ⟨by decide +kernel, rfl⟩
theorem eX2_record_92 : decode cX2_record 92 = .ok (.putfield 41, 3) ∧ 92 + 3 = 95 := ⟨by decide +kernel, rfl⟩
theorem eX2_record_95 : decode cX2_record 95 = .ok (.aload_n 0, 1) ∧ 95 + 1 = 96 := ⟨by decide +kernel, rfl⟩
theorem eX2_record_96 : decode cX2_record 96 = .ok (.dup, 1) ∧ 96 + 1 = 97 := ⟨by decide +kernel, rfl⟩
theorem eX2_record_97 : decode cX2_record 97 = .ok (.getfield 44, 3) ∧ 97 + 3 = 100 := ⟨by decide +kernel, rfl⟩
theorem eX2_record_100 : decode cX2_record 100 = .ok (.iload_n 3, 1) ∧ 100 + 1 = 101 := ⟨by decide +kernel, rfl⟩
theorem eX2_record_101 : decode cX2_record 101 = .ok (.ior, 1) ∧ 101 + 1 = 102 := ⟨by decide +kernel, rfl⟩
theorem eX2_record_102 : decode cX2_record 102 = .ok (.putfield 44, 3) ∧ 102 + 3 = 105 := ⟨by decide +kernel, rfl⟩
theorem eX2_record_105 : decode cX2_record 105 = .ok (.return_, 1) := by decide +kernel
theorem eX2_goOn_0 : decode cX2_goOn 0 = .ok (.aload_n 0, 1) ∧ 0 + 1 = 1 := ⟨by decide +kernel, rfl⟩
theorem eX2_goOn_1 : decode cX2_goOn 1 = .ok (.iload_n 2, 1) ∧ 1 + 1 = 2 := ⟨by decide +kernel, rfl⟩
theorem eX2_goOn_2 : decode cX2_goOn 2 = .ok (.iload 4, 2) ∧ 2 + 2 = 4 := ⟨by decide +kernel, rfl⟩
theorem eX2_goOn_4 : decode cX2_goOn 4 = .ok (.iload 5, 2) ∧ 4 + 2 = 6 := ⟨by decide +kernel, rfl⟩
theorem eX2_goOn_6 : decode cX2_goOn 6 = .ok (.iload 6, 2) ∧ 6 + 2 = 8 := ⟨by decide +kernel, rfl⟩
theorem eX2_goOn_8 : decode cX2_goOn 8 = .ok (.invokevirtual 83, 3) ∧ 8 + 3 = 11 := ⟨by decide +kernel, rfl⟩
theorem eX2_goOn_11 : decode cX2_goOn 11 = .ok (.iload_n 2, 1) ∧ 11 + 1 = 12 := ⟨by decide +kernel, rfl⟩
theorem eX2_goOn_12 : decode cX2_goOn 12 = .ok (.aload_n 0, 1) ∧ 12 + 1 = 13 := ⟨by decide +kernel, rfl⟩
theorem eX2_goOn_13 : decode cX2_goOn 13 = .ok (.getfield 25, 3) ∧ 13 + 3 = 16 := ⟨by decide +kernel, rfl⟩
theorem eX2_goOn_16 : decode cX2_goOn 16 = .ok (.if_icmp .ge 9, 3) ∧ ((16 : Nat) : Int) + 9 = ((25 : Nat) : Int) ∧ 16 + 3 = 19 := ⟨by decide +kernel, by decide, rfl⟩
theorem eX2_goOn_19 : decode cX2_goOn 19 = .ok (.iload_n 2, 1) ∧ 19 + 1 = 20 := ⟨by decide +kernel, rfl⟩
theorem eX2_goOn_20 : decode cX2_goOn 20 = .ok (.bipush 6, 2) ∧ 20 + 2 = 22 := ⟨by decide +kernel, rfl⟩
theorem eX2_goOn_22 : decode cX2_goOn 22 = .ok (.if_icmp .lt 4, 3) ∧ ((22 : Nat) : Int) + 4 = ((26 : Nat) : Int) ∧ 22 + 3 = 25 := ⟨by decide +kernel, by decide, rfl⟩
theorem eX2_goOn_25 : decode cX2_goOn 25 = .ok (.return_, 1) := by decide +kernel
theorem eX2_goOn_26 : decode cX2_goOn 26 = .ok (.iconst 0, 1) ∧ 26 + 1 = 27 := ⟨by decide +kernel, rfl⟩
theorem eX2_goOn_27 : decode cX2_goOn 27 = .ok (.istore 7, 2) ∧ 27 + 2 = 29 := ⟨by decide +kernel, rfl⟩
theorem eX2_goOn_29 : decode cX2_goOn 29 = .ok (.iload 7, 2) ∧ 29 + 2 = 31 := ⟨by decide +kernel, rfl⟩
theorem eX2_goOn_31 : decode cX2_goOn 31 = .ok (.aload_n 1, 1) ∧ 31 + 1 = 32 := ⟨by decide +kernel, rfl⟩
theorem eX2_goOn_32 : decode cX2_goOn 32 = .ok (.getfield 87, 3) ∧ 32 + 3 = 35 := ⟨by decide +kernel, rfl⟩
theorem eX2_goOn_35 : decode cX2_goOn 35 = .ok (.if_icmp .ge 126, 3) ∧ ((35 : Nat) : Int) + 126 = ((161 : Nat) : Int) ∧ 35 + 3 = 38 := ⟨by decide +kernel, by decide, rfl⟩
theorem eX2_goOn_38 : decode cX2_goOn 38 = .ok (.aload_n 1, 1) ∧ 38 + 1 = 39 := ⟨by decide +kernel, rfl⟩
theorem eX2_goOn_39 : decode cX2_goOn 39 = .ok (.iload 7, 2) ∧ 39 + 2 = 41 := ⟨by decide +kernel, rfl⟩
theorem eX2_goOn_41 : decode cX2_goOn 41 = .ok (.iconst 0, 1) ∧ 41 + 1 = 42 := ⟨by decide +kernel, rfl⟩
theorem eX2_goOn_42 : decode cX2_goOn 42 = .ok (.invokevirtual 92, 3) ∧ 42 + 3 = 45 := ⟨by decide +kernel, rfl⟩
theorem eX2_goOn_45 : decode cX2_goOn 45 = .ok (.istore 8, 2) ∧ 45 + 2 = 47 := ⟨by decide +kernel, rfl⟩
theorem eX2_goOn_47 : decode cX2_goOn 47 = .ok (.aload_n 0, 1) ∧ 47 + 1 = 48 := ⟨by decide +kernel, rfl⟩
theorem eX2_goOn_48 : decode cX2_goOn 48 = .ok (.getfield 12, 3) ∧ 48 + 3 = 51 := ⟨by decide +kernel, rfl⟩
theorem eX2_goOn_51 : decode cX2_goOn 51 = .ok (.getfield 95, 3) ∧ 51 + 3 = 54 := ⟨by decide +kernel, rfl⟩
theorem eX2_goOn_54 : decode cX2_goOn 54 = .ok (.iload 5, 2) ∧ 54 + 2 = 56 := ⟨by decide +kernel, rfl⟩
theorem eX2_goOn_56 : decode cX2_goOn 56 = .ok (.ior, 1) ∧ 56 + 1 = 57 := ⟨by decide +kernel, rfl⟩
theorem eX2_goOn_57 : decode cX2_goOn 57 = .ok (.iload 7, 2) ∧ 57 + 2 = 59 := ⟨by decide +kernel, rfl⟩
theorem eX2_goOn_59 : decode cX2_goOn 59 = .ok (.ishr, 1) ∧ 59 + 1 = 60 := ⟨by decide +kernel, rfl⟩
theorem eX2_goOn_60 : decode cX2_goOn 60 = .ok (.iconst 1, 1) ∧ 60 + 1 = 61 := ⟨by decide +kernel, rfl⟩
theorem eX2_goOn_61 : decode cX2_goOn 61 = .ok (.iand, 1) ∧ 61 + 1 = 62 := ⟨by decide +kernel, rfl⟩
theorem eX2_goOn_62 : decode cX2_goOn 62 = .ok (.ifCond .ne 7, 3) ∧ ((62 : Nat) : Int) + 7 = ((69 : Nat) : Int) ∧ 62 + 3 = 65 := ⟨by decide +kernel, by decide, rfl⟩
theorem eX2_goOn_65 : decode cX2_goOn 65 = .ok (.iconst 1, 1) ∧ 65 + 1 = 66 := ⟨by decide +kernel, rfl⟩
theorem eX2_goOn_66 : decode cX2_goOn 66 = .ok (.goto 4, 3) ∧ ((66 : Nat) : Int) + 4 = ((70 : Nat) : Int) := ⟨by decide +kernel, by decide⟩
theorem eX2_goOn_69 : decode cX2_goOn 69 = .ok (.iconst 0, 1) ∧ 69 + 1 = 70 := ⟨by decide +kernel, rfl⟩
theorem eX2_goOn_70 : decode cX2_goOn 70 = .ok (.istore 9, 2) ∧ 70 + 2 = 72 := ⟨by decide +kernel, rfl⟩
theorem eX2_goOn_72 : decode cX2_goOn 72 = .ok (.iload 9, 2) ∧ 72 + 2 = 74 := ⟨by decide +kernel, rfl⟩
theorem eX2_goOn_74 : decode cX2_goOn 74 = .ok (.ifCond .eq 81, 3) ∧ ((74 : Nat) : Int) + 81 = ((155 : Nat) : Int) ∧ 74 + 3 = 77 := ⟨by decide +kernel, by decide, rfl⟩
theorem eX2_goOn_77 : decode cX2_goOn 77 = .ok (.aload_n 0, 1) ∧ 77 + 1 = 78 := ⟨by decide +kernel, rfl⟩
theorem eX2_goOn_78 : decode cX2_goOn 78 = .ok (.iload_n 2, 1) ∧ 78 + 1 = 79 := ⟨by decide +kernel, rfl⟩
theorem eX2_goOn_79 : decode cX2_goOn 79 = .ok (.iconst 1, 1) ∧ 79 + 1 = 80 := ⟨by decide +kernel, rfl⟩
theorem eX2_goOn_80 : decode cX2_goOn 80 = .ok (.iadd, 1) ∧ 80 + 1 = 81 := ⟨by decide +kernel, rfl⟩
theorem eX2_goOn_81 : decode cX2_goOn 81 = .ok (.iload 8, 2) ∧ 81 + 2 = 83 := ⟨by decide +kernel, rfl⟩
theorem eX2_goOn_83 : decode cX2_goOn 83 = .ok (.invokevirtual 65, 3) ∧ 83 + 3 = 86 := ⟨by decide +kernel, rfl⟩
theorem eX2_goOn_86 : decode cX2_goOn 86 = .ok (.ifCond .eq 69, 3) ∧ ((86 : Nat) : Int) + 69 = ((155 : Nat) : Int) ∧ 86 + 3 = 89 := ⟨by decide +kernel, by decide, rfl⟩
theorem eX2_goOn_89 : decode cX2_goOn 89 = .ok (.aload_n 1, 1) ∧ 89 + 1 = 90 := ⟨by decide +kernel, rfl⟩
theorem eX2_goOn_90 : decode cX2_goOn 90 = .ok (.iload 7, 2) ∧ 90 + 2 = 92 := ⟨by decide +kernel, rfl⟩
theorem eX2_goOn_92 : decode cX2_goOn 92 = .ok (.iload 4, 2) ∧ 92 + 2 = 94 := ⟨by decide +kernel, rfl⟩
theorem eX2_goOn_94 : decode cX2_goOn 94 = .ok (.aload_n 0, 1) ∧ 94 + 1 = 95 := ⟨by decide +kernel, rfl⟩
theorem eX2_goOn_95 : decode cX2_goOn 95 = .ok (.getfield 12, 3) ∧ 95 + 3 = 98 := ⟨by decide +kernel, rfl⟩
theorem eX2_goOn_98 : decode cX2_goOn 98 = .ok (.iload_n 3, 1) ∧ 98 + 1 = 99 := ⟨by decide +kernel, rfl⟩
theorem eX2_goOn_99 : decode cX2_goOn 99 = .ok (.iload 8, 2) ∧ 99 + 2 = 101 := ⟨by decide +kernel, rfl⟩
theorem eX2_goOn_101 : decode cX2_goOn 101 = .ok (.invokevirtual 98, 3) ∧ 101 + 3 = 104 := ⟨by decide +kernel, rfl⟩
theorem eX2_goOn_104 : decode cX2_goOn 104 = .ok (.invokevirtual 101, 3) ∧ 104 + 3 = 107 := ⟨by decide +kernel, rfl⟩
theorem eX2_goOn_107 : decode cX2_goOn 107 = .ok (.istore 10, 2) ∧ 107 + 2 = 109 := ⟨by decide +kernel, rfl⟩
theorem eX2_goOn_109 : decode cX2_goOn 109 = .ok (.iload 10, 2) ∧ 109 + 2 = 111 := ⟨by decide +kernel, rfl⟩
theorem eX2_goOn_111 : decode cX2_goOn 111 = .ok (.bipush (-9), 2) ∧ 111 + 2 = 113 := ⟨by decide +kernel, rfl⟩
theorem eX2_goOn_113 : decode cX2_goOn 113 = .ok (.if_icmp .eq 42, 3) ∧ ((113 : Nat) : Int) + 42 = ((155 : Nat) : Int) ∧ 113 + 3 = 116 := ⟨by decide +kernel, by decide, rfl⟩
theorem eX2_goOn_116 : decode cX2_goOn 116 = .ok (.aload_n 1, 1) ∧ 116 + 1 = 117 := ⟨by decide +kernel, rfl⟩
theorem eX2_goOn_117 : decode cX2_goOn 117 = .ok (.iload 7, 2) ∧ 117 + 2 = 119 := ⟨by decide +kernel, rfl⟩
theorem eX2_goOn_119 : decode cX2_goOn 119 = .ok (.iload 10, 2) ∧ 119 + 2 = 121 := ⟨by decide +kernel, rfl⟩
theorem eX2_goOn_121 : decode cX2_goOn 121 = .ok (.invokevirtual 105, 3) ∧ 121 + 3 = 124 := ⟨by decide +kernel, rfl⟩
theorem eX2_goOn_124 : decode cX2_goOn 124 = .ok (.istore 11, 2) ∧ 124 + 2 = 126 := ⟨by decide +kernel, rfl⟩
theorem eX2_goOn_126 : decode cX2_goOn 126 = .ok (.aload_n 0, 1) ∧ 126 + 1 = 127 := ⟨by decide +kernel, rfl⟩
theorem eX2_goOn_127 : decode cX2_goOn 127 = .ok (.aload_n 1, 1) ∧ 127 + 1 = 128 := ⟨by decide +kernel, rfl⟩
theorem eX2_goOn_128 : decode cX2_goOn 128 = .ok (.iload_n 2, 1) ∧ 128 + 1 = 129 := ⟨by decide +kernel, rfl⟩
theorem eX2_goOn_129 : decode cX2_goOn 129 = .ok (.iconst 1, 1) ∧ 129 + 1 = 130 := ⟨by decide +kernel, rfl⟩
theorem eX2_goOn_130 : decode cX2_goOn 130 = .ok (.iadd, 1) ∧ 130 + 1 = 131 := ⟨by decide +kernel, rfl⟩
theorem eX2_goOn_131 : decode cX2_goOn 131 = .ok (.iload 8, 2) ∧ 131 + 2 = 133 := ⟨by decide +kernel, rfl⟩
theorem eX2_goOn_133 : decode cX2_goOn 133 = .ok (.iload 11, 2) ∧ 133 + 2 = 135 := ⟨by decide +kernel, rfl⟩
theorem eX2_goOn_135 : decode cX2_goOn 135 = .ok (.iload 5, 2) ∧ 135 + 2 = 137 := ⟨by decide +kernel, rfl⟩
theorem eX2_goOn_137 : decode cX2_goOn 137 = .ok (.iconst 1, 1) ∧ 137 + 1 = 138 := ⟨by decide +kernel, rfl⟩
theorem eX2_goOn_138 : decode cX2_goOn 138 = .ok (.iload 7, 2) ∧ 138 + 2 = 140 := ⟨by decide +kernel, rfl⟩
theorem eX2_goOn_140 : decode cX2_goOn 140 = .ok (.ishl, 1) ∧ 140 + 1 = 141 := ⟨by decide +kernel, rfl⟩
theorem eX2_goOn_141 : decode cX2_goOn 141 = .ok (.ior, 1) ∧ 141 + 1 = 142 := ⟨by decide +kernel, rfl⟩
theorem eX2_goOn_142 : decode cX2_goOn 142 = .ok (.iload 6, 2) ∧ 142 + 2 = 144 := ⟨by decide +kernel, rfl⟩
theorem eX2_goOn_144 : decode cX2_goOn 144 = .ok (.bipush 10, 2) ∧ 144 + 2 = 146 := ⟨by decide +kernel, rfl⟩
theorem eX2_goOn_146 : decode cX2_goOn 146 = .ok (.imul, 1) ∧ 146 + 1 = 147 := ⟨by decide +kernel, rfl⟩
theorem eX2_goOn_147 : decode cX2_goOn 147 = .ok (.iload 7, 2) ∧ 147 + 2 = 149 := ⟨by decide +kernel, rfl⟩
theorem eX2_goOn_149 : decode cX2_goOn 149 = .ok (.iadd, 1) ∧ 149 + 1 = 150 := ⟨by decide +kernel, rfl⟩
theorem eX2_goOn_150 : decode cX2_goOn 150 = .ok (.iconst 1, 1) ∧ 150 + 1 = 151 := ⟨by decide +kernel, rfl⟩
theorem eX2_goOn_151 : decode cX2_goOn 151 = .ok (.iadd, 1) ∧ 151 + 1 = 152 := ⟨by decide +kernel, rfl⟩
theorem eX2_goOn_152 : decode cX2_goOn 152 = .ok (.invokestatic 69, 3) ∧ 152 + 3 = 155 := ⟨by decide +kernel, rfl⟩
theorem eX2_goOn_155 : decode cX2_goOn 155 = .ok (.iinc 7 1, 3) ∧ 155 + 3 = 158 := ⟨by decide +kernel, rfl⟩
theorem eX2_goOn_158 : decode cX2_goOn 158 = .ok (.goto (-129), 3) ∧ ((158 : Nat) : Int) + (-129) = ((29 : Nat) : Int) := ⟨by decide +kernel, by decide⟩
theorem eX2_goOn_161 : decode cX2_goOn 161 = .ok (.return_, 1) := by decide +kernel
theorem eX3_init_0 : decode cX3_init 0 = .ok (.aload_n 0, 1) ∧ 0 + 1 = 1 := ⟨by decide +kernel, rfl⟩
theorem eX3_init_1 : decode cX3_init 1 = .ok (.invokespecial 3, 3) ∧ 1 + 3 = 4 := ⟨by decide +kernel, rfl⟩
theorem eX3_init_4 : decode cX3_init 4 = .ok (.aload_n 0, 1) ∧ 4 + 1 = 5 := ⟨by decide +kernel, rfl⟩
theorem eX3_init_5 : decode cX3_init 5 = .ok (.iconst 5, 1) ∧ 5 + 1 = 6 := ⟨by decide +kernel, rfl⟩
theorem eX3_init_6 : decode cX3_init 6 = .ok (.newarray .int, 2) ∧ 6 + 2 = 8 := ⟨by decide +kernel, rfl⟩
theorem eX3_init_8 : decode cX3_init 8 = .ok (.dup, 1) ∧ 8 + 1 = 9 := ⟨by decide +kernel, rfl⟩
theorem eX3_init_9 : decode cX3_init 9 = .ok (.iconst 0, 1) ∧ 9 + 1 = 10 := ⟨by decide +kernel, rfl⟩
theorem eX3_init_10 : decode cX3_init 10 = .ok (.iconst 1, 1) ∧ 10 + 1 = 11 := ⟨by decide +kernel, rfl⟩
theorem eX3_init_11 : decode cX3_init 11 = .ok (.iastore, 1) ∧ 11 + 1 = 12 := ⟨by decide +kernel, rfl⟩
theorem eX3_init_12 : decode cX3_init 12 = .ok (.dup, 1) ∧ 12 + 1 = 13 := ⟨by decide +kernel, rfl⟩
theorem eX3_init_13 : decode cX3_init 13 = .ok (.iconst 1, 1) ∧ 13 + 1 = 14 := ⟨by decide +kernel, rfl⟩
theorem eX3_init_14 : decode cX3_init 14 = .ok (.iconst 1, 1) ∧ 14 + 1 = 15 := ⟨by decide +kernel, rfl⟩
theorem eX3_init_15 : decode cX3_init 15 = .ok (.iastore, 1) ∧ 15 + 1 = 16 := ⟨by decide +kernel, rfl⟩
theorem eX3_init_16 : decode cX3_init 16 = .ok (.dup, 1) ∧ 16 + 1 = 17 := ⟨by decide +kernel, rfl⟩
theorem eX3_init_17 : decode cX3_init 17 = .ok (.iconst 2, 1) ∧ 17 + 1 = 18 := ⟨by decide +kernel, rfl⟩
theorem eX3_init_18 : decode cX3_init 18 = .ok (.iconst 1, 1) ∧ 18 + 1 = 19 := ⟨by decide +kernel, rfl⟩
theorem eX3_init_19 : decode cX3_init 19 = .ok (.iastore, 1) ∧ 19 + 1 = 20 := ⟨by decide +kernel, rfl⟩
theorem eX3_init_20 : decode cX3_init 20 = .ok (.dup, 1) ∧ 20 + 1 = 21 := ⟨by decide +kernel, rfl⟩
theorem eX3_init_21 : decode cX3_init 21 = .ok (.iconst 3, 1) ∧ 21 + 1 = 22 := ⟨by decide +kernel, rfl⟩
theorem eX3_init_22 : decode cX3_init 22 = .ok (.iconst 1, 1) ∧ 22 + 1 = 23 := ⟨by decide +kernel, rfl⟩
theorem eX3_init_23 : decode cX3_init 23 = .ok (.iastore, 1) ∧ 23 + 1 = 24 := ⟨by decide +kernel, rfl⟩
theorem eX3_init_24 : decode cX3_init 24 = .ok (.dup, 1) ∧ 24 + 1 = 25 := ⟨by decide +kernel, rfl⟩
theorem eX3_init_25 : decode cX3_init 25 = .ok (.iconst 4, 1) ∧ 25 + 1 = 26 := ⟨by decide +kernel, rfl⟩
theorem eX3_init_26 : decode cX3_init 26 = .ok (.iconst 1, 1) ∧ 26 + 1 = 27 := ⟨by decide +kernel, rfl⟩
theorem eX3_init_27 : decode cX3_init 27 = .ok (.iastore, 1) ∧ 27 + 1 = 28 := ⟨by decide +kernel, rfl⟩
theorem eX3_init_28 : decode cX3_init 28 = .ok (.putfield 9, 3) ∧ 28 + 3 = 31 := ⟨by decide +kernel, rfl⟩
theorem eX3_init_31 : decode cX3_init 31 = .ok (.aload_n 0, 1) ∧ 31 + 1 = 32 := ⟨by decide +kernel, rfl⟩
theorem eX3_init_32 : decode cX3_init 32 = .ok (.iconst 0, 1) ∧ 32 + 1 = 33 := ⟨by decide +kernel, rfl⟩
theorem eX3_init_33 : decode cX3_init 33 = .ok (.putfield 15, 3) ∧ 33 + 3 = 36 := ⟨by decide +kernel, rfl⟩
theorem eX3_init_36 : decode cX3_init 36 = .ok (.aload_n 0, 1) ∧ 36 + 1 = 37 := ⟨by decide +kernel, rfl⟩
theorem eX3_init_37 : decode cX3_init 37 = .ok (.iconst 0, 1) ∧ 37 + 1 = 38 := ⟨by decide +kernel, rfl⟩
theorem eX3_init_38 : decode cX3_init 38 = .ok (.putfield 19, 3) ∧ 38 + 3 = 41 := ⟨by decide +kernel, rfl⟩
theorem eX3_init_41 : decode cX3_init 41 = .ok (.aload_n 0, 1) ∧ 41 + 1 = 42 := ⟨by decide +kernel, rfl⟩
theorem eX3_init_42 : decode cX3_init 42 = .ok (.iconst 0, 1) ∧ 42 + 1 = 43 := ⟨by decide +kernel, rfl⟩
theorem eX3_init_43 : decode cX3_init 43 = .ok (.putfield 22, 3) ∧ 43 + 3 = 46 := ⟨by decide +kernel, rfl⟩
theorem eX3_init_46 : decode cX3_init 46 = .ok (.return_, 1) := by decide +kernel
theorem eX3_take_0 : decode cX3_take 0 = .ok (.aload_n 1, 1) ∧ 0 + 1 = 1 := ⟨by decide +kernel, rfl⟩
theorem eX3_take_1 : decode cX3_take 1 = .ok (.ifnonnull 4, 3) ∧ ((1 : Nat) : Int) + 4 = ((5 : Nat) : Int) := ⟨by decide +kernel, by decide⟩
theorem eX3_take_4 : decode cX3_take 4 = .ok (.return_, 1) := by decide +kernel
theorem eX3_take_5 : decode cX3_take 5 = .ok (.aload_n 0, 1) ∧ 5 + 1 = 6 := ⟨by decide +kernel, rfl⟩
theorem eX3_take_6 : decode cX3_take 6 = .ok (.aload_n 1, 1) ∧ 6 + 1 = 7 := ⟨by decide +kernel, rfl⟩
theorem eX3_take_7 : decode cX3_take 7 = .ok (.getfield 15, 3) ∧ 7 + 3 = 10 := ⟨by decide +kernel, rfl⟩
theorem eX3_take_10 : decode cX3_take 10 = .ok (.putfield 15, 3) ∧ 10 + 3 = 13 := ⟨by decide +kernel, rfl⟩
theorem eX3_take_13 : decode cX3_take 13 = .ok (.aload_n 0, 1) ∧ 13 + 1 = 14 := ⟨by decide +kernel, rfl⟩
theorem eX3_take_14 : decode cX3_take 14 = .ok (.aload_n 1, 1) ∧ 14 + 1 = 15 := ⟨by decide +kernel, rfl⟩
theorem eX3_take_15 : decode cX3_take 15 = .ok (.getfield 19, 3) ∧ 15 + 3 = 18 := ⟨by decide +kernel, rfl⟩
theorem eX3_take_18 : decode cX3_take 18 = .ok (.putfield 19, 3) ∧ 18 + 3 = 21 := ⟨by decide +kernel, rfl⟩
theorem eX3_take_21 : decode cX3_take 21 = .ok (.aload_n 0, 1) ∧ 21 + 1 = 22 := ⟨by decide +kernel, rfl⟩
theorem eX3_take_22 : decode cX3_take 22 = .ok (.aload_n 1, 1) ∧ 22 + 1 = 23 := ⟨by decide +kernel, rfl⟩
theorem eX3_take_23 : decode cX3_take 23 = .ok (.getfield 22, 3) ∧ 23 + 3 = 26 := ⟨by decide +kernel, rfl⟩
theorem eX3_take_26 : decode cX3_take 26 = .ok (.putfield 22, 3) ∧ 26 + 3 = 29 := ⟨by decide +kernel, rfl⟩
theorem eX3_take_29 : decode cX3_take 29 = .ok (.iconst 0, 1) ∧ 29 + 1 = 30 := ⟨by decide +kernel, rfl⟩
theorem eX3_take_30 : decode cX3_take 30 = .ok (.istore_n 2, 1) ∧ 30 + 1 = 31 := ⟨by decide +kernel, rfl⟩
theorem eX3_take_31 : decode cX3_take 31 = .ok (.iload_n 2, 1) ∧ 31 + 1 = 32 := ⟨by decide +kernel, rfl⟩
theorem eX3_take_32 : decode cX3_take 32 = .ok (.aload_n 0, 1) ∧ 32 + 1 = 33 := ⟨by decide +kernel, rfl⟩
theorem eX3_take_33 : decode cX3_take 33 = .ok (.getfield 9, 3) ∧ 33 + 3 = 36 := ⟨by decide +kernel, rfl⟩
theorem eX3_take_36 : decode cX3_take 36 = .ok (.arraylength, 1) ∧ 36 + 1 = 37 := ⟨by decide +kernel, rfl⟩
theorem eX3_take_37 : decode cX3_take 37 = .ok (.if_icmp .ge 23, 3) ∧ ((37 : Nat) : Int) + 23 = ((60 : Nat) : Int) ∧ 37 + 3 = 40 := ⟨by decide +kernel, by decide, rfl⟩
theorem eX3_take_40 : decode cX3_take 40 = .ok (.aload_n 0, 1) ∧ 40 + 1 = 41 := ⟨by decide +kernel, rfl⟩
theorem eX3_take_41 : decode cX3_take 41 = .ok (.getfield 9, 3) ∧ 41 + 3 = 44 := ⟨by decide +kernel, rfl⟩
theorem eX3_take_44 : decode cX3_take 44 = .ok (.iload_n 2, 1) ∧ 44 + 1 = 45 := ⟨by decide +kernel, rfl⟩
theorem eX3_take_45 : decode cX3_take 45 = .ok (.aload_n 1, 1) ∧ 45 + 1 = 46 := ⟨by decide +kernel, rfl⟩
theorem eX3_take_46 : decode cX3_take 46 = .ok (.getfield 9, 3) ∧ 46 + 3 = 49 := ⟨by decide +kernel, rfl⟩
theorem eX3_take_49 : decode cX3_take 49 = .ok (.iload_n 2, 1) ∧ 49 + 1 = 50 := ⟨by decide +kernel, rfl⟩
theorem eX3_take_50 : decode cX3_take 50 = .ok (.invokestatic 25, 3) ∧ 50 + 3 = 53 := ⟨by decide +kernel, rfl⟩
theorem eX3_take_53 : decode cX3_take 53 = .ok (.iastore, 1) ∧ 53 + 1 = 54 := ⟨by decide +kernel, rfl⟩
theorem eX3_take_54 : decode cX3_take 54 = .ok (.iinc 2 1, 3) ∧ 54 + 3 = 57 := ⟨by decide +kernel, rfl⟩
theorem eX3_take_57 : decode cX3_take 57 = .ok (.goto (-26), 3) ∧ ((57 : Nat) : Int) + (-26) = ((31 : Nat) : Int) := ⟨by decide +kernel, by decide⟩
theorem eX3_take_60 : decode cX3_take 60 = .ok (.return_, 1) := by decide +kernel
theorem eX3_readFrom_0 : decode cX3_readFrom 0 = .ok (.aload_n 0, 1) ∧ 0 + 1 = 1 := ⟨by decide +kernel, rfl⟩
theorem eX3_readFrom_1 : decode cX3_readFrom 1 = .ok (.iconst 0, 1) ∧ 1 + 1 = 2 := ⟨by decide +kernel, rfl⟩
theorem eX3_readFrom_2 : decode cX3_readFrom 2 = .ok (.putfield 15, 3) ∧ 2 + 3 = 5 := ⟨by decide +kernel, rfl⟩
theorem eX3_readFrom_5 : decode cX3_readFrom 5 = .ok (.aload_n 0, 1) ∧ 5 + 1 = 6 := ⟨by decide +kernel, rfl⟩
theorem eX3_readFrom_6 : decode cX3_readFrom 6 = .ok (.aload_n 1, 1) ∧ 6 + 1 = 7 := ⟨by decide +kernel, rfl⟩
theorem eX3_readFrom_7 : decode cX3_readFrom 7 = .ok (.iconst 2, 1) ∧ 7 + 1 = 8 := ⟨by decide +kernel, rfl⟩
theorem eX3_readFrom_8 : decode cX3_readFrom 8 = .ok (.invokevirtual 29, 3) ∧ 8 + 3 = 11 := ⟨by decide +kernel, rfl⟩
theorem eX3_readFrom_11 : decode cX3_readFrom 11 = .ok (.putfield 19, 3) ∧ 11 + 3 = 14 := ⟨by decide +kernel, rfl⟩
theorem eX3_readFrom_14 : decode cX3_readFrom 14 = .ok (.aload_n 0, 1) ∧ 14 + 1 = 15 := ⟨by decide +kernel, rfl⟩
theorem eX3_readFrom_15 : decode cX3_readFrom 15 = .ok (.iconst 0, 1) ∧ 15 + 1 = 16 := ⟨by decide +kernel, rfl⟩
theorem eX3_readFrom_16 : decode cX3_readFrom 16 = .ok (.putfield 22, 3) ∧ 16 + 3 = 19 := ⟨by decide +kernel, rfl⟩
theorem eX3_readFrom_19 : decode cX3_readFrom 19 = .ok (.iconst 0, 1) ∧ 19 + 1 = 20 := ⟨by decide +kernel, rfl⟩
theorem eX3_readFrom_20 : decode cX3_readFrom 20 = .ok (.istore_n 2, 1) ∧ 20 + 1 = 21 := ⟨by decide +kernel, rfl⟩
theorem eX3_readFrom_21 : decode cX3_readFrom 21 = .ok (.iload_n 2, 1) ∧ 21 + 1 = 22 := ⟨by decide +kernel, rfl⟩
theorem eX3_readFrom_22 : decode cX3_readFrom 22 = .ok (.aload_n 0, 1) ∧ 22 + 1 = 23 := ⟨by decide +kernel, rfl⟩
theorem eX3_readFrom_23 : decode cX3_readFrom 23 = .ok (.getfield 9, 3) ∧ 23 + 3 = 26 := ⟨by decide +kernel, rfl⟩
theorem eX3_readFrom_26 : decode cX3_readFrom 26 = .ok (.arraylength, 1) ∧ 26 + 1 = 27 := ⟨by decide +kernel, rfl⟩
theorem eX3_readFrom_27 : decode cX3_readFrom 27 = .ok (.if_icmp .ge 22, 3) ∧ ((27 : Nat) : Int) + 22 = ((49 : Nat) : Int) ∧ 27 + 3 = 30 := ⟨by decide +kernel, by decide, rfl⟩
theorem eX3_readFrom_30 : decode cX3_readFrom 30 = .ok (.aload_n 0, 1) ∧ 30 + 1 = 31 := ⟨by decide +kernel, rfl⟩
theorem eX3_readFrom_31 : decode cX3_readFrom 31 = .ok (.getfield 9, 3) ∧ 31 + 3 = 34 := ⟨by decide +kernel, rfl⟩
theorem eX3_readFrom_34 : decode cX3_readFrom 34 = .ok (.iload_n 2, 1) ∧ 34 + 1 = 35 := ⟨by decide +kernel, rfl⟩
theorem eX3_readFrom_35 : decode cX3_readFrom 35 = .ok (.aload_n 1, 1) ∧ 35 + 1 = 36 := ⟨by decide +kernel, rfl⟩
theorem eX3_readFrom_36 : decode cX3_readFrom 36 = .ok (.iconst 3, 1) ∧ 36 + 1 = 37 := ⟨by decide +kernel, rfl⟩
theorem eX3_readFrom_37 : decode cX3_readFrom 37 = .ok (.iload_n 2, 1) ∧ 37 + 1 = 38 := ⟨by decide +kernel, rfl⟩
theorem eX3_readFrom_38 : decode cX3_readFrom 38 = .ok (.iadd, 1) ∧ 38 + 1 = 39 := ⟨by decide +kernel, rfl⟩
theorem eX3_readFrom_39 : decode cX3_readFrom 39 = .ok (.invokevirtual 29, 3) ∧ 39 + 3 = 42 := ⟨by decide +kernel, rfl⟩
theorem eX3_readFrom_42 : decode cX3_readFrom 42 = .ok (.iastore, 1) ∧ 42 + 1 = 43 := ⟨by decide +kernel, rfl⟩
theorem eX3_readFrom_43 : decode cX3_readFrom 43 = .ok (.iinc 2 1, 3) ∧ 43 + 3 = 46 := ⟨by decide +kernel, rfl⟩
theorem eX3_readFrom_46 : decode cX3_readFrom 46 = .ok (.goto (-25), 3) ∧ ((46 : Nat) : Int) + (-25) = ((21 : Nat) : Int) := ⟨by decide +kernel, by decide⟩
theorem eX3_readFrom_49 : decode cX3_readFrom 49 = .ok (.return_, 1) := by decide +kernel
theorem eX3_isWed_0 : decode cX3_isWed 0 = .ok (.iload_n 1, 1) ∧ 0 + 1 = 1 := ⟨by decide +kernel, rfl⟩
theorem eX3_isWed_1 : decode cX3_isWed 1 = .ok (.ifCond .lt 24, 3) ∧ ((1 : Nat) : Int) + 24 = ((25 : Nat) : Int) ∧ 1 + 3 = 4 := ⟨by decide +kernel, by decide, rfl⟩
theorem eX3_isWed_4 : decode cX3_isWed 4 = .ok (.iload_n 1, 1) ∧ 4 + 1 = 5 := ⟨by decide +kernel, rfl⟩
theorem eX3_isWed_5 : decode cX3_isWed 5 = .ok (.bipush 6, 2) ∧ 5 + 2 = 7 := ⟨by decide +kernel, rfl⟩
theorem eX3_isWed_7 : decode cX3_isWed 7 = .ok (.if_icmp .ge 18, 3) ∧ ((7 : Nat) : Int) + 18 = ((25 : Nat) : Int) ∧ 7 + 3 = 10 := ⟨by decide +kernel, by decide, rfl⟩
theorem eX3_isWed_10 : decode cX3_isWed 10 = .ok (.aload_n 0, 1) ∧ 10 + 1 = 11 := ⟨by decide +kernel, rfl⟩
theorem eX3_isWed_11 : decode cX3_isWed 11 = .ok (.getfield 22, 3) ∧ 11 + 3 = 14 := ⟨by decide +kernel, rfl⟩
theorem eX3_isWed_14 : decode cX3_isWed 14 = .ok (.iload_n 1, 1) ∧ 14 + 1 = 15 := ⟨by decide +kernel, rfl⟩
theorem eX3_isWed_15 : decode cX3_isWed 15 = .ok (.ishr, 1) ∧ 15 + 1 = 16 := ⟨by decide +kernel, rfl⟩
theorem eX3_isWed_16 : decode cX3_isWed 16 = .ok (.iconst 1, 1) ∧ 16 + 1 = 17 := ⟨by decide +kernel, rfl⟩
theorem eX3_isWed_17 : decode cX3_isWed 17 = .ok (.iand, 1) ∧ 17 + 1 = 18 := ⟨by decide +kernel, rfl⟩
theorem eX3_isWed_18 : decode cX3_isWed 18 = .ok (.ifCond .eq 7, 3) ∧ ((18 : Nat) : Int) + 7 = ((25 : Nat) : Int) ∧ 18 + 3 = 21 := ⟨by decide +kernel, by decide, rfl⟩
theorem eX3_isWed_21 : decode cX3_isWed 21 = .ok (.iconst 1, 1) ∧ 21 + 1 = 22 := ⟨by decide +kernel, rfl⟩
theorem eX3_isWed_22 : decode cX3_isWed 22 = .ok (.goto 4, 3) ∧ ((22 : Nat) : Int) + 4 = ((26 : Nat) : Int) := ⟨by decide +kernel, by decide⟩
theorem eX3_isWed_25 : decode cX3_isWed 25 = .ok (.iconst 0, 1) ∧ 25 + 1 = 26 := ⟨by decide +kernel, rfl⟩
theorem eX3_isWed_26 : decode cX3_isWed 26 = .ok (.ireturn, 1) := by decide +kernel
theorem eX3_shorten_0 : decode cX3_shorten 0 = .ok (.iload_n 1, 1) ∧ 0 + 1 = 1 := ⟨by decide +kernel, rfl⟩
theorem eX3_shorten_1 : decode cX3_shorten 1 = .ok (.ifCond .lt 22, 3) ∧ ((1 : Nat) : Int) + 22 = ((23 : Nat) : Int) ∧ 1 + 3 = 4 := ⟨by decide +kernel, by decide, rfl⟩
theorem eX3_shorten_4 : decode cX3_shorten 4 = .ok (.iload_n 1, 1) ∧ 4 + 1 = 5 := ⟨by decide +kernel, rfl⟩
theorem eX3_shorten_5 : decode cX3_shorten 5 = .ok (.aload_n 0, 1) ∧ 5 + 1 = 6 := ⟨by decide +kernel, rfl⟩
theorem eX3_shorten_6 : decode cX3_shorten 6 = .ok (.getfield 9, 3) ∧ 6 + 3 = 9 := ⟨by decide +kernel, rfl⟩
theorem eX3_shorten_9 : decode cX3_shorten 9 = .ok (.arraylength, 1) ∧ 9 + 1 = 10 := ⟨by decide +kernel, rfl⟩
theorem eX3_shorten_10 : decode cX3_shorten 10 = .ok (.if_icmp .ge 13, 3) ∧ ((10 : Nat) : Int) + 13 = ((23 : Nat) : Int) ∧ 10 + 3 = 13 := ⟨by decide +kernel, by decide, rfl⟩
theorem eX3_shorten_13 : decode cX3_shorten 13 = .ok (.aload_n 0, 1) ∧ 13 + 1 = 14 := ⟨by decide +kernel, rfl⟩
theorem eX3_shorten_14 : decode cX3_shorten 14 = .ok (.getfield 9, 3) ∧ 14 + 3 = 17 := ⟨by decide +kernel, rfl⟩
theorem eX3_shorten_17 : decode cX3_shorten 17 = .ok (.iload_n 1, 1) ∧ 17 + 1 = 18 := ⟨by decide +kernel, rfl⟩
theorem eX3_shorten_18 : decode cX3_shorten 18 = .ok (.dup2, 1) ∧ 18 + 1 = 19 := ⟨by decide +kernel, rfl⟩
theorem eX3_shorten_19 : decode cX3_shorten 19 = .ok (.iaload, 1) ∧ 19 + 1 = 20 := ⟨by decide +kernel, rfl⟩
theorem eX3_shorten_20 : decode cX3_shorten 20 = .ok (.iconst 1, 1) ∧ 20 + 1 = 21 := ⟨by decide +kernel, rfl⟩
theorem eX3_shorten_21 : decode cX3_shorten 21 = .ok (.isub, 1) ∧ 21 + 1 = 22 := ⟨by decide +kernel, rfl⟩
theorem eX3_shorten_22 : decode cX3_shorten 22 = .ok (.iastore, 1) ∧ 22 + 1 = 23 := ⟨by decide +kernel, rfl⟩
theorem eX3_shorten_23 : decode cX3_shorten 23 = .ok (.return_, 1) := by decide +kernel
theorem eX3_hoursBetween_0 : decode cX3_hoursBetween 0 = .ok (.iconst 0, 1) ∧ 0 + 1 = 1 := ⟨by decide +kernel, rfl⟩
theorem eX3_hoursBetween_1 : decode cX3_hoursBetween 1 = .ok (.istore_n 3, 1) ∧ 1 + 1 = 2 := ⟨by decide +kernel, rfl⟩
theorem eX3_hoursBetween_2 : decode cX3_hoursBetween 2 = .ok (.iload_n 1, 1) ∧ 2 + 1 = 3 := ⟨by decide +kernel, rfl⟩
theorem eX3_hoursBetween_3 : decode cX3_hoursBetween 3 = .ok (.iload_n 2, 1) ∧ 3 + 1 = 4 := ⟨by decide +kernel, rfl⟩
theorem eX3_hoursBetween_4 : decode cX3_hoursBetween 4 = .ok (.invokestatic 35, 3) ∧ 4 + 3 = 7 := ⟨by decide +kernel, rfl⟩
theorem eX3_hoursBetween_7 : decode cX3_hoursBetween 7 = .ok (.istore 4, 2) ∧ 7 + 2 = 9 := ⟨by decide +kernel, rfl⟩
theorem eX3_hoursBetween_9 : decode cX3_hoursBetween 9 = .ok (.iload 4, 2) ∧ 9 + 2 = 11 := ⟨by decide +kernel, rfl⟩
theorem eX3_hoursBetween_11 : decode cX3_hoursBetween 11 = .ok (.iload_n 1, 1) ∧ 11 + 1 = 12 := ⟨by decide +kernel, rfl⟩
theorem eX3_hoursBetween_12 : decode cX3_hoursBetween 12 = .ok (.iload_n 2, 1) ∧ 12 + 1 = 13 := ⟨by decide +kernel, rfl⟩
theorem eX3_hoursBetween_13 : decode cX3_hoursBetween 13 = .ok (.invokestatic 41, 3) ∧ 13 + 3 = 16 := ⟨by decide +kernel, rfl⟩
theorem eX3_hoursBetween_16 : decode cX3_hoursBetween 16 = .ok (.if_icmp .ge 21, 3) ∧ ((16 : Nat) : Int) + 21 = ((37 : Nat) : Int) ∧ 16 + 3 = 19 := ⟨by decide +kernel, by decide, rfl⟩
theorem eX3_hoursBetween_19 : decode cX3_hoursBetween 19 = .ok (.iload_n 3, 1) ∧ 19 + 1 = 20 := ⟨by decide +kernel, rfl⟩
theorem eX3_hoursBetween_20 : decode cX3_hoursBetween 20 = .ok (.aload_n 0, 1) ∧ 20 + 1 = 21 := ⟨by decide +kernel, rfl⟩
theorem eX3_hoursBetween_21 : decode cX3_hoursBetween 21 = .ok (.getfield 9, 3) ∧ 21 + 3 = 24 := ⟨by decide +kernel, rfl⟩
theorem eX3_hoursBetween_24 : decode cX3_hoursBetween 24 = .ok (.iload 4, 2) ∧ 24 + 2 = 26 := ⟨by decide +kernel, rfl⟩
theorem eX3_hoursBetween_26 : decode cX3_hoursBetween 26 = .ok (.invokestatic 25, 3) ∧ 26 + 3 = 29 := ⟨by decide +kernel, rfl⟩
theorem eX3_hoursBetween_29 : decode cX3_hoursBetween 29 = .ok (.iadd, 1) ∧ 29 + 1 = 30 := ⟨by decide +kernel, rfl⟩
theorem eX3_hoursBetween_30 : decode cX3_hoursBetween 30 = .ok (.istore_n 3, 1) ∧ 30 + 1 = 31 := ⟨by decide +kernel, rfl⟩
theorem eX3_hoursBetween_31 : decode cX3_hoursBetween 31 = .ok (.iinc 4 1, 3) ∧ 31 + 3 = 34 := ⟨by decide +kernel, rfl⟩
theorem eX3_hoursBetween_34 : decode cX3_hoursBetween 34 = .ok (.goto (-25), 3) ∧ ((34 : Nat) : Int) + (-25) = ((9 : Nat) : Int) := ⟨by decide +kernel, by decide⟩
theorem eX3_hoursBetween_37 : decode cX3_hoursBetween 37 = .ok (.iload_n 3, 1) ∧ 37 + 1 = 38 := ⟨by decide +kernel, rfl⟩
theorem eX3_hoursBetween_38 : decode cX3_hoursBetween 38 = .ok (.ireturn, 1) := by decide +kernel
theorem eX4_init_0 : decode cX4_init 0 = .ok (.aload_n 0, 1) ∧ 0 + 1 = 1 := ⟨by decide +kernel, rfl⟩
theorem eX4_init_1 : decode cX4_init 1 = .ok (.invokespecial 3, 3) ∧ 1 + 3 = 4 := ⟨by decide +kernel, rfl⟩
theorem eX4_init_4 : decode cX4_init 4 = .ok (.aload_n 0, 1) ∧ 4 + 1 = 5 := ⟨by decide +kernel, rfl⟩
theorem eX4_init_5 : decode cX4_init 5 = .ok (.bipush 48, 2) ∧ 5 + 2 = 7 := ⟨by decide +kernel, rfl⟩
theorem eX4_init_7 : decode cX4_init 7 = .ok (.newarray .int, 2) ∧ 7 + 2 = 9 := ⟨by decide +kernel, rfl⟩
theorem eX4_init_9 : decode cX4_init 9 = .ok (.putfield 9, 3) ∧ 9 + 3 = 12 := ⟨by decide +kernel, rfl⟩
theorem eX4_init_12 : decode cX4_init 12 = .ok (.aload_n 0, 1) ∧ 12 + 1 = 13 := ⟨by decide +kernel, rfl⟩
theorem eX4_init_13 : decode cX4_init 13 = .ok (.iconst 0, 1) ∧ 13 + 1 = 14 := ⟨by decide +kernel, rfl⟩
theorem eX4_init_14 : decode cX4_init 14 = .ok (.putfield 15, 3) ∧ 14 + 3 = 17 := ⟨by decide +kernel, rfl⟩
theorem eX4_init_17 : decode cX4_init 17 = .ok (.return_, 1) := by decide +kernel
theorem eX4_add_0 : decode cX4_add 0 = .ok (.aload_n 0, 1) ∧ 0 + 1 = 1 := ⟨by decide +kernel, rfl⟩
theorem eX4_add_1 : decode cX4_add 1 = .ok (.getfield 15, 3) ∧ 1 + 3 = 4 := ⟨by decide +kernel, rfl⟩
theorem eX4_add_4 : decode cX4_add 4 = .ok (.ifCond .lt 15, 3) ∧ ((4 : Nat) : Int) + 15 = ((19 : Nat) : Int) ∧ 4 + 3 = 7 := ⟨by decide +kernel, by decide, rfl⟩
theorem eX4_add_7 : decode cX4_add 7 = .ok (.aload_n 0, 1) ∧ 7 + 1 = 8 := ⟨by decide +kernel, rfl⟩
theorem eX4_add_8 : decode cX4_add 8 = .ok (.getfield 15, 3) ∧ 8 + 3 = 11 := ⟨by decide +kernel, rfl⟩
theorem eX4_add_11 : decode cX4_add 11 = .ok (.aload_n 0, 1) ∧ 11 + 1 = 12 := ⟨by decide +kernel, rfl⟩
theorem eX4_add_12 : decode cX4_add 12 = .ok (.getfield 9, 3) ∧ 12 + 3 = 15 := ⟨by decide +kernel, rfl⟩
theorem eX4_add_15 : decode cX4_add 15 = .ok (.arraylength, 1) ∧ 15 + 1 = 16 := ⟨by decide +kernel, rfl⟩
theorem eX4_add_16 : decode cX4_add 16 = .ok (.if_icmp .lt 5, 3) ∧ ((16 : Nat) : Int) + 5 = ((21 : Nat) : Int) ∧ 16 + 3 = 19 := ⟨by decide +kernel, by decide, rfl⟩
theorem eX4_add_19 : decode cX4_add 19 = .ok (.iconst 0, 1) ∧ 19 + 1 = 20 := ⟨by decide +kernel, rfl⟩
theorem eX4_add_20 : decode cX4_add 20 = .ok (.ireturn, 1) := by decide +kernel
theorem eX4_add_21 : decode cX4_add 21 = .ok (.aload_n 0, 1) ∧ 21 + 1 = 22 := ⟨by decide +kernel, rfl⟩
theorem eX4_add_22 : decode cX4_add 22 = .ok (.getfield 9, 3) ∧ 22 + 3 = 25 := ⟨by decide +kernel, rfl⟩
theorem eX4_add_25 : decode cX4_add 25 = .ok (.aload_n 0, 1) ∧ 25 + 1 = 26 := ⟨by decide +kernel, rfl⟩
theorem eX4_add_26 : decode cX4_add 26 = .ok (.getfield 15, 3) ∧ 26 + 3 = 29 := ⟨by decide +kernel, rfl⟩
theorem eX4_add_29 : decode cX4_add 29 = .ok (.iload_n 1, 1) ∧ 29 + 1 = 30 := ⟨by decide +kernel, rfl⟩
theorem eX4_add_30 : decode cX4_add 30 = .ok (.iastore, 1) ∧ 30 + 1 = 31 := ⟨by decide +kernel, rfl⟩
theorem eX4_add_31 : decode cX4_add 31 = .ok (.aload_n 0, 1) ∧ 31 + 1 = 32 := ⟨by decide +kernel, rfl⟩
theorem eX4_add_32 : decode cX4_add 32 = .ok (.dup, 1) ∧ 32 + 1 = 33 := ⟨by decide +kernel, rfl⟩
theorem eX4_add_33 : decode cX4_add 33 = .ok (.getfield 15, 3) ∧ 33 + 3 = 36 := ⟨by decide +kernel, rfl⟩
theorem eX4_add_36 : decode cX4_add 36 = .ok (.iconst 1, 1) ∧ 36 + 1 = 37 := ⟨by decide +kernel, rfl⟩
theorem eX4_add_37 : decode cX4_add 37 = .ok (.iadd, 1) ∧ 37 + 1 = 38 := ⟨by decide +kernel, rfl⟩
theorem eX4_add_38 : decode cX4_add 38 = .ok (.putfield 15, 3) ∧ 38 + 3 = 41 := ⟨by decide +kernel, rfl⟩
theorem eX4_add_41 : decode cX4_add 41 = .ok (.iconst 1, 1) ∧ 41 + 1 = 42 := ⟨by decide +kernel, rfl⟩
theorem eX4_add_42 : decode cX4_add 42 = .ok (.ireturn, 1) := by decide +kernel
theorem eX4_figure_0 : decode cX4_figure 0 = .ok (.aload_n 0, 1) ∧ 0 + 1 = 1 := ⟨by decide +kernel, rfl⟩
theorem eX4_figure_1 : decode cX4_figure 1 = .ok (.getfield 9, 3) ∧ 1 + 3 = 4 := ⟨by decide +kernel, rfl⟩
theorem eX4_figure_4 : decode cX4_figure 4 = .ok (.iload_n 1, 1) ∧ 4 + 1 = 5 := ⟨by decide +kernel, rfl⟩
theorem eX4_figure_5 : decode cX4_figure 5 = .ok (.invokestatic 19, 3) ∧ 5 + 3 = 8 := ⟨by decide +kernel, rfl⟩
theorem eX4_figure_8 : decode cX4_figure 8 = .ok (.bipush 48, 2) ∧ 8 + 2 = 10 := ⟨by decide +kernel, rfl⟩
theorem eX4_figure_10 : decode cX4_figure 10 = .ok (.isub, 1) ∧ 10 + 1 = 11 := ⟨by decide +kernel, rfl⟩
theorem eX4_figure_11 : decode cX4_figure 11 = .ok (.ireturn, 1) := by decide +kernel
theorem eX4_firstFault_0 : decode cX4_firstFault 0 = .ok (.iconst 0, 1) ∧ 0 + 1 = 1 := ⟨by decide +kernel, rfl⟩
theorem eX4_firstFault_1 : decode cX4_firstFault 1 = .ok (.istore_n 1, 1) ∧ 1 + 1 = 2 := ⟨by decide +kernel, rfl⟩
theorem eX4_firstFault_2 : decode cX4_firstFault 2 = .ok (.iload_n 1, 1) ∧ 2 + 1 = 3 := ⟨by decide +kernel, rfl⟩
theorem eX4_firstFault_3 : decode cX4_firstFault 3 = .ok (.aload_n 0, 1) ∧ 3 + 1 = 4 := ⟨by decide +kernel, rfl⟩
theorem eX4_firstFault_4 : decode cX4_firstFault 4 = .ok (.getfield 15, 3) ∧ 4 + 3 = 7 := ⟨by decide +kernel, rfl⟩
theorem eX4_firstFault_7 : decode cX4_firstFault 7 = .ok (.if_icmp .ge 19, 3) ∧ ((7 : Nat) : Int) + 19 = ((26 : Nat) : Int) ∧ 7 + 3 = 10 := ⟨by decide +kernel, by decide, rfl⟩
theorem eX4_firstFault_10 : decode cX4_firstFault 10 = .ok (.aload_n 0, 1) ∧ 10 + 1 = 11 := ⟨by decide +kernel, rfl⟩
theorem eX4_firstFault_11 : decode cX4_firstFault 11 = .ok (.iload_n 1, 1) ∧ 11 + 1 = 12 := ⟨by decide +kernel, rfl⟩
theorem eX4_firstFault_12 : decode cX4_firstFault 12 = .ok (.invokevirtual 23, 3) ∧ 12 + 3 = 15 := ⟨by decide +kernel, rfl⟩
theorem eX4_firstFault_15 : decode cX4_firstFault 15 = .ok (.ifCond .ne 5, 3) ∧ ((15 : Nat) : Int) + 5 = ((20 : Nat) : Int) ∧ 15 + 3 = 18 := ⟨by decide +kernel, by decide, rfl⟩
theorem eX4_firstFault_18 : decode cX4_firstFault 18 = .ok (.iload_n 1, 1) ∧ 18 + 1 = 19 := ⟨by decide +kernel, rfl⟩
theorem eX4_firstFault_19 : decode cX4_firstFault 19 = .ok (.ireturn, 1) := by decide +kernel
theorem eX4_firstFault_20 : decode cX4_firstFault 20 = .ok (.iinc 1 1, 3) ∧ 20 + 3 = 23 := ⟨by decide +kernel, rfl⟩
theorem eX4_firstFault_23 : decode cX4_firstFault 23 = .ok (.goto (-21), 3) ∧ ((23 : Nat) : Int) + (-21) = ((2 : Nat) : Int) := ⟨by decide +kernel, by decide⟩
theorem eX4_firstFault_26 : decode cX4_firstFault 26 = .ok (.aload_n 0, 1) ∧ 26 + 1 = 27 := ⟨by decide +kernel, rfl⟩
theorem eX4_firstFault_27 : decode cX4_firstFault 27 = .ok (.getfield 15, 3) ∧ 27 + 3 = 30 := ⟨by decide +kernel, rfl⟩
theorem eX4_firstFault_30 : decode cX4_firstFault 30 = .ok (.bipush 8, 2) ∧ 30 + 2 = 32 := ⟨by decide +kernel, rfl⟩
theorem eX4_firstFault_32 : decode cX4_firstFault 32 = .ok (.if_icmp .lt 21, 3) ∧ ((32 : Nat) : Int) + 21 = ((53 : Nat) : Int) ∧ 32 + 3 = 35 := ⟨by decide +kernel, by decide, rfl⟩
theorem eX4_firstFault_35 : decode cX4_firstFault 35 = .ok (.aload_n 0, 1) ∧ 35 + 1 = 36 := ⟨by decide +kernel, rfl⟩
theorem eX4_firstFault_36 : decode cX4_firstFault 36 = .ok (.getfield 15, 3) ∧ 36 + 3 = 39 := ⟨by decide +kernel, rfl⟩
theorem eX4_firstFault_39 : decode cX4_firstFault 39 = .ok (.bipush 8, 2) ∧ 39 + 2 = 41 := ⟨by decide +kernel, rfl⟩
theorem eX4_firstFault_41 : decode cX4_firstFault 41 = .ok (.isub, 1) ∧ 41 + 1 = 42 := ⟨by decide +kernel, rfl⟩
theorem eX4_firstFault_42 : decode cX4_firstFault 42 = .ok (.bipush 6, 2) ∧ 42 + 2 = 44 := ⟨by decide +kernel, rfl⟩
theorem eX4_firstFault_44 : decode cX4_firstFault 44 = .ok (.irem, 1) ∧ 44 + 1 = 45 := ⟨by decide +kernel, rfl⟩
theorem eX4_firstFault_45 : decode cX4_firstFault 45 = .ok (.ifCond .ne 8, 3) ∧ ((45 : Nat) : Int) + 8 = ((53 : Nat) : Int) ∧ 45 + 3 = 48 := ⟨by decide +kernel, by decide, rfl⟩
theorem eX4_firstFault_48 : decode cX4_firstFault 48 = .ok (.bipush (-9), 2) ∧ 48 + 2 = 50 := ⟨by decide +kernel, rfl⟩
theorem eX4_firstFault_50 : decode cX4_firstFault 50 = .ok (.goto 7, 3) ∧ ((50 : Nat) : Int) + 7 = ((57 : Nat) : Int) := ⟨by decide +kernel, by decide⟩
theorem eX4_firstFault_53 : decode cX4_firstFault 53 = .ok (.aload_n 0, 1) ∧ 53 + 1 = 54 := ⟨by decide +kernel, rfl⟩
theorem eX4_firstFault_54 : decode cX4_firstFault 54 = .ok (.getfield 15, 3) ∧ 54 + 3 = 57 := ⟨by decide +kernel, rfl⟩
theorem eX4_firstFault_57 : decode cX4_firstFault 57 = .ok (.ireturn, 1) := by decide +kernel
theorem eX4_fits_0 : decode cX4_fits 0 = .ok (.iload_n 1, 1) ∧ 0 + 1 = 1 := ⟨by decide +kernel, rfl⟩
theorem eX4_fits_1 : decode cX4_fits 1 = .ok (.bipush 8, 2) ∧ 1 + 2 = 3 := ⟨by decide +kernel, rfl⟩
theorem eX4_fits_3 : decode cX4_fits 3 = .ok (.if_icmp .lt 9, 3) ∧ ((3 : Nat) : Int) + 9 = ((12 : Nat) : Int) ∧ 3 + 3 = 6 := ⟨by decide +kernel, by decide, rfl⟩
theorem eX4_fits_6 : decode cX4_fits 6 = .ok (.aload_n 0, 1) ∧ 6 + 1 = 7 := ⟨by decide +kernel, rfl⟩
theorem eX4_fits_7 : decode cX4_fits 7 = .ok (.iload_n 1, 1) ∧ 7 + 1 = 8 := ⟨by decide +kernel, rfl⟩
theorem eX4_fits_8 : decode cX4_fits 8 = .ok (.invokevirtual 27, 3) ∧ 8 + 3 = 11 := ⟨by decide +kernel, rfl⟩
theorem eX4_fits_11 : decode cX4_fits 11 = .ok (.ireturn, 1) := by decide +kernel
theorem eX4_fits_12 : decode cX4_fits 12 = .ok (.iload_n 1, 1) ∧ 12 + 1 = 13 := ⟨by decide +kernel, rfl⟩
theorem eX4_fits_13 : decode cX4_fits 13 = .ok (.tableswitch 63 0 2 #[27, 46, 55], 27) := by decide +kernel
theorem eX4_fits_40 : decode cX4_fits 40 = .ok (.aload_n 0, 1) ∧ 40 + 1 = 41 := ⟨by decide +kernel, rfl⟩
theorem eX4_fits_41 : decode cX4_fits 41 = .ok (.getfield 9, 3) ∧ 41 + 3 = 44 := ⟨by decide +kernel, rfl⟩
theorem eX4_fits_44 : decode cX4_fits 44 = .ok (.iload_n 1, 1) ∧ 44 + 1 = 45 := ⟨by decide +kernel, rfl⟩
theorem eX4_fits_45 : decode cX4_fits 45 = .ok (.invokestatic 19, 3) ∧ 45 + 3 = 48 := ⟨by decide +kernel, rfl⟩
theorem eX4_fits_48 : decode cX4_fits 48 = .ok (.bipush 78, 2) ∧ 48 + 2 = 50 := ⟨by decide +kernel, rfl⟩
theorem eX4_fits_50 : decode cX4_fits 50 = .ok (.if_icmp .ne 7, 3) ∧ ((50 : Nat) : Int) + 7 = ((57 : Nat) : Int) ∧ 50 + 3 = 53 := ⟨by decide +kernel, by decide, rfl⟩
theorem eX4_fits_53 : decode cX4_fits 53 = .ok (.iconst 1, 1) ∧ 53 + 1 = 54 := ⟨by decide +kernel, rfl⟩
theorem eX4_fits_54 : decode cX4_fits 54 = .ok (.goto 4, 3) ∧ ((54 : Nat) : Int) + 4 = ((58 : Nat) : Int) := ⟨by decide +kernel, by decide⟩
theorem eX4_fits_57 : decode cX4_fits 57 = .ok (.iconst 0, 1) ∧ 57 + 1 = 58 := ⟨by decide +kernel, rfl⟩
theorem eX4_fits_58 : decode cX4_fits 58 = .ok (.ireturn, 1) := by decide +kernel
theorem eX4_fits_59 : decode cX4_fits 59 = .ok (.aload_n 0, 1) ∧ 59 + 1 = 60 := ⟨by decide +kernel, rfl⟩
theorem eX4_fits_60 : decode cX4_fits 60 = .ok (.iload_n 1, 1) ∧ 60 + 1 = 61 := ⟨by decide +kernel, rfl⟩
theorem eX4_fits_61 : decode cX4_fits 61 = .ok (.iconst 1, 1) ∧ 61 + 1 = 62 := ⟨by decide +kernel, rfl⟩
theorem eX4_fits_62 : decode cX4_fits 62 = .ok (.bipush 9, 2) ∧ 62 + 2 = 64 := ⟨by decide +kernel, rfl⟩
theorem eX4_fits_64 : decode cX4_fits 64 = .ok (.invokevirtual 30, 3) ∧ 64 + 3 = 67 := ⟨by decide +kernel, rfl⟩
theorem eX4_fits_67 : decode cX4_fits 67 = .ok (.ireturn, 1) := by decide +kernel
theorem eX4_fits_68 : decode cX4_fits 68 = .ok (.aload_n 0, 1) ∧ 68 + 1 = 69 := ⟨by decide +kernel, rfl⟩
theorem eX4_fits_69 : decode cX4_fits 69 = .ok (.iload_n 1, 1) ∧ 69 + 1 = 70 := ⟨by decide +kernel, rfl⟩
theorem eX4_fits_70 : decode cX4_fits 70 = .ok (.iconst 0, 1) ∧ 70 + 1 = 71 := ⟨by decide +kernel, rfl⟩
theorem eX4_fits_71 : decode cX4_fits 71 = .ok (.iconst 5, 1) ∧ 71 + 1 = 72 := ⟨by decide +kernel, rfl⟩
theorem eX4_fits_72 : decode cX4_fits 72 = .ok (.invokevirtual 30, 3) ∧ 72 + 3 = 75 := ⟨by decide +kernel, rfl⟩
theorem eX4_fits_75 : decode cX4_fits 75 = .ok (.ireturn, 1) := by decide +kernel
theorem eX4_fits_76 : decode cX4_fits 76 = .ok (.aload_n 0, 1) ∧ 76 + 1 = 77 := ⟨by decide +kernel, rfl⟩
theorem eX4_fits_77 : decode cX4_fits 77 = .ok (.iload_n 1, 1) ∧ 77 + 1 = 78 := ⟨by decide +kernel, rfl⟩
theorem eX4_fits_78 : decode cX4_fits 78 = .ok (.iconst 0, 1) ∧ 78 + 1 = 79 := ⟨by decide +kernel, rfl⟩
theorem eX4_fits_79 : decode cX4_fits 79 = .ok (.iconst 3, 1) ∧ 79 + 1 = 80 := ⟨by decide +kernel, rfl⟩
theorem eX4_fits_80 : decode cX4_fits 80 = .ok (.invokevirtual 30, 3) ∧ 80 + 3 = 83 := ⟨by decide +kernel, rfl⟩
theorem eX4_fits_83 : decode cX4_fits 83 = .ok (.ireturn, 1) := by decide +kernel
theorem eX4_fitsWedding_0 : decode cX4_fitsWedding 0 = .ok (.iload_n 1, 1) ∧ 0 + 1 = 1 := ⟨by decide +kernel, rfl⟩
theorem eX4_fitsWedding_1 : decode cX4_fitsWedding 1 = .ok (.bipush 44, 2) ∧ 1 + 2 = 3 := ⟨by decide +kernel, rfl⟩
theorem eX4_fitsWedding_3 : decode cX4_fitsWedding 3 = .ok (.if_icmp .lt 5, 3) ∧ ((3 : Nat) : Int) + 5 = ((8 : Nat) : Int) ∧ 3 + 3 = 6 := ⟨by decide +kernel, by decide, rfl⟩
theorem eX4_fitsWedding_6 : decode cX4_fitsWedding 6 = .ok (.iconst 0, 1) ∧ 6 + 1 = 7 := ⟨by decide +kernel, rfl⟩
theorem eX4_fitsWedding_7 : decode cX4_fitsWedding 7 = .ok (.ireturn, 1) := by decide +kernel
theorem eX4_fitsWedding_8 : decode cX4_fitsWedding 8 = .ok (.iload_n 1, 1) ∧ 8 + 1 = 9 := ⟨by decide +kernel, rfl⟩
theorem eX4_fitsWedding_9 : decode cX4_fitsWedding 9 = .ok (.bipush 8, 2) ∧ 9 + 2 = 11 := ⟨by decide +kernel, rfl⟩
theorem eX4_fitsWedding_11 : decode cX4_fitsWedding 11 = .ok (.isub, 1) ∧ 11 + 1 = 12 := ⟨by decide +kernel, rfl⟩
theorem eX4_fitsWedding_12 : decode cX4_fitsWedding 12 = .ok (.bipush 6, 2) ∧ 12 + 2 = 14 := ⟨by decide +kernel, rfl⟩
theorem eX4_fitsWedding_14 : decode cX4_fitsWedding 14 = .ok (.irem, 1) ∧ 14 + 1 = 15 := ⟨by decide +kernel, rfl⟩
theorem eX4_fitsWedding_15 : decode cX4_fitsWedding 15 = .ok (.iconst 1, 1) ∧ 15 + 1 = 16 := ⟨by decide +kernel, rfl⟩
theorem eX4_fitsWedding_16 : decode cX4_fitsWedding 16 = .ok (.isub, 1) ∧ 16 + 1 = 17 := ⟨by decide +kernel, rfl⟩
theorem eX4_fitsWedding_17 : decode cX4_fitsWedding 17 = .ok (.tableswitch 83 0 4 #[35, 43, 52, 67, 75], 35) := by decide +kernel
theorem eX4_fitsWedding_52 : decode cX4_fitsWedding 52 = .ok (.aload_n 0, 1) ∧ 52 + 1 = 53 := ⟨by decide +kernel, rfl⟩
theorem eX4_fitsWedding_53 : decode cX4_fitsWedding 53 = .ok (.iload_n 1, 1) ∧ 53 + 1 = 54 := ⟨by decide +kernel, rfl⟩
theorem eX4_fitsWedding_54 : decode cX4_fitsWedding 54 = .ok (.iconst 0, 1) ∧ 54 + 1 = 55 := ⟨by decide +kernel, rfl⟩
theorem eX4_fitsWedding_55 : decode cX4_fitsWedding 55 = .ok (.iconst 5, 1) ∧ 55 + 1 = 56 := ⟨by decide +kernel, rfl⟩
theorem eX4_fitsWedding_56 : decode cX4_fitsWedding 56 = .ok (.invokevirtual 30, 3) ∧ 56 + 3 = 59 := ⟨by decide +kernel, rfl⟩
theorem eX4_fitsWedding_59 : decode cX4_fitsWedding 59 = .ok (.ireturn, 1) := by decide +kernel
theorem eX4_fitsWedding_60 : decode cX4_fitsWedding 60 = .ok (.aload_n 0, 1) ∧ 60 + 1 = 61 := ⟨by decide +kernel, rfl⟩
theorem eX4_fitsWedding_61 : decode cX4_fitsWedding 61 = .ok (.iload_n 1, 1) ∧ 61 + 1 = 62 := ⟨by decide +kernel, rfl⟩
theorem eX4_fitsWedding_62 : decode cX4_fitsWedding 62 = .ok (.iconst 0, 1) ∧ 62 + 1 = 63 := ⟨by decide +kernel, rfl⟩
theorem eX4_fitsWedding_63 : decode cX4_fitsWedding 63 = .ok (.bipush 9, 2) ∧ 63 + 2 = 65 := ⟨by decide +kernel, rfl⟩
theorem eX4_fitsWedding_65 : decode cX4_fitsWedding 65 = .ok (.invokevirtual 30, 3) ∧ 65 + 3 = 68 := ⟨by decide +kernel, rfl⟩
theorem eX4_fitsWedding_68 : decode cX4_fitsWedding 68 = .ok (.ireturn, 1) := by decide +kernel
theorem eX4_fitsWedding_69 : decode cX4_fitsWedding 69 = .ok (.aload_n 0, 1) ∧ 69 + 1 = 70 := ⟨by decide +kernel, rfl⟩
theorem eX4_fitsWedding_70 : decode cX4_fitsWedding 70 = .ok (.iload_n 1, 1) ∧ 70 + 1 = 71 := ⟨by decide +kernel, rfl⟩
theorem eX4_fitsWedding_71 : decode cX4_fitsWedding 71 = .ok (.aload_n 0, 1) ∧ 71 + 1 = 72 := ⟨by decide +kernel, rfl⟩
theorem eX4_fitsWedding_72 : decode cX4_fitsWedding 72 = .ok (.iload_n 1, 1) ∧ 72 + 1 = 73 := ⟨by decide +kernel, rfl⟩
theorem eX4_fitsWedding_73 : decode cX4_fitsWedding 73 = .ok (.iconst 1, 1) ∧ 73 + 1 = 74 := ⟨by decide +kernel, rfl⟩
theorem eX4_fitsWedding_74 : decode cX4_fitsWedding 74 = .ok (.isub, 1) ∧ 74 + 1 = 75 := ⟨by decide +kernel, rfl⟩
theorem eX4_fitsWedding_75 : decode cX4_fitsWedding 75 = .ok (.invokevirtual 34, 3) ∧ 75 + 3 = 78 := ⟨by decide +kernel, rfl⟩
theorem eX4_fitsWedding_78 : decode cX4_fitsWedding 78 = .ok (.bipush 9, 2) ∧ 78 + 2 = 80 := ⟨by decide +kernel, rfl⟩
theorem eX4_fitsWedding_80 : decode cX4_fitsWedding 80 = .ok (.invokevirtual 30, 3) ∧ 80 + 3 = 83 := ⟨by decide +kernel, rfl⟩
theorem eX4_fitsWedding_83 : decode cX4_fitsWedding 83 = .ok (.ireturn, 1) := by decide +kernel
theorem eX4_fitsWedding_84 : decode cX4_fitsWedding 84 = .ok (.aload_n 0, 1) ∧ 84 + 1 = 85 := ⟨by decide +kernel, rfl⟩
theorem eX4_fitsWedding_85 : decode cX4_fitsWedding 85 = .ok (.iload_n 1, 1) ∧ 85 + 1 = 86 := ⟨by decide +kernel, rfl⟩
theorem eX4_fitsWedding_86 : decode cX4_fitsWedding 86 = .ok (.iconst 1, 1) ∧ 86 + 1 = 87 := ⟨by decide +kernel, rfl⟩
theorem eX4_fitsWedding_87 : decode cX4_fitsWedding 87 = .ok (.iconst 3, 1) ∧ 87 + 1 = 88 := ⟨by decide +kernel, rfl⟩
theorem eX4_fitsWedding_88 : decode cX4_fitsWedding 88 = .ok (.invokevirtual 30, 3) ∧ 88 + 3 = 91 := ⟨by decide +kernel, rfl⟩
theorem eX4_fitsWedding_91 : decode cX4_fitsWedding 91 = .ok (.ireturn, 1) := by decide +kernel
theorem eX4_fitsWedding_92 : decode cX4_fitsWedding 92 = .ok (.aload_n 0, 1) ∧ 92 + 1 = 93 := ⟨by decide +kernel, rfl⟩
theorem eX4_fitsWedding_93 : decode cX4_fitsWedding 93 = .ok (.iload_n 1, 1) ∧ 93 + 1 = 94 := ⟨by decide +kernel, rfl⟩
theorem eX4_fitsWedding_94 : decode cX4_fitsWedding 94 = .ok (.iconst 0, 1) ∧ 94 + 1 = 95 := ⟨by decide +kernel, rfl⟩
theorem eX4_fitsWedding_95 : decode cX4_fitsWedding 95 = .ok (.iconst 3, 1) ∧ 95 + 1 = 96 := ⟨by decide +kernel, rfl⟩
theorem eX4_fitsWedding_96 : decode cX4_fitsWedding 96 = .ok (.invokevirtual 30, 3) ∧ 96 + 3 = 99 := ⟨by decide +kernel, rfl⟩
theorem eX4_fitsWedding_99 : decode cX4_fitsWedding 99 = .ok (.ireturn, 1) := by decide +kernel
theorem eX4_fitsWedding_100 : decode cX4_fitsWedding 100 = .ok (.aload_n 0, 1) ∧ 100 + 1 = 101 := ⟨by decide +kernel, rfl⟩
theorem eX4_fitsWedding_101 : decode cX4_fitsWedding 101 = .ok (.getfield 9, 3) ∧ 101 + 3 = 104 := ⟨by decide +kernel, rfl⟩
theorem eX4_fitsWedding_104 : decode cX4_fitsWedding 104 = .ok (.iload_n 1, 1) ∧ 104 + 1 = 105 := ⟨by decide +kernel, rfl⟩
theorem eX4_fitsWedding_105 : decode cX4_fitsWedding 105 = .ok (.invokestatic 19, 3) ∧ 105 + 3 = 108 := ⟨by decide +kernel, rfl⟩
theorem eX4_fitsWedding_108 : decode cX4_fitsWedding 108 = .ok (.bipush 87, 2) ∧ 108 + 2 = 110 := ⟨by decide +kernel, rfl⟩
theorem eX4_fitsWedding_110 : decode cX4_fitsWedding 110 = .ok (.if_icmp .ne 7, 3) ∧ ((110 : Nat) : Int) + 7 = ((117 : Nat) : Int) ∧ 110 + 3 = 113 := ⟨by decide +kernel, by decide, rfl⟩
theorem eX4_fitsWedding_113 : decode cX4_fitsWedding 113 = .ok (.iconst 1, 1) ∧ 113 + 1 = 114 := ⟨by decide +kernel, rfl⟩
theorem eX4_fitsWedding_114 : decode cX4_fitsWedding 114 = .ok (.goto 4, 3) ∧ ((114 : Nat) : Int) + 4 = ((118 : Nat) : Int) := ⟨by decide +kernel, by decide⟩
theorem eX4_fitsWedding_117 : decode cX4_fitsWedding 117 = .ok (.iconst 0, 1) ∧ 117 + 1 = 118 := ⟨by decide +kernel, rfl⟩
theorem eX4_fitsWedding_118 : decode cX4_fitsWedding 118 = .ok (.ireturn, 1) := by decide +kernel
theorem eX4_isFigure_0 : decode cX4_isFigure 0 = .ok (.aload_n 0, 1) ∧ 0 + 1 = 1 := ⟨by decide +kernel, rfl⟩
theorem eX4_isFigure_1 : decode cX4_isFigure 1 = .ok (.iload_n 1, 1) ∧ 1 + 1 = 2 := ⟨by decide +kernel, rfl⟩
theorem eX4_isFigure_2 : decode cX4_isFigure 2 = .ok (.invokevirtual 34, 3) ∧ 2 + 3 = 5 := ⟨by decide +kernel, rfl⟩
theorem eX4_isFigure_5 : decode cX4_isFigure 5 = .ok (.iload_n 2, 1) ∧ 5 + 1 = 6 := ⟨by decide +kernel, rfl⟩
theorem eX4_isFigure_6 : decode cX4_isFigure 6 = .ok (.if_icmp .lt 16, 3) ∧ ((6 : Nat) : Int) + 16 = ((22 : Nat) : Int) ∧ 6 + 3 = 9 := ⟨by decide +kernel, by decide, rfl⟩
theorem eX4_isFigure_9 : decode cX4_isFigure 9 = .ok (.aload_n 0, 1) ∧ 9 + 1 = 10 := ⟨by decide +kernel, rfl⟩
theorem eX4_isFigure_10 : decode cX4_isFigure 10 = .ok (.iload_n 1, 1) ∧ 10 + 1 = 11 := ⟨by decide +kernel, rfl⟩
theorem eX4_isFigure_11 : decode cX4_isFigure 11 = .ok (.invokevirtual 34, 3) ∧ 11 + 3 = 14 := ⟨by decide +kernel, rfl⟩
theorem eX4_isFigure_14 : decode cX4_isFigure 14 = .ok (.iload_n 3, 1) ∧ 14 + 1 = 15 := ⟨by decide +kernel, rfl⟩
theorem eX4_isFigure_15 : decode cX4_isFigure 15 = .ok (.if_icmp .gt 7, 3) ∧ ((15 : Nat) : Int) + 7 = ((22 : Nat) : Int) ∧ 15 + 3 = 18 := ⟨by decide +kernel, by decide, rfl⟩
theorem eX4_isFigure_18 : decode cX4_isFigure 18 = .ok (.iconst 1, 1) ∧ 18 + 1 = 19 := ⟨by decide +kernel, rfl⟩
theorem eX4_isFigure_19 : decode cX4_isFigure 19 = .ok (.goto 4, 3) ∧ ((19 : Nat) : Int) + 4 = ((23 : Nat) : Int) := ⟨by decide +kernel, by decide⟩
theorem eX4_isFigure_22 : decode cX4_isFigure 22 = .ok (.iconst 0, 1) ∧ 22 + 1 = 23 := ⟨by decide +kernel, rfl⟩
theorem eX4_isFigure_23 : decode cX4_isFigure 23 = .ok (.ireturn, 1) := by decide +kernel
theorem eJ6_bitCount_0f7a4_0 : decode cJ6_bitCount_0f7a4 0 = .ok (.iload_n 0, 1) ∧ 0 + 1 = 1 := ⟨by decide +kernel, rfl⟩
theorem eJ6_bitCount_0f7a4_1 : decode cJ6_bitCount_0f7a4 1 = .ok (.iload_n 0, 1) ∧ 1 + 1 = 2 := ⟨by decide +kernel, rfl⟩
theorem eJ6_bitCount_0f7a4_2 : decode cJ6_bitCount_0f7a4 2 = .ok (.iconst 1, 1) ∧ 2 + 1 = 3 := ⟨by decide +kernel, rfl⟩
theorem eJ6_bitCount_0f7a4_3 : decode cJ6_bitCount_0f7a4 3 = .ok (.iushr, 1) ∧ 3 + 1 = 4 := ⟨by decide +kernel, rfl⟩
theorem eJ6_bitCount_0f7a4_4 : decode cJ6_bitCount_0f7a4 4 = .ok (.ldc_w 265, 3) ∧ 4 + 3 = 7 := ⟨by decide +kernel, rfl⟩
theorem eJ6_bitCount_0f7a4_7 : decode cJ6_bitCount_0f7a4 7 = .ok (.iand, 1) ∧ 7 + 1 = 8 := ⟨by decide +kernel, rfl⟩
theorem eJ6_bitCount_0f7a4_8 : decode cJ6_bitCount_0f7a4 8 = .ok (.isub, 1) ∧ 8 + 1 = 9 := ⟨by decide +kernel, rfl⟩
theorem eJ6_bitCount_0f7a4_9 : decode cJ6_bitCount_0f7a4 9 = .ok (.istore_n 0, 1) ∧ 9 + 1 = 10 := ⟨by decide +kernel, rfl⟩
theorem eJ6_bitCount_0f7a4_10 : decode cJ6_bitCount_0f7a4 10 = .ok (.iload_n 0, 1) ∧ 10 + 1 = 11 := ⟨by decide +kernel, rfl⟩
theorem eJ6_bitCount_0f7a4_11 : decode cJ6_bitCount_0f7a4 11 = .ok (.ldc_w 266, 3) ∧ 11 + 3 = 14 := ⟨by decide +kernel, rfl⟩
theorem eJ6_bitCount_0f7a4_14 : decode cJ6_bitCount_0f7a4 14 = .ok (.iand, 1) ∧ 14 + 1 = 15 := ⟨by decide +kernel, rfl⟩
theorem eJ6_bitCount_0f7a4_15 : decode cJ6_bitCount_0f7a4 15 = .ok (.iload_n 0, 1) ∧ 15 + 1 = 16 := ⟨by decide +kernel, rfl⟩
theorem eJ6_bitCount_0f7a4_16 : decode cJ6_bitCount_0f7a4 16 = .ok (.iconst 2, 1) ∧ 16 + 1 = 17 := ⟨by decide +kernel, rfl⟩
theorem eJ6_bitCount_0f7a4_17 : decode cJ6_bitCount_0f7a4 17 = .ok (.iushr, 1) ∧ 17 + 1 = 18 := ⟨by decide +kernel, rfl⟩
theorem eJ6_bitCount_0f7a4_18 : decode cJ6_bitCount_0f7a4 18 = .ok (.ldc_w 266, 3) ∧ 18 + 3 = 21 := ⟨by decide +kernel, rfl⟩
theorem eJ6_bitCount_0f7a4_21 : decode cJ6_bitCount_0f7a4 21 = .ok (.iand, 1) ∧ 21 + 1 = 22 := ⟨by decide +kernel, rfl⟩
theorem eJ6_bitCount_0f7a4_22 : decode cJ6_bitCount_0f7a4 22 = .ok (.iadd, 1) ∧ 22 + 1 = 23 := ⟨by decide +kernel, rfl⟩
theorem eJ6_bitCount_0f7a4_23 : decode cJ6_bitCount_0f7a4 23 = .ok (.istore_n 0, 1) ∧ 23 + 1 = 24 := ⟨by decide +kernel, rfl⟩
theorem eJ6_bitCount_0f7a4_24 : decode cJ6_bitCount_0f7a4 24 = .ok (.iload_n 0, 1) ∧ 24 + 1 = 25 := ⟨by decide +kernel, rfl⟩
theorem eJ6_bitCount_0f7a4_25 : decode cJ6_bitCount_0f7a4 25 = .ok (.iload_n 0, 1) ∧ 25 + 1 = 26 := ⟨by decide +kernel, rfl⟩
theorem eJ6_bitCount_0f7a4_26 : decode cJ6_bitCount_0f7a4 26 = .ok (.iconst 4, 1) ∧ 26 + 1 = 27 := ⟨by decide +kernel, rfl⟩
theorem eJ6_bitCount_0f7a4_27 : decode cJ6_bitCount_0f7a4 27 = .ok (.iushr, 1) ∧ 27 + 1 = 28 := ⟨by decide +kernel, rfl⟩
theorem eJ6_bitCount_0f7a4_28 : decode cJ6_bitCount_0f7a4 28 = .ok (.iadd, 1) ∧ 28 + 1 = 29 := ⟨by decide +kernel, rfl⟩
theorem eJ6_bitCount_0f7a4_29 : decode cJ6_bitCount_0f7a4 29 = .ok (.ldc_w 267, 3) ∧ 29 + 3 = 32 := ⟨by decide +kernel, rfl⟩
theorem eJ6_bitCount_0f7a4_32 : decode cJ6_bitCount_0f7a4 32 = .ok (.iand, 1) ∧ 32 + 1 = 33 := ⟨by decide +kernel, rfl⟩
theorem eJ6_bitCount_0f7a4_33 : decode cJ6_bitCount_0f7a4 33 = .ok (.istore_n 0, 1) ∧ 33 + 1 = 34 := ⟨by decide +kernel, rfl⟩
theorem eJ6_bitCount_0f7a4_34 : decode cJ6_bitCount_0f7a4 34 = .ok (.iload_n 0, 1) ∧ 34 + 1 = 35 := ⟨by decide +kernel, rfl⟩
theorem eJ6_bitCount_0f7a4_35 : decode cJ6_bitCount_0f7a4 35 = .ok (.iload_n 0, 1) ∧ 35 + 1 = 36 := ⟨by decide +kernel, rfl⟩
theorem eJ6_bitCount_0f7a4_36 : decode cJ6_bitCount_0f7a4 36 = .ok (.bipush 8, 2) ∧ 36 + 2 = 38 := ⟨by decide +kernel, rfl⟩
theorem eJ6_bitCount_0f7a4_38 : decode cJ6_bitCount_0f7a4 38 = .ok (.iushr, 1) ∧ 38 + 1 = 39 := ⟨by decide +kernel, rfl⟩
theorem eJ6_bitCount_0f7a4_39 : decode cJ6_bitCount_0f7a4 39 = .ok (.iadd, 1) ∧ 39 + 1 = 40 := ⟨by decide +kernel, rfl⟩
theorem eJ6_bitCount_0f7a4_40 : decode cJ6_bitCount_0f7a4 40 = .ok (.istore_n 0, 1) ∧ 40 + 1 = 41 := ⟨by decide +kernel, rfl⟩
theorem eJ6_bitCount_0f7a4_41 : decode cJ6_bitCount_0f7a4 41 = .ok (.iload_n 0, 1) ∧ 41 + 1 = 42 := ⟨by decide +kernel, rfl⟩
theorem eJ6_bitCount_0f7a4_42 : decode cJ6_bitCount_0f7a4 42 = .ok (.iload_n 0, 1) ∧ 42 + 1 = 43 := ⟨by decide +kernel, rfl⟩
theorem eJ6_bitCount_0f7a4_43 : decode cJ6_bitCount_0f7a4 43 = .ok (.bipush 16, 2) ∧ 43 + 2 = 45 := ⟨by decide +kernel, rfl⟩
theorem eJ6_bitCount_0f7a4_45 : decode cJ6_bitCount_0f7a4 45 = .ok (.iushr, 1) ∧ 45 + 1 = 46 := ⟨by decide +kernel, rfl⟩
theorem eJ6_bitCount_0f7a4_46 : decode cJ6_bitCount_0f7a4 46 = .ok (.iadd, 1) ∧ 46 + 1 = 47 := ⟨by decide +kernel, rfl⟩
theorem eJ6_bitCount_0f7a4_47 : decode cJ6_bitCount_0f7a4 47 = .ok (.istore_n 0, 1) ∧ 47 + 1 = 48 := ⟨by decide +kernel, rfl⟩
theorem eJ6_bitCount_0f7a4_48 : decode cJ6_bitCount_0f7a4 48 = .ok (.iload_n 0, 1) ∧ 48 + 1 = 49 := ⟨by decide +kernel, rfl⟩
theorem eJ6_bitCount_0f7a4_49 : decode cJ6_bitCount_0f7a4 49 = .ok (.bipush 63, 2) ∧ 49 + 2 = 51 := ⟨by decide +kernel, rfl⟩
theorem eJ6_bitCount_0f7a4_51 : decode cJ6_bitCount_0f7a4 51 = .ok (.iand, 1) ∧ 51 + 1 = 52 := ⟨by decide +kernel, rfl⟩
theorem eJ6_bitCount_0f7a4_52 : decode cJ6_bitCount_0f7a4 52 = .ok (.ireturn, 1) := by decide +kernel
theorem eJ9_max_7cf53_0 : decode cJ9_max_7cf53 0 = .ok (.iload_n 0, 1) ∧ 0 + 1 = 1 := ⟨by decide +kernel, rfl⟩
theorem eJ9_max_7cf53_1 : decode cJ9_max_7cf53 1 = .ok (.iload_n 1, 1) ∧ 1 + 1 = 2 := ⟨by decide +kernel, rfl⟩
theorem eJ9_max_7cf53_2 : decode cJ9_max_7cf53 2 = .ok (.if_icmp .lt 7, 3) ∧ ((2 : Nat) : Int) + 7 = ((9 : Nat) : Int) ∧ 2 + 3 = 5 := ⟨by decide +kernel, by decide, rfl⟩
theorem eJ9_max_7cf53_5 : decode cJ9_max_7cf53 5 = .ok (.iload_n 0, 1) ∧ 5 + 1 = 6 := ⟨by decide +kernel, rfl⟩
theorem eJ9_max_7cf53_6 : decode cJ9_max_7cf53 6 = .ok (.goto 4, 3) ∧ ((6 : Nat) : Int) + 4 = ((10 : Nat) : Int) := ⟨by decide +kernel, by decide⟩
theorem eJ9_max_7cf53_9 : decode cJ9_max_7cf53 9 = .ok (.iload_n 1, 1) ∧ 9 + 1 = 10 := ⟨by decide +kernel, rfl⟩
theorem eJ9_max_7cf53_10 : decode cJ9_max_7cf53 10 = .ok (.ireturn, 1) := by decide +kernel
theorem eJ9_min_7cf53_0 : decode cJ9_min_7cf53 0 = .ok (.iload_n 0, 1) ∧ 0 + 1 = 1 := ⟨by decide +kernel, rfl⟩
theorem eJ9_min_7cf53_1 : decode cJ9_min_7cf53 1 = .ok (.iload_n 1, 1) ∧ 1 + 1 = 2 := ⟨by decide +kernel, rfl⟩
theorem eJ9_min_7cf53_2 : decode cJ9_min_7cf53 2 = .ok (.if_icmp .gt 7, 3) ∧ ((2 : Nat) : Int) + 7 = ((9 : Nat) : Int) ∧ 2 + 3 = 5 := ⟨by decide +kernel, by decide, rfl⟩
theorem eJ9_min_7cf53_5 : decode cJ9_min_7cf53 5 = .ok (.iload_n 0, 1) ∧ 5 + 1 = 6 := ⟨by decide +kernel, rfl⟩
theorem eJ9_min_7cf53_6 : decode cJ9_min_7cf53 6 = .ok (.goto 4, 3) ∧ ((6 : Nat) : Int) + 4 = ((10 : Nat) : Int) := ⟨by decide +kernel, by decide⟩
theorem eJ9_min_7cf53_9 : decode cJ9_min_7cf53 9 = .ok (.iload_n 1, 1) ∧ 9 + 1 = 10 := ⟨by decide +kernel, rfl⟩
theorem eJ9_min_7cf53_10 : decode cJ9_min_7cf53 10 = .ok (.ireturn, 1) := by decide +kernel
end
section
theorem eX5_init_0 : decode cX5_init 0 = .ok (.aload_n 0, 1) ∧ 0 + 1 = 1 := ⟨by decide +kernel, rfl⟩
theorem eX5_init_1 : decode cX5_init 1 = .ok (.invokespecial 1, 3) ∧ 1 + 3 = 4 := ⟨by decide +kernel, rfl⟩
theorem eX5_init_4 : decode cX5_init 4 = .ok (.aload_n 0, 1) ∧ 4 + 1 = 5 := ⟨by decide +kernel, rfl⟩
theorem eX5_init_5 : decode cX5_init 5 = .ok (.new 7, 3) ∧ 5 + 3 = 8 := ⟨by decide +kernel, rfl⟩
theorem eX5_init_8 : decode cX5_init 8 = .ok (.dup, 1) ∧ 8 + 1 = 9 := ⟨by decide +kernel, rfl⟩
theorem eX5_init_9 : decode cX5_init 9 = .ok (.invokespecial 9, 3) ∧ 9 + 3 = 12 := ⟨by decide +kernel, rfl⟩
theorem eX5_init_12 : decode cX5_init 12 = .ok (.putfield 10, 3) ∧ 12 + 3 = 15 := ⟨by decide +kernel, rfl⟩
theorem eX5_init_15 : decode cX5_init 15 = .ok (.aload_n 0, 1) ∧ 15 + 1 = 16 := ⟨by decide +kernel, rfl⟩
theorem eX5_init_16 : decode cX5_init 16 = .ok (.new 16, 3) ∧ 16 + 3 = 19 := ⟨by decide +kernel, rfl⟩
theorem eX5_init_19 : decode cX5_init 19 = .ok (.dup, 1) ∧ 19 + 1 = 20 := ⟨by decide +kernel, rfl⟩
theorem eX5_init_20 : decode cX5_init 20 = .ok (.invokespecial 18, 3) ∧ 20 + 3 = 23 := ⟨by decide +kernel, rfl⟩
theorem eX5_init_23 : decode cX5_init 23 = .ok (.putfield 19, 3) ∧ 23 + 3 = 26 := ⟨by decide +kernel, rfl⟩
theorem eX5_init_26 : decode cX5_init 26 = .ok (.aload_n 0, 1) ∧ 26 + 1 = 27 := ⟨by decide +kernel, rfl⟩
theorem eX5_init_27 : decode cX5_init 27 = .ok (.new 23, 3) ∧ 27 + 3 = 30 := ⟨by decide +kernel, rfl⟩
theorem eX5_init_30 : decode cX5_init 30 = .ok (.dup, 1) ∧ 30 + 1 = 31 := ⟨by decide +kernel, rfl⟩
theorem eX5_init_31 : decode cX5_init 31 = .ok (.invokespecial 25, 3) ∧ 31 + 3 = 34 := ⟨by decide +kernel, rfl⟩
theorem eX5_init_34 : decode cX5_init 34 = .ok (.putfield 26, 3) ∧ 34 + 3 = 37 := ⟨by decide +kernel, rfl⟩
theorem eX5_init_37 : decode cX5_init 37 = .ok (.aload_n 0, 1) ∧ 37 + 1 = 38 := ⟨by decide +kernel, rfl⟩
theorem eX5_init_38 : decode cX5_init 38 = .ok (.new 23, 3) ∧ 38 + 3 = 41 := ⟨by decide +kernel, rfl⟩
theorem eX5_init_41 : decode cX5_init 41 = .ok (.dup, 1) ∧ 41 + 1 = 42 := ⟨by decide +kernel, rfl⟩
theorem eX5_init_42 : decode cX5_init 42 = .ok (.invokespecial 25, 3) ∧ 42 + 3 = 45 := ⟨by decide +kernel, rfl⟩
theorem eX5_init_45 : decode cX5_init 45 = .ok (.putfield 30, 3) ∧ 45 + 3 = 48 := ⟨by decide +kernel, rfl⟩
theorem eX5_init_48 : decode cX5_init 48 = .ok (.aload_n 0, 1) ∧ 48 + 1 = 49 := ⟨by decide +kernel, rfl⟩
theorem eX5_init_49 : decode cX5_init 49 = .ok (.new 33, 3) ∧ 49 + 3 = 52 := ⟨by decide +kernel, rfl⟩
theorem eX5_init_52 : decode cX5_init 52 = .ok (.dup, 1) ∧ 52 + 1 = 53 := ⟨by decide +kernel, rfl⟩
theorem eX5_init_53 : decode cX5_init 53 = .ok (.invokespecial 35, 3) ∧ 53 + 3 = 56 := ⟨by decide +kernel, rfl⟩
theorem eX5_init_56 : decode cX5_init 56 = .ok (.putfield 36, 3) ∧ 56 + 3 = 59 := ⟨by decide +kernel, rfl⟩
theorem eX5_init_59 : decode cX5_init 59 = .ok (.aload_n 0, 1) ∧ 59 + 1 = 60 := ⟨by decide +kernel, rfl⟩
theorem eX5_init_60 : decode cX5_init 60 = .ok (.new 40, 3) ∧ 60 + 3 = 63 := ⟨by decide +kernel, rfl⟩
theorem eX5_init_63 : decode cX5_init 63 = .ok (.dup, 1) ∧ 63 + 1 = 64 := ⟨by decide +kernel, rfl⟩
theorem eX5_init_64 : decode cX5_init 64 = .ok (.invokespecial 42, 3) ∧ 64 + 3 = 67 := ⟨by decide +kernel, rfl⟩
theorem eX5_init_67 : decode cX5_init 67 = .ok (.putfield 43, 3) ∧ 67 + 3 = 70 := ⟨by decide +kernel, rfl⟩
theorem eX5_init_70 : decode cX5_init 70 = .ok (.aload_n 0, 1) ∧ 70 + 1 = 71 := ⟨by decide +kernel, rfl⟩
theorem eX5_init_71 : decode cX5_init 71 = .ok (.iconst 2, 1) ∧ 71 + 1 = 72 := ⟨by decide +kernel, rfl⟩
theorem eX5_init_72 : decode cX5_init 72 = .ok (.anewarray 23, 3) ∧ 72 + 3 = 75 := ⟨by decide +kernel, rfl⟩
theorem eX5_init_75 : decode cX5_init 75 = .ok (.putfield 47, 3) ∧ 75 + 3 = 78 := ⟨by decide +kernel, rfl⟩
theorem eX5_init_78 : decode cX5_init 78 = .ok (.aload_n 0, 1) ∧ 78 + 1 = 79 := ⟨by decide +kernel, rfl⟩
theorem eX5_init_79 : decode cX5_init 79 = .ok (.iconst 2, 1) ∧ 79 + 1 = 80 := ⟨by decide +kernel, rfl⟩
theorem eX5_init_80 : decode cX5_init 80 = .ok (.newarray .boolean, 2) ∧ 80 + 2 = 82 := ⟨by decide +kernel, rfl⟩
theorem eX5_init_82 : decode cX5_init 82 = .ok (.putfield 51, 3) ∧ 82 + 3 = 85 := ⟨by decide +kernel, rfl⟩
theorem eX5_init_85 : decode cX5_init 85 = .ok (.aload_n 0, 1) ∧ 85 + 1 = 86 := ⟨by decide +kernel, rfl⟩
theorem eX5_init_86 : decode cX5_init 86 = .ok (.bipush 6, 2) ∧ 86 + 2 = 88 := ⟨by decide +kernel, rfl⟩
theorem eX5_init_88 : decode cX5_init 88 = .ok (.newarray .int, 2) ∧ 88 + 2 = 90 := ⟨by decide +kernel, rfl⟩
theorem eX5_init_90 : decode cX5_init 90 = .ok (.putfield 55, 3) ∧ 90 + 3 = 93 := ⟨by decide +kernel, rfl⟩
theorem eX5_init_93 : decode cX5_init 93 = .ok (.aload_n 0, 1) ∧ 93 + 1 = 94 := ⟨by decide +kernel, rfl⟩
theorem eX5_init_94 : decode cX5_init 94 = .ok (.bipush 6, 2) ∧ 94 + 2 = 96 := ⟨by decide +kernel, rfl⟩
theorem eX5_init_96 : decode cX5_init 96 = .ok (.newarray .int, 2) ∧ 96 + 2 = 98 := ⟨by decide +kernel, rfl⟩
theorem eX5_init_98 : decode cX5_init 98 = .ok (.putfield 59, 3) ∧ 98 + 3 = 101 := ⟨by decide +kernel, rfl⟩
theorem eX5_init_101 : decode cX5_init 101 = .ok (.aload_n 0, 1) ∧ 101 + 1 = 102 := ⟨by decide +kernel, rfl⟩
theorem eX5_init_102 : decode cX5_init 102 = .ok (.bipush 64, 2) ∧ 102 + 2 = 104 := ⟨by decide +kernel, rfl⟩
theorem eX5_init_104 : decode cX5_init 104 = .ok (.newarray .int, 2) ∧ 104 + 2 = 106 := ⟨by decide +kernel, rfl⟩
theorem eX5_init_106 : decode cX5_init 106 = .ok (.putfield 62, 3) ∧ 106 + 3 = 109 := ⟨by decide +kernel, rfl⟩
theorem eX5_init_109 : decode cX5_init 109 = .ok (.aload_n 0, 1) ∧ 109 + 1 = 110 := ⟨by decide +kernel, rfl⟩
theorem eX5_init_110 : decode cX5_init 110 = .ok (.iconst 0, 1) ∧ 110 + 1 = 111 := ⟨by decide +kernel, rfl⟩
theorem eX5_init_111 : decode cX5_init 111 = .ok (.putfield 65, 3) ∧ 111 + 3 = 114 := ⟨by decide +kernel, rfl⟩
theorem eX5_init_114 : decode cX5_init 114 = .ok (.aload_n 0, 1) ∧ 114 + 1 = 115 := ⟨by decide +kernel, rfl⟩
theorem eX5_init_115 : decode cX5_init 115 = .ok (.lconst 0, 1) ∧ 115 + 1 = 116 := ⟨by decide +kernel, rfl⟩
theorem eX5_init_116 : decode cX5_init 116 = .ok (.putfield 69, 3) ∧ 116 + 3 = 119 := ⟨by decide +kernel, rfl⟩
theorem eX5_init_119 : decode cX5_init 119 = .ok (.iconst 0, 1) ∧ 119 + 1 = 120 := ⟨by decide +kernel, rfl⟩
theorem eX5_init_120 : decode cX5_init 120 = .ok (.istore_n 1, 1) ∧ 120 + 1 = 121 := ⟨by decide +kernel, rfl⟩
theorem eX5_init_121 : decode cX5_init 121 = .ok (.iload_n 1, 1) ∧ 121 + 1 = 122 := ⟨by decide +kernel, rfl⟩
theorem eX5_init_122 : decode cX5_init 122 = .ok (.aload_n 0, 1) ∧ 122 + 1 = 123 := ⟨by decide +kernel, rfl⟩
theorem eX5_init_123 : decode cX5_init 123 = .ok (.getfield 47, 3) ∧ 123 + 3 = 126 := ⟨by decide +kernel, rfl⟩
theorem eX5_init_126 : decode cX5_init 126 = .ok (.arraylength, 1) ∧ 126 + 1 = 127 := ⟨by decide +kernel, rfl⟩
theorem eX5_init_127 : decode cX5_init 127 = .ok (.if_icmp .ge 22, 3) ∧ ((127 : Nat) : Int) + 22 = ((149 : Nat) : Int) ∧ 127 + 3 = 130 := ⟨by decide +kernel, by decide, rfl⟩
theorem eX5_init_130 : decode cX5_init 130 = .ok (.aload_n 0, 1) ∧ 130 + 1 = 131 := ⟨by decide +kernel, rfl⟩
theorem eX5_init_131 : decode cX5_init 131 = .ok (.getfield 47, 3) ∧ 131 + 3 = 134 := ⟨by decide +kernel, rfl⟩
theorem eX5_init_134 : decode cX5_init 134 = .ok (.iload_n 1, 1) ∧ 134 + 1 = 135 := ⟨by decide +kernel, rfl⟩
theorem eX5_init_135 : decode cX5_init 135 = .ok (.new 23, 3) ∧ 135 + 3 = 138 := ⟨by decide +kernel, rfl⟩
theorem eX5_init_138 : decode cX5_init 138 = .ok (.dup, 1) ∧ 138 + 1 = 139 := ⟨by decide +kernel, rfl⟩
theorem eX5_init_139 : decode cX5_init 139 = .ok (.invokespecial 25, 3) ∧ 139 + 3 = 142 := ⟨by decide +kernel, rfl⟩
theorem eX5_init_142 : decode cX5_init 142 = .ok (.aastore, 1) ∧ 142 + 1 = 143 := ⟨by decide +kernel, rfl⟩
theorem eX5_init_143 : decode cX5_init 143 = .ok (.iinc 1 1, 3) ∧ 143 + 3 = 146 := ⟨by decide +kernel, rfl⟩
theorem eX5_init_146 : decode cX5_init 146 = .ok (.goto (-25), 3) ∧ ((146 : Nat) : Int) + (-25) = ((121 : Nat) : Int) := ⟨by decide +kernel, by decide⟩
theorem eX5_init_149 : decode cX5_init 149 = .ok (.return_, 1) := by decide +kernel
theorem eX5_write_0 : decode cX5_write 0 = .ok (.iload_n 1, 1) ∧ 0 + 1 = 1 := ⟨by decide +kernel, rfl⟩
theorem eX5_write_1 : decode cX5_write 1 = .ok (.ifCond .lt 10, 3) ∧ ((1 : Nat) : Int) + 10 = ((11 : Nat) : Int) ∧ 1 + 3 = 4 := ⟨by decide +kernel, by decide, rfl⟩
theorem eX5_write_4 : decode cX5_write 4 = .ok (.iload_n 1, 1) ∧ 4 + 1 = 5 := ⟨by decide +kernel, rfl⟩
theorem eX5_write_5 : decode cX5_write 5 = .ok (.sipush 255, 3) ∧ 5 + 3 = 8 := ⟨by decide +kernel, rfl⟩
theorem eX5_write_8 : decode cX5_write 8 = .ok (.if_icmp .le 6, 3) ∧ ((8 : Nat) : Int) + 6 = ((14 : Nat) : Int) ∧ 8 + 3 = 11 := ⟨by decide +kernel, by decide, rfl⟩
theorem eX5_write_11 : decode cX5_write 11 = .ok (.bipush (-2), 2) ∧ 11 + 2 = 13 := ⟨by decide +kernel, rfl⟩
theorem eX5_write_13 : decode cX5_write 13 = .ok (.ireturn, 1) := by decide +kernel
theorem eX5_write_14 : decode cX5_write 14 = .ok (.aload_n 0, 1) ∧ 14 + 1 = 15 := ⟨by decide +kernel, rfl⟩
theorem eX5_write_15 : decode cX5_write 15 = .ok (.getfield 10, 3) ∧ 15 + 3 = 18 := ⟨by decide +kernel, rfl⟩
theorem eX5_write_18 : decode cX5_write 18 = .ok (.iload_n 1, 1) ∧ 18 + 1 = 19 := ⟨by decide +kernel, rfl⟩
theorem eX5_write_19 : decode cX5_write 19 = .ok (.invokevirtual 73, 3) ∧ 19 + 3 = 22 := ⟨by decide +kernel, rfl⟩
theorem eX5_write_22 : decode cX5_write 22 = .ok (.ifCond .eq 13, 3) ∧ ((22 : Nat) : Int) + 13 = ((35 : Nat) : Int) ∧ 22 + 3 = 25 := ⟨by decide +kernel, by decide, rfl⟩
theorem eX5_write_25 : decode cX5_write 25 = .ok (.aload_n 0, 1) ∧ 25 + 1 = 26 := ⟨by decide +kernel, rfl⟩
theorem eX5_write_26 : decode cX5_write 26 = .ok (.getfield 10, 3) ∧ 26 + 3 = 29 := ⟨by decide +kernel, rfl⟩
theorem eX5_write_29 : decode cX5_write 29 = .ok (.getfield 77, 3) ∧ 29 + 3 = 32 := ⟨by decide +kernel, rfl⟩
theorem eX5_write_32 : decode cX5_write 32 = .ok (.goto 5, 3) ∧ ((32 : Nat) : Int) + 5 = ((37 : Nat) : Int) := ⟨by decide +kernel, by decide⟩
theorem eX5_write_35 : decode cX5_write 35 = .ok (.bipush (-4), 2) ∧ 35 + 2 = 37 := ⟨by decide +kernel, rfl⟩
theorem eX5_write_37 : decode cX5_write 37 = .ok (.ireturn, 1) := by decide +kernel
theorem eX5_wipe_0 : decode cX5_wipe 0 = .ok (.aload_n 0, 1) ∧ 0 + 1 = 1 := ⟨by decide +kernel, rfl⟩
theorem eX5_wipe_1 : decode cX5_wipe 1 = .ok (.getfield 10, 3) ∧ 1 + 3 = 4 := ⟨by decide +kernel, rfl⟩
theorem eX5_wipe_4 : decode cX5_wipe 4 = .ok (.getfield 77, 3) ∧ 4 + 3 = 7 := ⟨by decide +kernel, rfl⟩
theorem eX5_wipe_7 : decode cX5_wipe 7 = .ok (.istore_n 1, 1) ∧ 7 + 1 = 8 := ⟨by decide +kernel, rfl⟩
theorem eX5_wipe_8 : decode cX5_wipe 8 = .ok (.aload_n 0, 1) ∧ 8 + 1 = 9 := ⟨by decide +kernel, rfl⟩
theorem eX5_wipe_9 : decode cX5_wipe 9 = .ok (.getfield 10, 3) ∧ 9 + 3 = 12 := ⟨by decide +kernel, rfl⟩
theorem eX5_wipe_12 : decode cX5_wipe 12 = .ok (.iconst 0, 1) ∧ 12 + 1 = 13 := ⟨by decide +kernel, rfl⟩
theorem eX5_wipe_13 : decode cX5_wipe 13 = .ok (.putfield 77, 3) ∧ 13 + 3 = 16 := ⟨by decide +kernel, rfl⟩
theorem eX5_wipe_16 : decode cX5_wipe 16 = .ok (.iload_n 1, 1) ∧ 16 + 1 = 17 := ⟨by decide +kernel, rfl⟩
theorem eX5_wipe_17 : decode cX5_wipe 17 = .ok (.ireturn, 1) := by decide +kernel
theorem eX5_fault_0 : decode cX5_fault 0 = .ok (.aload_n 0, 1) ∧ 0 + 1 = 1 := ⟨by decide +kernel, rfl⟩
theorem eX5_fault_1 : decode cX5_fault 1 = .ok (.getfield 10, 3) ∧ 1 + 3 = 4 := ⟨by decide +kernel, rfl⟩
theorem eX5_fault_4 : decode cX5_fault 4 = .ok (.invokevirtual 80, 3) ∧ 4 + 3 = 7 := ⟨by decide +kernel, rfl⟩
theorem eX5_fault_7 : decode cX5_fault 7 = .ok (.ireturn, 1) := by decide +kernel
theorem eX5_parish_0 : decode cX5_parish 0 = .ok (.aload_n 0, 1) ∧ 0 + 1 = 1 := ⟨by decide +kernel, rfl⟩
theorem eX5_parish_1 : decode cX5_parish 1 = .ok (.getfield 10, 3) ∧ 1 + 3 = 4 := ⟨by decide +kernel, rfl⟩
theorem eX5_parish_4 : decode cX5_parish 4 = .ok (.invokevirtual 80, 3) ∧ 4 + 3 = 7 := ⟨by decide +kernel, rfl⟩
theorem eX5_parish_7 : decode cX5_parish 7 = .ok (.bipush (-9), 2) ∧ 7 + 2 = 9 := ⟨by decide +kernel, rfl⟩
theorem eX5_parish_9 : decode cX5_parish 9 = .ok (.if_icmp .eq 6, 3) ∧ ((9 : Nat) : Int) + 6 = ((15 : Nat) : Int) ∧ 9 + 3 = 12 := ⟨by decide +kernel, by decide, rfl⟩
theorem eX5_parish_12 : decode cX5_parish 12 = .ok (.bipush (-3), 2) ∧ 12 + 2 = 14 := ⟨by decide +kernel, rfl⟩
theorem eX5_parish_14 : decode cX5_parish 14 = .ok (.ireturn, 1) := by decide +kernel
theorem eX5_parish_15 : decode cX5_parish 15 = .ok (.aload_n 0, 1) ∧ 15 + 1 = 16 := ⟨by decide +kernel, rfl⟩
theorem eX5_parish_16 : decode cX5_parish 16 = .ok (.getfield 19, 3) ∧ 16 + 3 = 19 := ⟨by decide +kernel, rfl⟩
theorem eX5_parish_19 : decode cX5_parish 19 = .ok (.aload_n 0, 1) ∧ 19 + 1 = 20 := ⟨by decide +kernel, rfl⟩
theorem eX5_parish_20 : decode cX5_parish 20 = .ok (.getfield 10, 3) ∧ 20 + 3 = 23 := ⟨by decide +kernel, rfl⟩
theorem eX5_parish_23 : decode cX5_parish 23 = .ok (.invokevirtual 84, 3) ∧ 23 + 3 = 26 := ⟨by decide +kernel, rfl⟩
theorem eX5_parish_26 : decode cX5_parish 26 = .ok (.aload_n 0, 1) ∧ 26 + 1 = 27 := ⟨by decide +kernel, rfl⟩
theorem eX5_parish_27 : decode cX5_parish 27 = .ok (.getfield 26, 3) ∧ 27 + 3 = 30 := ⟨by decide +kernel, rfl⟩
theorem eX5_parish_30 : decode cX5_parish 30 = .ok (.aload_n 0, 1) ∧ 30 + 1 = 31 := ⟨by decide +kernel, rfl⟩
theorem eX5_parish_31 : decode cX5_parish 31 = .ok (.getfield 10, 3) ∧ 31 + 3 = 34 := ⟨by decide +kernel, rfl⟩
theorem eX5_parish_34 : decode cX5_parish 34 = .ok (.invokevirtual 88, 3) ∧ 34 + 3 = 37 := ⟨by decide +kernel, rfl⟩
theorem eX5_parish_37 : decode cX5_parish 37 = .ok (.aload_n 0, 1) ∧ 37 + 1 = 38 := ⟨by decide +kernel, rfl⟩
theorem eX5_parish_38 : decode cX5_parish 38 = .ok (.getfield 36, 3) ∧ 38 + 3 = 41 := ⟨by decide +kernel, rfl⟩
theorem eX5_parish_41 : decode cX5_parish 41 = .ok (.invokevirtual 89, 3) ∧ 41 + 3 = 44 := ⟨by decide +kernel, rfl⟩
theorem eX5_parish_44 : decode cX5_parish 44 = .ok (.iconst 0, 1) ∧ 44 + 1 = 45 := ⟨by decide +kernel, rfl⟩
theorem eX5_parish_45 : decode cX5_parish 45 = .ok (.istore_n 1, 1) ∧ 45 + 1 = 46 := ⟨by decide +kernel, rfl⟩
theorem eX5_parish_46 : decode cX5_parish 46 = .ok (.iload_n 1, 1) ∧ 46 + 1 = 47 := ⟨by decide +kernel, rfl⟩
theorem eX5_parish_47 : decode cX5_parish 47 = .ok (.aload_n 0, 1) ∧ 47 + 1 = 48 := ⟨by decide +kernel, rfl⟩
theorem eX5_parish_48 : decode cX5_parish 48 = .ok (.getfield 51, 3) ∧ 48 + 3 = 51 := ⟨by decide +kernel, rfl⟩
theorem eX5_parish_51 : decode cX5_parish 51 = .ok (.arraylength, 1) ∧ 51 + 1 = 52 := ⟨by decide +kernel, rfl⟩
theorem eX5_parish_52 : decode cX5_parish 52 = .ok (.if_icmp .ge 16, 3) ∧ ((52 : Nat) : Int) + 16 = ((68 : Nat) : Int) ∧ 52 + 3 = 55 := ⟨by decide +kernel, by decide, rfl⟩
theorem eX5_parish_55 : decode cX5_parish 55 = .ok (.aload_n 0, 1) ∧ 55 + 1 = 56 := ⟨by decide +kernel, rfl⟩
theorem eX5_parish_56 : decode cX5_parish 56 = .ok (.getfield 51, 3) ∧ 56 + 3 = 59 := ⟨by decide +kernel, rfl⟩
theorem eX5_parish_59 : decode cX5_parish 59 = .ok (.iload_n 1, 1) ∧ 59 + 1 = 60 := ⟨by decide +kernel, rfl⟩
theorem eX5_parish_60 : decode cX5_parish 60 = .ok (.iconst 0, 1) ∧ 60 + 1 = 61 := ⟨by decide +kernel, rfl⟩
theorem eX5_parish_61 : decode cX5_parish 61 = .ok (.bastore, 1) ∧ 61 + 1 = 62 := ⟨by decide +kernel, rfl⟩
theorem eX5_parish_62 : decode cX5_parish 62 = .ok (.iinc 1 1, 3) ∧ 62 + 3 = 65 := ⟨by decide +kernel, rfl⟩
theorem eX5_parish_65 : decode cX5_parish 65 = .ok (.goto (-19), 3) ∧ ((65 : Nat) : Int) + (-19) = ((46 : Nat) : Int) := ⟨by decide +kernel, by decide⟩
theorem eX5_parish_68 : decode cX5_parish 68 = .ok (.aload_n 0, 1) ∧ 68 + 1 = 69 := ⟨by decide +kernel, rfl⟩
theorem eX5_parish_69 : decode cX5_parish 69 = .ok (.getfield 19, 3) ∧ 69 + 3 = 72 := ⟨by decide +kernel, rfl⟩
theorem eX5_parish_72 : decode cX5_parish 72 = .ok (.getfield 92, 3) ∧ 72 + 3 = 75 := ⟨by decide +kernel, rfl⟩
theorem eX5_parish_75 : decode cX5_parish 75 = .ok (.ireturn, 1) := by decide +kernel
theorem eX5_wedding_0 : decode cX5_wedding 0 = .ok (.aload_n 0, 1) ∧ 0 + 1 = 1 := ⟨by decide +kernel, rfl⟩
theorem eX5_wedding_1 : decode cX5_wedding 1 = .ok (.getfield 19, 3) ∧ 1 + 3 = 4 := ⟨by decide +kernel, rfl⟩
theorem eX5_wedding_4 : decode cX5_wedding 4 = .ok (.iload_n 1, 1) ∧ 4 + 1 = 5 := ⟨by decide +kernel, rfl⟩
theorem eX5_wedding_5 : decode cX5_wedding 5 = .ok (.invokevirtual 95, 3) ∧ 5 + 3 = 8 := ⟨by decide +kernel, rfl⟩
theorem eX5_wedding_8 : decode cX5_wedding 8 = .ok (.ifCond .ne 5, 3) ∧ ((8 : Nat) : Int) + 5 = ((13 : Nat) : Int) ∧ 8 + 3 = 11 := ⟨by decide +kernel, by decide, rfl⟩
theorem eX5_wedding_11 : decode cX5_wedding 11 = .ok (.iconst (-1), 1) ∧ 11 + 1 = 12 := ⟨by decide +kernel, rfl⟩
theorem eX5_wedding_12 : decode cX5_wedding 12 = .ok (.ireturn, 1) := by decide +kernel
theorem eX5_wedding_13 : decode cX5_wedding 13 = .ok (.iload_n 2, 1) ∧ 13 + 1 = 14 := ⟨by decide +kernel, rfl⟩
theorem eX5_wedding_14 : decode cX5_wedding 14 = .ok (.ifCond .lt 9, 3) ∧ ((14 : Nat) : Int) + 9 = ((23 : Nat) : Int) ∧ 14 + 3 = 17 := ⟨by decide +kernel, by decide, rfl⟩
theorem eX5_wedding_17 : decode cX5_wedding 17 = .ok (.iload_n 2, 1) ∧ 17 + 1 = 18 := ⟨by decide +kernel, rfl⟩
theorem eX5_wedding_18 : decode cX5_wedding 18 = .ok (.bipush 6, 2) ∧ 18 + 2 = 20 := ⟨by decide +kernel, rfl⟩
theorem eX5_wedding_20 : decode cX5_wedding 20 = .ok (.if_icmp .le 6, 3) ∧ ((20 : Nat) : Int) + 6 = ((26 : Nat) : Int) ∧ 20 + 3 = 23 := ⟨by decide +kernel, by decide, rfl⟩
theorem eX5_wedding_23 : decode cX5_wedding 23 = .ok (.bipush (-2), 2) ∧ 23 + 2 = 25 := ⟨by decide +kernel, rfl⟩
theorem eX5_wedding_25 : decode cX5_wedding 25 = .ok (.ireturn, 1) := by decide +kernel
theorem eX5_wedding_26 : decode cX5_wedding 26 = .ok (.iload_n 2, 1) ∧ 26 + 1 = 27 := ⟨by decide +kernel, rfl⟩
theorem eX5_wedding_27 : decode cX5_wedding 27 = .ok (.iconst 5, 1) ∧ 27 + 1 = 28 := ⟨by decide +kernel, rfl⟩
theorem eX5_wedding_28 : decode cX5_wedding 28 = .ok (.if_icmp .ge 13, 3) ∧ ((28 : Nat) : Int) + 13 = ((41 : Nat) : Int) ∧ 28 + 3 = 31 := ⟨by decide +kernel, by decide, rfl⟩
theorem eX5_wedding_31 : decode cX5_wedding 31 = .ok (.aload_n 0, 1) ∧ 31 + 1 = 32 := ⟨by decide +kernel, rfl⟩
theorem eX5_wedding_32 : decode cX5_wedding 32 = .ok (.getfield 19, 3) ∧ 32 + 3 = 35 := ⟨by decide +kernel, rfl⟩
theorem eX5_wedding_35 : decode cX5_wedding 35 = .ok (.iload_n 1, 1) ∧ 35 + 1 = 36 := ⟨by decide +kernel, rfl⟩
theorem eX5_wedding_36 : decode cX5_wedding 36 = .ok (.iload_n 2, 1) ∧ 36 + 1 = 37 := ⟨by decide +kernel, rfl⟩
theorem eX5_wedding_37 : decode cX5_wedding 37 = .ok (.invokevirtual 98, 3) ∧ 37 + 3 = 40 := ⟨by decide +kernel, rfl⟩
theorem eX5_wedding_40 : decode cX5_wedding 40 = .ok (.ireturn, 1) := by decide +kernel
theorem eX5_wedding_41 : decode cX5_wedding 41 = .ok (.iload_n 2, 1) ∧ 41 + 1 = 42 := ⟨by decide +kernel, rfl⟩
theorem eX5_wedding_42 : decode cX5_wedding 42 = .ok (.iconst 5, 1) ∧ 42 + 1 = 43 := ⟨by decide +kernel, rfl⟩
theorem eX5_wedding_43 : decode cX5_wedding 43 = .ok (.if_icmp .ne 20, 3) ∧ ((43 : Nat) : Int) + 20 = ((63 : Nat) : Int) ∧ 43 + 3 = 46 := ⟨by decide +kernel, by decide, rfl⟩
theorem eX5_wedding_46 : decode cX5_wedding 46 = .ok (.aload_n 0, 1) ∧ 46 + 1 = 47 := ⟨by decide +kernel, rfl⟩
theorem eX5_wedding_47 : decode cX5_wedding 47 = .ok (.getfield 26, 3) ∧ 47 + 3 = 50 := ⟨by decide +kernel, rfl⟩
theorem eX5_wedding_50 : decode cX5_wedding 50 = .ok (.iload_n 1, 1) ∧ 50 + 1 = 51 := ⟨by decide +kernel, rfl⟩
theorem eX5_wedding_51 : decode cX5_wedding 51 = .ok (.invokevirtual 102, 3) ∧ 51 + 3 = 54 := ⟨by decide +kernel, rfl⟩
theorem eX5_wedding_54 : decode cX5_wedding 54 = .ok (.ifCond .eq 7, 3) ∧ ((54 : Nat) : Int) + 7 = ((61 : Nat) : Int) ∧ 54 + 3 = 57 := ⟨by decide +kernel, by decide, rfl⟩
theorem eX5_wedding_57 : decode cX5_wedding 57 = .ok (.iconst 1, 1) ∧ 57 + 1 = 58 := ⟨by decide +kernel, rfl⟩
theorem eX5_wedding_58 : decode cX5_wedding 58 = .ok (.goto 4, 3) ∧ ((58 : Nat) : Int) + 4 = ((62 : Nat) : Int) := ⟨by decide +kernel, by decide⟩
theorem eX5_wedding_61 : decode cX5_wedding 61 = .ok (.iconst 0, 1) ∧ 61 + 1 = 62 := ⟨by decide +kernel, rfl⟩
theorem eX5_wedding_62 : decode cX5_wedding 62 = .ok (.ireturn, 1) := by decide +kernel
theorem eX5_wedding_63 : decode cX5_wedding 63 = .ok (.aload_n 0, 1) ∧ 63 + 1 = 64 := ⟨by decide +kernel, rfl⟩
theorem eX5_wedding_64 : decode cX5_wedding 64 = .ok (.getfield 19, 3) ∧ 64 + 3 = 67 := ⟨by decide +kernel, rfl⟩
theorem eX5_wedding_67 : decode cX5_wedding 67 = .ok (.aload_n 0, 1) ∧ 67 + 1 = 68 := ⟨by decide +kernel, rfl⟩
theorem eX5_wedding_68 : decode cX5_wedding 68 = .ok (.getfield 26, 3) ∧ 68 + 3 = 71 := ⟨by decide +kernel, rfl⟩
theorem eX5_wedding_71 : decode cX5_wedding 71 = .ok (.iload_n 1, 1) ∧ 71 + 1 = 72 := ⟨by decide +kernel, rfl⟩
theorem eX5_wedding_72 : decode cX5_wedding 72 = .ok (.invokevirtual 105, 3) ∧ 72 + 3 = 75 := ⟨by decide +kernel, rfl⟩
theorem eX5_wedding_75 : decode cX5_wedding 75 = .ok (.ireturn, 1) := by decide +kernel
theorem eX5_road_0 : decode cX5_road 0 = .ok (.iload_n 1, 1) ∧ 0 + 1 = 1 := ⟨by decide +kernel, rfl⟩
theorem eX5_road_1 : decode cX5_road 1 = .ok (.invokestatic 109, 3) ∧ 1 + 3 = 4 := ⟨by decide +kernel, rfl⟩
theorem eX5_road_4 : decode cX5_road 4 = .ok (.ifCond .eq 17, 3) ∧ ((4 : Nat) : Int) + 17 = ((21 : Nat) : Int) ∧ 4 + 3 = 7 := ⟨by decide +kernel, by decide, rfl⟩
theorem eX5_road_7 : decode cX5_road 7 = .ok (.aload_n 0, 1) ∧ 7 + 1 = 8 := ⟨by decide +kernel, rfl⟩
theorem eX5_road_8 : decode cX5_road 8 = .ok (.getfield 26, 3) ∧ 8 + 3 = 11 := ⟨by decide +kernel, rfl⟩
theorem eX5_road_11 : decode cX5_road 11 = .ok (.getfield 112, 3) ∧ 11 + 3 = 14 := ⟨by decide +kernel, rfl⟩
theorem eX5_road_14 : decode cX5_road 14 = .ok (.iload_n 1, 1) ∧ 14 + 1 = 15 := ⟨by decide +kernel, rfl⟩
theorem eX5_road_15 : decode cX5_road 15 = .ok (.invokestatic 115, 3) ∧ 15 + 3 = 18 := ⟨by decide +kernel, rfl⟩
theorem eX5_road_18 : decode cX5_road 18 = .ok (.goto 4, 3) ∧ ((18 : Nat) : Int) + 4 = ((22 : Nat) : Int) := ⟨by decide +kernel, by decide⟩
theorem eX5_road_21 : decode cX5_road 21 = .ok (.iconst (-1), 1) ∧ 21 + 1 = 22 := ⟨by decide +kernel, rfl⟩
theorem eX5_road_22 : decode cX5_road 22 = .ok (.ireturn, 1) := by decide +kernel
theorem eX5_way_0 : decode cX5_way 0 = .ok (.iload_n 1, 1) ∧ 0 + 1 = 1 := ⟨by decide +kernel, rfl⟩
theorem eX5_way_1 : decode cX5_way 1 = .ok (.invokestatic 119, 3) ∧ 1 + 3 = 4 := ⟨by decide +kernel, rfl⟩
theorem eX5_way_4 : decode cX5_way 4 = .ok (.ifCond .eq 10, 3) ∧ ((4 : Nat) : Int) + 10 = ((14 : Nat) : Int) ∧ 4 + 3 = 7 := ⟨by decide +kernel, by decide, rfl⟩
theorem eX5_way_7 : decode cX5_way 7 = .ok (.iload_n 2, 1) ∧ 7 + 1 = 8 := ⟨by decide +kernel, rfl⟩
theorem eX5_way_8 : decode cX5_way 8 = .ok (.invokestatic 119, 3) ∧ 8 + 3 = 11 := ⟨by decide +kernel, rfl⟩
theorem eX5_way_11 : decode cX5_way 11 = .ok (.ifCond .ne 5, 3) ∧ ((11 : Nat) : Int) + 5 = ((16 : Nat) : Int) ∧ 11 + 3 = 14 := ⟨by decide +kernel, by decide, rfl⟩
theorem eX5_way_14 : decode cX5_way 14 = .ok (.iconst (-1), 1) ∧ 14 + 1 = 15 := ⟨by decide +kernel, rfl⟩
theorem eX5_way_15 : decode cX5_way 15 = .ok (.ireturn, 1) := by decide +kernel
theorem eX5_way_16 : decode cX5_way 16 = .ok (.aload_n 0, 1) ∧ 16 + 1 = 17 := ⟨by decide +kernel, rfl⟩
theorem eX5_way_17 : decode cX5_way 17 = .ok (.getfield 26, 3) ∧ 17 + 3 = 20 := ⟨by decide +kernel, rfl⟩
theorem eX5_way_20 : decode cX5_way 20 = .ok (.iload_n 1, 1) ∧ 20 + 1 = 21 := ⟨by decide +kernel, rfl⟩
theorem eX5_way_21 : decode cX5_way 21 = .ok (.iload_n 2, 1) ∧ 21 + 1 = 22 := ⟨by decide +kernel, rfl⟩
theorem eX5_way_22 : decode cX5_way 22 = .ok (.invokevirtual 122, 3) ∧ 22 + 3 = 25 := ⟨by decide +kernel, rfl⟩
theorem eX5_way_25 : decode cX5_way 25 = .ok (.ireturn, 1) := by decide +kernel
theorem eX5_wed_0 : decode cX5_wed 0 = .ok (.aload_n 0, 1) ∧ 0 + 1 = 1 := ⟨by decide +kernel, rfl⟩
theorem eX5_wed_1 : decode cX5_wed 1 = .ok (.getfield 19, 3) ∧ 1 + 3 = 4 := ⟨by decide +kernel, rfl⟩
theorem eX5_wed_4 : decode cX5_wed 4 = .ok (.iload_n 1, 1) ∧ 4 + 1 = 5 := ⟨by decide +kernel, rfl⟩
theorem eX5_wed_5 : decode cX5_wed 5 = .ok (.invokevirtual 95, 3) ∧ 5 + 3 = 8 := ⟨by decide +kernel, rfl⟩
theorem eX5_wed_8 : decode cX5_wed 8 = .ok (.ifCond .ne 5, 3) ∧ ((8 : Nat) : Int) + 5 = ((13 : Nat) : Int) ∧ 8 + 3 = 11 := ⟨by decide +kernel, by decide, rfl⟩
theorem eX5_wed_11 : decode cX5_wed 11 = .ok (.iconst (-1), 1) ∧ 11 + 1 = 12 := ⟨by decide +kernel, rfl⟩
theorem eX5_wed_12 : decode cX5_wed 12 = .ok (.ireturn, 1) := by decide +kernel
theorem eX5_wed_13 : decode cX5_wed 13 = .ok (.aload_n 0, 1) ∧ 13 + 1 = 14 := ⟨by decide +kernel, rfl⟩
theorem eX5_wed_14 : decode cX5_wed 14 = .ok (.getfield 19, 3) ∧ 14 + 3 = 17 := ⟨by decide +kernel, rfl⟩
theorem eX5_wed_17 : decode cX5_wed 17 = .ok (.aload_n 0, 1) ∧ 17 + 1 = 18 := ⟨by decide +kernel, rfl⟩
theorem eX5_wed_18 : decode cX5_wed 18 = .ok (.getfield 26, 3) ∧ 18 + 3 = 21 := ⟨by decide +kernel, rfl⟩
theorem eX5_wed_21 : decode cX5_wed 21 = .ok (.iload_n 1, 1) ∧ 21 + 1 = 22 := ⟨by decide +kernel, rfl⟩
theorem eX5_wed_22 : decode cX5_wed 22 = .ok (.invokevirtual 105, 3) ∧ 22 + 3 = 25 := ⟨by decide +kernel, rfl⟩
theorem eX5_wed_25 : decode cX5_wed 25 = .ok (.bipush (-9), 2) ∧ 25 + 2 = 27 := ⟨by decide +kernel, rfl⟩
theorem eX5_wed_27 : decode cX5_wed 27 = .ok (.if_icmp .ne 6, 3) ∧ ((27 : Nat) : Int) + 6 = ((33 : Nat) : Int) ∧ 27 + 3 = 30 := ⟨by decide +kernel, by decide, rfl⟩
theorem eX5_wed_30 : decode cX5_wed 30 = .ok (.bipush (-3), 2) ∧ 30 + 2 = 32 := ⟨by decide +kernel, rfl⟩
theorem eX5_wed_32 : decode cX5_wed 32 = .ok (.ireturn, 1) := by decide +kernel
theorem eX5_wed_33 : decode cX5_wed 33 = .ok (.aload_n 0, 1) ∧ 33 + 1 = 34 := ⟨by decide +kernel, rfl⟩
theorem eX5_wed_34 : decode cX5_wed 34 = .ok (.getfield 36, 3) ∧ 34 + 3 = 37 := ⟨by decide +kernel, rfl⟩
theorem eX5_wed_37 : decode cX5_wed 37 = .ok (.aload_n 0, 1) ∧ 37 + 1 = 38 := ⟨by decide +kernel, rfl⟩
theorem eX5_wed_38 : decode cX5_wed 38 = .ok (.getfield 26, 3) ∧ 38 + 3 = 41 := ⟨by decide +kernel, rfl⟩
theorem eX5_wed_41 : decode cX5_wed 41 = .ok (.invokevirtual 125, 3) ∧ 41 + 3 = 44 := ⟨by decide +kernel, rfl⟩
theorem eX5_wed_44 : decode cX5_wed 44 = .ok (.aload_n 0, 1) ∧ 44 + 1 = 45 := ⟨by decide +kernel, rfl⟩
theorem eX5_wed_45 : decode cX5_wed 45 = .ok (.getfield 19, 3) ∧ 45 + 3 = 48 := ⟨by decide +kernel, rfl⟩
theorem eX5_wed_48 : decode cX5_wed 48 = .ok (.aload_n 0, 1) ∧ 48 + 1 = 49 := ⟨by decide +kernel, rfl⟩
theorem eX5_wed_49 : decode cX5_wed 49 = .ok (.getfield 26, 3) ∧ 49 + 3 = 52 := ⟨by decide +kernel, rfl⟩
theorem eX5_wed_52 : decode cX5_wed 52 = .ok (.iload_n 1, 1) ∧ 52 + 1 = 53 := ⟨by decide +kernel, rfl⟩
theorem eX5_wed_53 : decode cX5_wed 53 = .ok (.invokevirtual 129, 3) ∧ 53 + 3 = 56 := ⟨by decide +kernel, rfl⟩
theorem eX5_wed_56 : decode cX5_wed 56 = .ok (.pop, 1) ∧ 56 + 1 = 57 := ⟨by decide +kernel, rfl⟩
theorem eX5_wed_57 : decode cX5_wed 57 = .ok (.aload_n 0, 1) ∧ 57 + 1 = 58 := ⟨by decide +kernel, rfl⟩
theorem eX5_wed_58 : decode cX5_wed 58 = .ok (.getfield 26, 3) ∧ 58 + 3 = 61 := ⟨by decide +kernel, rfl⟩
theorem eX5_wed_61 : decode cX5_wed 61 = .ok (.getfield 133, 3) ∧ 61 + 3 = 64 := ⟨by decide +kernel, rfl⟩
theorem eX5_wed_64 : decode cX5_wed 64 = .ok (.ireturn, 1) := by decide +kernel
theorem eX5_carry_0 : decode cX5_carry 0 = .ok (.iload_n 1, 1) ∧ 0 + 1 = 1 := ⟨by decide +kernel, rfl⟩
theorem eX5_carry_1 : decode cX5_carry 1 = .ok (.invokestatic 119, 3) ∧ 1 + 3 = 4 := ⟨by decide +kernel, rfl⟩
theorem eX5_carry_4 : decode cX5_carry 4 = .ok (.ifCond .ne 5, 3) ∧ ((4 : Nat) : Int) + 5 = ((9 : Nat) : Int) ∧ 4 + 3 = 7 := ⟨by decide +kernel, by decide, rfl⟩
theorem eX5_carry_7 : decode cX5_carry 7 = .ok (.iconst (-1), 1) ∧ 7 + 1 = 8 := ⟨by decide +kernel, rfl⟩
theorem eX5_carry_8 : decode cX5_carry 8 = .ok (.ireturn, 1) := by decide +kernel
theorem eX5_carry_9 : decode cX5_carry 9 = .ok (.iload_n 1, 1) ∧ 9 + 1 = 10 := ⟨by decide +kernel, rfl⟩
theorem eX5_carry_10 : decode cX5_carry 10 = .ok (.aload_n 0, 1) ∧ 10 + 1 = 11 := ⟨by decide +kernel, rfl⟩
theorem eX5_carry_11 : decode cX5_carry 11 = .ok (.getfield 26, 3) ∧ 11 + 3 = 14 := ⟨by decide +kernel, rfl⟩
theorem eX5_carry_14 : decode cX5_carry 14 = .ok (.getfield 136, 3) ∧ 14 + 3 = 17 := ⟨by decide +kernel, rfl⟩
theorem eX5_carry_17 : decode cX5_carry 17 = .ok (.if_icmp .ne 6, 3) ∧ ((17 : Nat) : Int) + 6 = ((23 : Nat) : Int) ∧ 17 + 3 = 20 := ⟨by decide +kernel, by decide, rfl⟩
theorem eX5_carry_20 : decode cX5_carry 20 = .ok (.bipush (-3), 2) ∧ 20 + 2 = 22 := ⟨by decide +kernel, rfl⟩
theorem eX5_carry_22 : decode cX5_carry 22 = .ok (.ireturn, 1) := by decide +kernel
theorem eX5_carry_23 : decode cX5_carry 23 = .ok (.aload_n 0, 1) ∧ 23 + 1 = 24 := ⟨by decide +kernel, rfl⟩
theorem eX5_carry_24 : decode cX5_carry 24 = .ok (.getfield 36, 3) ∧ 24 + 3 = 27 := ⟨by decide +kernel, rfl⟩
theorem eX5_carry_27 : decode cX5_carry 27 = .ok (.aload_n 0, 1) ∧ 27 + 1 = 28 := ⟨by decide +kernel, rfl⟩
theorem eX5_carry_28 : decode cX5_carry 28 = .ok (.getfield 26, 3) ∧ 28 + 3 = 31 := ⟨by decide +kernel, rfl⟩
theorem eX5_carry_31 : decode cX5_carry 31 = .ok (.invokevirtual 125, 3) ∧ 31 + 3 = 34 := ⟨by decide +kernel, rfl⟩
theorem eX5_carry_34 : decode cX5_carry 34 = .ok (.aload_n 0, 1) ∧ 34 + 1 = 35 := ⟨by decide +kernel, rfl⟩
theorem eX5_carry_35 : decode cX5_carry 35 = .ok (.getfield 26, 3) ∧ 35 + 3 = 38 := ⟨by decide +kernel, rfl⟩
theorem eX5_carry_38 : decode cX5_carry 38 = .ok (.dup, 1) ∧ 38 + 1 = 39 := ⟨by decide +kernel, rfl⟩
theorem eX5_carry_39 : decode cX5_carry 39 = .ok (.getfield 133, 3) ∧ 39 + 3 = 42 := ⟨by decide +kernel, rfl⟩
theorem eX5_carry_42 : decode cX5_carry 42 = .ok (.aload_n 0, 1) ∧ 42 + 1 = 43 := ⟨by decide +kernel, rfl⟩
theorem eX5_carry_43 : decode cX5_carry 43 = .ok (.getfield 26, 3) ∧ 43 + 3 = 46 := ⟨by decide +kernel, rfl⟩
theorem eX5_carry_46 : decode cX5_carry 46 = .ok (.aload_n 0, 1) ∧ 46 + 1 = 47 := ⟨by decide +kernel, rfl⟩
theorem eX5_carry_47 : decode cX5_carry 47 = .ok (.getfield 26, 3) ∧ 47 + 3 = 50 := ⟨by decide +kernel, rfl⟩
theorem eX5_carry_50 : decode cX5_carry 50 = .ok (.getfield 136, 3) ∧ 50 + 3 = 53 := ⟨by decide +kernel, rfl⟩
theorem eX5_carry_53 : decode cX5_carry 53 = .ok (.iload_n 1, 1) ∧ 53 + 1 = 54 := ⟨by decide +kernel, rfl⟩
theorem eX5_carry_54 : decode cX5_carry 54 = .ok (.invokevirtual 122, 3) ∧ 54 + 3 = 57 := ⟨by decide +kernel, rfl⟩
theorem eX5_carry_57 : decode cX5_carry 57 = .ok (.iadd, 1) ∧ 57 + 1 = 58 := ⟨by decide +kernel, rfl⟩
theorem eX5_carry_58 : decode cX5_carry 58 = .ok (.putfield 133, 3) ∧ 58 + 3 = 61 := ⟨by decide +kernel, rfl⟩
theorem eX5_carry_61 : decode cX5_carry 61 = .ok (.aload_n 0, 1) ∧ 61 + 1 = 62 := ⟨by decide +kernel, rfl⟩
theorem eX5_carry_62 : decode cX5_carry 62 = .ok (.getfield 26, 3) ∧ 62 + 3 = 65 := ⟨by decide +kernel, rfl⟩
theorem eX5_carry_65 : decode cX5_carry 65 = .ok (.iload_n 1, 1) ∧ 65 + 1 = 66 := ⟨by decide +kernel, rfl⟩
theorem eX5_carry_66 : decode cX5_carry 66 = .ok (.putfield 136, 3) ∧ 66 + 3 = 69 := ⟨by decide +kernel, rfl⟩
theorem eX5_carry_69 : decode cX5_carry 69 = .ok (.aload_n 0, 1) ∧ 69 + 1 = 70 := ⟨by decide +kernel, rfl⟩
theorem eX5_carry_70 : decode cX5_carry 70 = .ok (.getfield 26, 3) ∧ 70 + 3 = 73 := ⟨by decide +kernel, rfl⟩
theorem eX5_carry_73 : decode cX5_carry 73 = .ok (.getfield 133, 3) ∧ 73 + 3 = 76 := ⟨by decide +kernel, rfl⟩
theorem eX5_carry_76 : decode cX5_carry 76 = .ok (.ireturn, 1) := by decide +kernel
theorem eX5_linger_0 : decode cX5_linger 0 = .ok (.aload_n 0, 1) ∧ 0 + 1 = 1 := ⟨by decide +kernel, rfl⟩
theorem eX5_linger_1 : decode cX5_linger 1 = .ok (.getfield 36, 3) ∧ 1 + 3 = 4 := ⟨by decide +kernel, rfl⟩
theorem eX5_linger_4 : decode cX5_linger 4 = .ok (.aload_n 0, 1) ∧ 4 + 1 = 5 := ⟨by decide +kernel, rfl⟩
theorem eX5_linger_5 : decode cX5_linger 5 = .ok (.getfield 26, 3) ∧ 5 + 3 = 8 := ⟨by decide +kernel, rfl⟩
theorem eX5_linger_8 : decode cX5_linger 8 = .ok (.invokevirtual 125, 3) ∧ 8 + 3 = 11 := ⟨by decide +kernel, rfl⟩
theorem eX5_linger_11 : decode cX5_linger 11 = .ok (.aload_n 0, 1) ∧ 11 + 1 = 12 := ⟨by decide +kernel, rfl⟩
theorem eX5_linger_12 : decode cX5_linger 12 = .ok (.getfield 26, 3) ∧ 12 + 3 = 15 := ⟨by decide +kernel, rfl⟩
theorem eX5_linger_15 : decode cX5_linger 15 = .ok (.dup, 1) ∧ 15 + 1 = 16 := ⟨by decide +kernel, rfl⟩
theorem eX5_linger_16 : decode cX5_linger 16 = .ok (.getfield 133, 3) ∧ 16 + 3 = 19 := ⟨by decide +kernel, rfl⟩
theorem eX5_linger_19 : decode cX5_linger 19 = .ok (.iconst 1, 1) ∧ 19 + 1 = 20 := ⟨by decide +kernel, rfl⟩
theorem eX5_linger_20 : decode cX5_linger 20 = .ok (.iadd, 1) ∧ 20 + 1 = 21 := ⟨by decide +kernel, rfl⟩
theorem eX5_linger_21 : decode cX5_linger 21 = .ok (.putfield 133, 3) ∧ 21 + 3 = 24 := ⟨by decide +kernel, rfl⟩
theorem eX5_linger_24 : decode cX5_linger 24 = .ok (.aload_n 0, 1) ∧ 24 + 1 = 25 := ⟨by decide +kernel, rfl⟩
theorem eX5_linger_25 : decode cX5_linger 25 = .ok (.getfield 26, 3) ∧ 25 + 3 = 28 := ⟨by decide +kernel, rfl⟩
theorem eX5_linger_28 : decode cX5_linger 28 = .ok (.getfield 133, 3) ∧ 28 + 3 = 31 := ⟨by decide +kernel, rfl⟩
theorem eX5_linger_31 : decode cX5_linger 31 = .ok (.ireturn, 1) := by decide +kernel
theorem eX5_mend_0 : decode cX5_mend 0 = .ok (.iload_n 1, 1) ∧ 0 + 1 = 1 := ⟨by decide +kernel, rfl⟩
theorem eX5_mend_1 : decode cX5_mend 1 = .ok (.invokestatic 109, 3) ∧ 1 + 3 = 4 := ⟨by decide +kernel, rfl⟩
theorem eX5_mend_4 : decode cX5_mend 4 = .ok (.ifCond .ne 5, 3) ∧ ((4 : Nat) : Int) + 5 = ((9 : Nat) : Int) ∧ 4 + 3 = 7 := ⟨by decide +kernel, by decide, rfl⟩
theorem eX5_mend_7 : decode cX5_mend 7 = .ok (.iconst (-1), 1) ∧ 7 + 1 = 8 := ⟨by decide +kernel, rfl⟩
theorem eX5_mend_8 : decode cX5_mend 8 = .ok (.ireturn, 1) := by decide +kernel
theorem eX5_mend_9 : decode cX5_mend 9 = .ok (.aload_n 0, 1) ∧ 9 + 1 = 10 := ⟨by decide +kernel, rfl⟩
theorem eX5_mend_10 : decode cX5_mend 10 = .ok (.getfield 26, 3) ∧ 10 + 3 = 13 := ⟨by decide +kernel, rfl⟩
theorem eX5_mend_13 : decode cX5_mend 13 = .ok (.getfield 112, 3) ∧ 13 + 3 = 16 := ⟨by decide +kernel, rfl⟩
theorem eX5_mend_16 : decode cX5_mend 16 = .ok (.iload_n 1, 1) ∧ 16 + 1 = 17 := ⟨by decide +kernel, rfl⟩
theorem eX5_mend_17 : decode cX5_mend 17 = .ok (.invokestatic 115, 3) ∧ 17 + 3 = 20 := ⟨by decide +kernel, rfl⟩
theorem eX5_mend_20 : decode cX5_mend 20 = .ok (.ifCond .gt 6, 3) ∧ ((20 : Nat) : Int) + 6 = ((26 : Nat) : Int) ∧ 20 + 3 = 23 := ⟨by decide +kernel, by decide, rfl⟩
theorem eX5_mend_23 : decode cX5_mend 23 = .ok (.bipush (-3), 2) ∧ 23 + 2 = 25 := ⟨by decide +kernel, rfl⟩
theorem eX5_mend_25 : decode cX5_mend 25 = .ok (.ireturn, 1) := by decide +kernel
theorem eX5_mend_26 : decode cX5_mend 26 = .ok (.aload_n 0, 1) ∧ 26 + 1 = 27 := ⟨by decide +kernel, rfl⟩
theorem eX5_mend_27 : decode cX5_mend 27 = .ok (.getfield 36, 3) ∧ 27 + 3 = 30 := ⟨by decide +kernel, rfl⟩
theorem eX5_mend_30 : decode cX5_mend 30 = .ok (.aload_n 0, 1) ∧ 30 + 1 = 31 := ⟨by decide +kernel, rfl⟩
theorem eX5_mend_31 : decode cX5_mend 31 = .ok (.getfield 26, 3) ∧ 31 + 3 = 34 := ⟨by decide +kernel, rfl⟩
theorem eX5_mend_34 : decode cX5_mend 34 = .ok (.invokevirtual 125, 3) ∧ 34 + 3 = 37 := ⟨by decide +kernel, rfl⟩
theorem eX5_mend_37 : decode cX5_mend 37 = .ok (.aload_n 0, 1) ∧ 37 + 1 = 38 := ⟨by decide +kernel, rfl⟩
theorem eX5_mend_38 : decode cX5_mend 38 = .ok (.getfield 26, 3) ∧ 38 + 3 = 41 := ⟨by decide +kernel, rfl⟩
theorem eX5_mend_41 : decode cX5_mend 41 = .ok (.iload_n 1, 1) ∧ 41 + 1 = 42 := ⟨by decide +kernel, rfl⟩
theorem eX5_mend_42 : decode cX5_mend 42 = .ok (.invokevirtual 139, 3) ∧ 42 + 3 = 45 := ⟨by decide +kernel, rfl⟩
theorem eX5_mend_45 : decode cX5_mend 45 = .ok (.aload_n 0, 1) ∧ 45 + 1 = 46 := ⟨by decide +kernel, rfl⟩
theorem eX5_mend_46 : decode cX5_mend 46 = .ok (.getfield 26, 3) ∧ 46 + 3 = 49 := ⟨by decide +kernel, rfl⟩
theorem eX5_mend_49 : decode cX5_mend 49 = .ok (.getfield 112, 3) ∧ 49 + 3 = 52 := ⟨by decide +kernel, rfl⟩
theorem eX5_mend_52 : decode cX5_mend 52 = .ok (.iload_n 1, 1) ∧ 52 + 1 = 53 := ⟨by decide +kernel, rfl⟩
theorem eX5_mend_53 : decode cX5_mend 53 = .ok (.invokestatic 115, 3) ∧ 53 + 3 = 56 := ⟨by decide +kernel, rfl⟩
theorem eX5_mend_56 : decode cX5_mend 56 = .ok (.ireturn, 1) := by decide +kernel
theorem eX5_undo_0 : decode cX5_undo 0 = .ok (.aload_n 0, 1) ∧ 0 + 1 = 1 := ⟨by decide +kernel, rfl⟩
theorem eX5_undo_1 : decode cX5_undo 1 = .ok (.getfield 36, 3) ∧ 1 + 3 = 4 := ⟨by decide +kernel, rfl⟩
theorem eX5_undo_4 : decode cX5_undo 4 = .ok (.aload_n 0, 1) ∧ 4 + 1 = 5 := ⟨by decide +kernel, rfl⟩
theorem eX5_undo_5 : decode cX5_undo 5 = .ok (.getfield 26, 3) ∧ 5 + 3 = 8 := ⟨by decide +kernel, rfl⟩
theorem eX5_undo_8 : decode cX5_undo 8 = .ok (.invokevirtual 143, 3) ∧ 8 + 3 = 11 := ⟨by decide +kernel, rfl⟩
theorem eX5_undo_11 : decode cX5_undo 11 = .ok (.ifCond .eq 13, 3) ∧ ((11 : Nat) : Int) + 13 = ((24 : Nat) : Int) ∧ 11 + 3 = 14 := ⟨by decide +kernel, by decide, rfl⟩
theorem eX5_undo_14 : decode cX5_undo 14 = .ok (.aload_n 0, 1) ∧ 14 + 1 = 15 := ⟨by decide +kernel, rfl⟩
theorem eX5_undo_15 : decode cX5_undo 15 = .ok (.getfield 36, 3) ∧ 15 + 3 = 18 := ⟨by decide +kernel, rfl⟩
theorem eX5_undo_18 : decode cX5_undo 18 = .ok (.getfield 147, 3) ∧ 18 + 3 = 21 := ⟨by decide +kernel, rfl⟩
theorem eX5_undo_21 : decode cX5_undo 21 = .ok (.goto 5, 3) ∧ ((21 : Nat) : Int) + 5 = ((26 : Nat) : Int) := ⟨by decide +kernel, by decide⟩
theorem eX5_undo_24 : decode cX5_undo 24 = .ok (.bipush (-3), 2) ∧ 24 + 2 = 26 := ⟨by decide +kernel, rfl⟩
theorem eX5_undo_26 : decode cX5_undo 26 = .ok (.ireturn, 1) := by decide +kernel
theorem eX5_most_0 : decode cX5_most 0 = .ok (.iload_n 1, 1) ∧ 0 + 1 = 1 := ⟨by decide +kernel, rfl⟩
theorem eX5_most_1 : decode cX5_most 1 = .ok (.ifCond .lt 8, 3) ∧ ((1 : Nat) : Int) + 8 = ((9 : Nat) : Int) ∧ 1 + 3 = 4 := ⟨by decide +kernel, by decide, rfl⟩
theorem eX5_most_4 : decode cX5_most 4 = .ok (.iload_n 1, 1) ∧ 4 + 1 = 5 := ⟨by decide +kernel, rfl⟩
theorem eX5_most_5 : decode cX5_most 5 = .ok (.iconst 2, 1) ∧ 5 + 1 = 6 := ⟨by decide +kernel, rfl⟩
theorem eX5_most_6 : decode cX5_most 6 = .ok (.if_icmp .le 6, 3) ∧ ((6 : Nat) : Int) + 6 = ((12 : Nat) : Int) ∧ 6 + 3 = 9 := ⟨by decide +kernel, by decide, rfl⟩
theorem eX5_most_9 : decode cX5_most 9 = .ok (.bipush (-2), 2) ∧ 9 + 2 = 11 := ⟨by decide +kernel, rfl⟩
theorem eX5_most_11 : decode cX5_most 11 = .ok (.ireturn, 1) := by decide +kernel
theorem eX5_most_12 : decode cX5_most 12 = .ok (.aload_n 0, 1) ∧ 12 + 1 = 13 := ⟨by decide +kernel, rfl⟩
theorem eX5_most_13 : decode cX5_most 13 = .ok (.getfield 43, 3) ∧ 13 + 3 = 16 := ⟨by decide +kernel, rfl⟩
theorem eX5_most_16 : decode cX5_most 16 = .ok (.aload_n 0, 1) ∧ 16 + 1 = 17 := ⟨by decide +kernel, rfl⟩
theorem eX5_most_17 : decode cX5_most 17 = .ok (.getfield 19, 3) ∧ 17 + 3 = 20 := ⟨by decide +kernel, rfl⟩
theorem eX5_most_20 : decode cX5_most 20 = .ok (.aload_n 0, 1) ∧ 20 + 1 = 21 := ⟨by decide +kernel, rfl⟩
theorem eX5_most_21 : decode cX5_most 21 = .ok (.getfield 26, 3) ∧ 21 + 3 = 24 := ⟨by decide +kernel, rfl⟩
theorem eX5_most_24 : decode cX5_most 24 = .ok (.invokevirtual 148, 3) ∧ 24 + 3 = 27 := ⟨by decide +kernel, rfl⟩
theorem eX5_most_27 : decode cX5_most 27 = .ok (.iload_n 1, 1) ∧ 27 + 1 = 28 := ⟨by decide +kernel, rfl⟩
theorem eX5_most_28 : decode cX5_most 28 = .ok (.ifCond .ne 11, 3) ∧ ((28 : Nat) : Int) + 11 = ((39 : Nat) : Int) ∧ 28 + 3 = 31 := ⟨by decide +kernel, by decide, rfl⟩
theorem eX5_most_31 : decode cX5_most 31 = .ok (.aload_n 0, 1) ∧ 31 + 1 = 32 := ⟨by decide +kernel, rfl⟩
theorem eX5_most_32 : decode cX5_most 32 = .ok (.getfield 43, 3) ∧ 32 + 3 = 35 := ⟨by decide +kernel, rfl⟩
theorem eX5_most_35 : decode cX5_most 35 = .ok (.getfield 152, 3) ∧ 35 + 3 = 38 := ⟨by decide +kernel, rfl⟩
theorem eX5_most_38 : decode cX5_most 38 = .ok (.ireturn, 1) := by decide +kernel
theorem eX5_most_39 : decode cX5_most 39 = .ok (.iload_n 1, 1) ∧ 39 + 1 = 40 := ⟨by decide +kernel, rfl⟩
theorem eX5_most_40 : decode cX5_most 40 = .ok (.iconst 1, 1) ∧ 40 + 1 = 41 := ⟨by decide +kernel, rfl⟩
theorem eX5_most_41 : decode cX5_most 41 = .ok (.if_icmp .ne 13, 3) ∧ ((41 : Nat) : Int) + 13 = ((54 : Nat) : Int) ∧ 41 + 3 = 44 := ⟨by decide +kernel, by decide, rfl⟩
theorem eX5_most_44 : decode cX5_most 44 = .ok (.aload_n 0, 1) ∧ 44 + 1 = 45 := ⟨by decide +kernel, rfl⟩
theorem eX5_most_45 : decode cX5_most 45 = .ok (.getfield 43, 3) ∧ 45 + 3 = 48 := ⟨by decide +kernel, rfl⟩
theorem eX5_most_48 : decode cX5_most 48 = .ok (.getfield 155, 3) ∧ 48 + 3 = 51 := ⟨by decide +kernel, rfl⟩
theorem eX5_most_51 : decode cX5_most 51 = .ok (.goto 10, 3) ∧ ((51 : Nat) : Int) + 10 = ((61 : Nat) : Int) := ⟨by decide +kernel, by decide⟩
theorem eX5_most_54 : decode cX5_most 54 = .ok (.aload_n 0, 1) ∧ 54 + 1 = 55 := ⟨by decide +kernel, rfl⟩
theorem eX5_most_55 : decode cX5_most 55 = .ok (.getfield 43, 3) ∧ 55 + 3 = 58 := ⟨by decide +kernel, rfl⟩
theorem eX5_most_58 : decode cX5_most 58 = .ok (.getfield 158, 3) ∧ 58 + 3 = 61 := ⟨by decide +kernel, rfl⟩
theorem eX5_most_61 : decode cX5_most 61 = .ok (.ireturn, 1) := by decide +kernel
theorem eX5_slack_0 : decode cX5_slack 0 = .ok (.aload_n 0, 1) ∧ 0 + 1 = 1 := ⟨by decide +kernel, rfl⟩
theorem eX5_slack_1 : decode cX5_slack 1 = .ok (.aload_n 0, 1) ∧ 1 + 1 = 2 := ⟨by decide +kernel, rfl⟩
theorem eX5_slack_2 : decode cX5_slack 2 = .ok (.getfield 26, 3) ∧ 2 + 3 = 5 := ⟨by decide +kernel, rfl⟩
theorem eX5_slack_5 : decode cX5_slack 5 = .ok (.invokevirtual 161, 3) ∧ 5 + 3 = 8 := ⟨by decide +kernel, rfl⟩
theorem eX5_slack_8 : decode cX5_slack 8 = .ok (.istore_n 1, 1) ∧ 8 + 1 = 9 := ⟨by decide +kernel, rfl⟩
theorem eX5_slack_9 : decode cX5_slack 9 = .ok (.aload_n 0, 1) ∧ 9 + 1 = 10 := ⟨by decide +kernel, rfl⟩
theorem eX5_slack_10 : decode cX5_slack 10 = .ok (.getfield 30, 3) ∧ 10 + 3 = 13 := ⟨by decide +kernel, rfl⟩
theorem eX5_slack_13 : decode cX5_slack 13 = .ok (.aload_n 0, 1) ∧ 13 + 1 = 14 := ⟨by decide +kernel, rfl⟩
theorem eX5_slack_14 : decode cX5_slack 14 = .ok (.getfield 26, 3) ∧ 14 + 3 = 17 := ⟨by decide +kernel, rfl⟩
theorem eX5_slack_17 : decode cX5_slack 17 = .ok (.invokevirtual 165, 3) ∧ 17 + 3 = 20 := ⟨by decide +kernel, rfl⟩
theorem eX5_slack_20 : decode cX5_slack 20 = .ok (.iconst 0, 1) ∧ 20 + 1 = 21 := ⟨by decide +kernel, rfl⟩
theorem eX5_slack_21 : decode cX5_slack 21 = .ok (.istore_n 2, 1) ∧ 21 + 1 = 22 := ⟨by decide +kernel, rfl⟩
theorem eX5_slack_22 : decode cX5_slack 22 = .ok (.iload_n 2, 1) ∧ 22 + 1 = 23 := ⟨by decide +kernel, rfl⟩
theorem eX5_slack_23 : decode cX5_slack 23 = .ok (.bipush 9, 2) ∧ 23 + 2 = 25 := ⟨by decide +kernel, rfl⟩
theorem eX5_slack_25 : decode cX5_slack 25 = .ok (.if_icmp .ge 36, 3) ∧ ((25 : Nat) : Int) + 36 = ((61 : Nat) : Int) ∧ 25 + 3 = 28 := ⟨by decide +kernel, by decide, rfl⟩
theorem eX5_slack_28 : decode cX5_slack 28 = .ok (.aload_n 0, 1) ∧ 28 + 1 = 29 := ⟨by decide +kernel, rfl⟩
theorem eX5_slack_29 : decode cX5_slack 29 = .ok (.getfield 30, 3) ∧ 29 + 3 = 32 := ⟨by decide +kernel, rfl⟩
theorem eX5_slack_32 : decode cX5_slack 32 = .ok (.dup, 1) ∧ 32 + 1 = 33 := ⟨by decide +kernel, rfl⟩
theorem eX5_slack_33 : decode cX5_slack 33 = .ok (.getfield 133, 3) ∧ 33 + 3 = 36 := ⟨by decide +kernel, rfl⟩
theorem eX5_slack_36 : decode cX5_slack 36 = .ok (.iconst 1, 1) ∧ 36 + 1 = 37 := ⟨by decide +kernel, rfl⟩
theorem eX5_slack_37 : decode cX5_slack 37 = .ok (.iadd, 1) ∧ 37 + 1 = 38 := ⟨by decide +kernel, rfl⟩
theorem eX5_slack_38 : decode cX5_slack 38 = .ok (.putfield 133, 3) ∧ 38 + 3 = 41 := ⟨by decide +kernel, rfl⟩
theorem eX5_slack_41 : decode cX5_slack 41 = .ok (.aload_n 0, 1) ∧ 41 + 1 = 42 := ⟨by decide +kernel, rfl⟩
theorem eX5_slack_42 : decode cX5_slack 42 = .ok (.aload_n 0, 1) ∧ 42 + 1 = 43 := ⟨by decide +kernel, rfl⟩
theorem eX5_slack_43 : decode cX5_slack 43 = .ok (.getfield 30, 3) ∧ 43 + 3 = 46 := ⟨by decide +kernel, rfl⟩
theorem eX5_slack_46 : decode cX5_slack 46 = .ok (.invokevirtual 161, 3) ∧ 46 + 3 = 49 := ⟨by decide +kernel, rfl⟩
theorem eX5_slack_49 : decode cX5_slack 49 = .ok (.iload_n 1, 1) ∧ 49 + 1 = 50 := ⟨by decide +kernel, rfl⟩
theorem eX5_slack_50 : decode cX5_slack 50 = .ok (.if_icmp .eq 5, 3) ∧ ((50 : Nat) : Int) + 5 = ((55 : Nat) : Int) ∧ 50 + 3 = 53 := ⟨by decide +kernel, by decide, rfl⟩
theorem eX5_slack_53 : decode cX5_slack 53 = .ok (.iload_n 2, 1) ∧ 53 + 1 = 54 := ⟨by decide +kernel, rfl⟩
theorem eX5_slack_54 : decode cX5_slack 54 = .ok (.ireturn, 1) := by decide +kernel
theorem eX5_slack_55 : decode cX5_slack 55 = .ok (.iinc 2 1, 3) ∧ 55 + 3 = 58 := ⟨by decide +kernel, rfl⟩
theorem eX5_slack_58 : decode cX5_slack 58 = .ok (.goto (-36), 3) ∧ ((58 : Nat) : Int) + (-36) = ((22 : Nat) : Int) := ⟨by decide +kernel, by decide⟩
theorem eX5_slack_61 : decode cX5_slack 61 = .ok (.bipush 9, 2) ∧ 61 + 2 = 63 := ⟨by decide +kernel, rfl⟩
theorem eX5_slack_63 : decode cX5_slack 63 = .ok (.ireturn, 1) := by decide +kernel
theorem eX5_mending_0 : decode cX5_mending 0 = .ok (.bipush (-9), 2) ∧ 0 + 2 = 2 := ⟨by decide +kernel, rfl⟩
theorem eX5_mending_2 : decode cX5_mending 2 = .ok (.istore_n 2, 1) ∧ 2 + 1 = 3 := ⟨by decide +kernel, rfl⟩
theorem eX5_mending_3 : decode cX5_mending 3 = .ok (.bipush (-9), 2) ∧ 3 + 2 = 5 := ⟨by decide +kernel, rfl⟩
theorem eX5_mending_5 : decode cX5_mending 5 = .ok (.istore_n 3, 1) ∧ 5 + 1 = 6 := ⟨by decide +kernel, rfl⟩
theorem eX5_mending_6 : decode cX5_mending 6 = .ok (.iconst 0, 1) ∧ 6 + 1 = 7 := ⟨by decide +kernel, rfl⟩
theorem eX5_mending_7 : decode cX5_mending 7 = .ok (.istore 4, 2) ∧ 7 + 2 = 9 := ⟨by decide +kernel, rfl⟩
theorem eX5_mending_9 : decode cX5_mending 9 = .ok (.iload 4, 2) ∧ 9 + 2 = 11 := ⟨by decide +kernel, rfl⟩
theorem eX5_mending_11 : decode cX5_mending 11 = .ok (.iconst 5, 1) ∧ 11 + 1 = 12 := ⟨by decide +kernel, rfl⟩
theorem eX5_mending_12 : decode cX5_mending 12 = .ok (.if_icmp .ge 66, 3) ∧ ((12 : Nat) : Int) + 66 = ((78 : Nat) : Int) ∧ 12 + 3 = 15 := ⟨by decide +kernel, by decide, rfl⟩
theorem eX5_mending_15 : decode cX5_mending 15 = .ok (.aload_n 0, 1) ∧ 15 + 1 = 16 := ⟨by decide +kernel, rfl⟩
theorem eX5_mending_16 : decode cX5_mending 16 = .ok (.getfield 26, 3) ∧ 16 + 3 = 19 := ⟨by decide +kernel, rfl⟩
theorem eX5_mending_19 : decode cX5_mending 19 = .ok (.getfield 112, 3) ∧ 19 + 3 = 22 := ⟨by decide +kernel, rfl⟩
theorem eX5_mending_22 : decode cX5_mending 22 = .ok (.iload 4, 2) ∧ 22 + 2 = 24 := ⟨by decide +kernel, rfl⟩
theorem eX5_mending_24 : decode cX5_mending 24 = .ok (.invokestatic 115, 3) ∧ 24 + 3 = 27 := ⟨by decide +kernel, rfl⟩
theorem eX5_mending_27 : decode cX5_mending 27 = .ok (.ifCond .le 45, 3) ∧ ((27 : Nat) : Int) + 45 = ((72 : Nat) : Int) ∧ 27 + 3 = 30 := ⟨by decide +kernel, by decide, rfl⟩
theorem eX5_mending_30 : decode cX5_mending 30 = .ok (.aload_n 0, 1) ∧ 30 + 1 = 31 := ⟨by decide +kernel, rfl⟩
theorem eX5_mending_31 : decode cX5_mending 31 = .ok (.getfield 30, 3) ∧ 31 + 3 = 34 := ⟨by decide +kernel, rfl⟩
theorem eX5_mending_34 : decode cX5_mending 34 = .ok (.aload_n 0, 1) ∧ 34 + 1 = 35 := ⟨by decide +kernel, rfl⟩
theorem eX5_mending_35 : decode cX5_mending 35 = .ok (.getfield 26, 3) ∧ 35 + 3 = 38 := ⟨by decide +kernel, rfl⟩
theorem eX5_mending_38 : decode cX5_mending 38 = .ok (.invokevirtual 165, 3) ∧ 38 + 3 = 41 := ⟨by decide +kernel, rfl⟩
theorem eX5_mending_41 : decode cX5_mending 41 = .ok (.aload_n 0, 1) ∧ 41 + 1 = 42 := ⟨by decide +kernel, rfl⟩
theorem eX5_mending_42 : decode cX5_mending 42 = .ok (.getfield 30, 3) ∧ 42 + 3 = 45 := ⟨by decide +kernel, rfl⟩
theorem eX5_mending_45 : decode cX5_mending 45 = .ok (.iload 4, 2) ∧ 45 + 2 = 47 := ⟨by decide +kernel, rfl⟩
theorem eX5_mending_47 : decode cX5_mending 47 = .ok (.invokevirtual 139, 3) ∧ 47 + 3 = 50 := ⟨by decide +kernel, rfl⟩
theorem eX5_mending_50 : decode cX5_mending 50 = .ok (.aload_n 0, 1) ∧ 50 + 1 = 51 := ⟨by decide +kernel, rfl⟩
theorem eX5_mending_51 : decode cX5_mending 51 = .ok (.aload_n 0, 1) ∧ 51 + 1 = 52 := ⟨by decide +kernel, rfl⟩
theorem eX5_mending_52 : decode cX5_mending 52 = .ok (.getfield 30, 3) ∧ 52 + 3 = 55 := ⟨by decide +kernel, rfl⟩
theorem eX5_mending_55 : decode cX5_mending 55 = .ok (.invokevirtual 161, 3) ∧ 55 + 3 = 58 := ⟨by decide +kernel, rfl⟩
theorem eX5_mending_58 : decode cX5_mending 58 = .ok (.istore 5, 2) ∧ 58 + 2 = 60 := ⟨by decide +kernel, rfl⟩
theorem eX5_mending_60 : decode cX5_mending 60 = .ok (.iload 5, 2) ∧ 60 + 2 = 62 := ⟨by decide +kernel, rfl⟩
theorem eX5_mending_62 : decode cX5_mending 62 = .ok (.iload_n 2, 1) ∧ 62 + 1 = 63 := ⟨by decide +kernel, rfl⟩
theorem eX5_mending_63 : decode cX5_mending 63 = .ok (.if_icmp .le 9, 3) ∧ ((63 : Nat) : Int) + 9 = ((72 : Nat) : Int) ∧ 63 + 3 = 66 := ⟨by decide +kernel, by decide, rfl⟩
theorem eX5_mending_66 : decode cX5_mending 66 = .ok (.iload 5, 2) ∧ 66 + 2 = 68 := ⟨by decide +kernel, rfl⟩
theorem eX5_mending_68 : decode cX5_mending 68 = .ok (.istore_n 2, 1) ∧ 68 + 1 = 69 := ⟨by decide +kernel, rfl⟩
theorem eX5_mending_69 : decode cX5_mending 69 = .ok (.iload 4, 2) ∧ 69 + 2 = 71 := ⟨by decide +kernel, rfl⟩
theorem eX5_mending_71 : decode cX5_mending 71 = .ok (.istore_n 3, 1) ∧ 71 + 1 = 72 := ⟨by decide +kernel, rfl⟩
theorem eX5_mending_72 : decode cX5_mending 72 = .ok (.iinc 4 1, 3) ∧ 72 + 3 = 75 := ⟨by decide +kernel, rfl⟩
theorem eX5_mending_75 : decode cX5_mending 75 = .ok (.goto (-66), 3) ∧ ((75 : Nat) : Int) + (-66) = ((9 : Nat) : Int) := ⟨by decide +kernel, by decide⟩
theorem eX5_mending_78 : decode cX5_mending 78 = .ok (.iload_n 1, 1) ∧ 78 + 1 = 79 := ⟨by decide +kernel, rfl⟩
theorem eX5_mending_79 : decode cX5_mending 79 = .ok (.ifCond .eq 7, 3) ∧ ((79 : Nat) : Int) + 7 = ((86 : Nat) : Int) ∧ 79 + 3 = 82 := ⟨by decide +kernel, by decide, rfl⟩
theorem eX5_mending_82 : decode cX5_mending 82 = .ok (.iload_n 2, 1) ∧ 82 + 1 = 83 := ⟨by decide +kernel, rfl⟩
theorem eX5_mending_83 : decode cX5_mending 83 = .ok (.goto 4, 3) ∧ ((83 : Nat) : Int) + 4 = ((87 : Nat) : Int) := ⟨by decide +kernel, by decide⟩
theorem eX5_mending_86 : decode cX5_mending 86 = .ok (.iload_n 3, 1) ∧ 86 + 1 = 87 := ⟨by decide +kernel, rfl⟩
theorem eX5_mending_87 : decode cX5_mending 87 = .ok (.ireturn, 1) := by decide +kernel
theorem eX5_judge_0 : decode cX5_judge 0 = .ok (.iload_n 1, 1) ∧ 0 + 1 = 1 := ⟨by decide +kernel, rfl⟩
theorem eX5_judge_1 : decode cX5_judge 1 = .ok (.iload_n 2, 1) ∧ 1 + 1 = 2 := ⟨by decide +kernel, rfl⟩
theorem eX5_judge_2 : decode cX5_judge 2 = .ok (.invokestatic 168, 3) ∧ 2 + 3 = 5 := ⟨by decide +kernel, rfl⟩
theorem eX5_judge_5 : decode cX5_judge 5 = .ok (.ifCond .ne 6, 3) ∧ ((5 : Nat) : Int) + 6 = ((11 : Nat) : Int) ∧ 5 + 3 = 8 := ⟨by decide +kernel, by decide, rfl⟩
theorem eX5_judge_8 : decode cX5_judge 8 = .ok (.bipush (-2), 2) ∧ 8 + 2 = 10 := ⟨by decide +kernel, rfl⟩
theorem eX5_judge_10 : decode cX5_judge 10 = .ok (.ireturn, 1) := by decide +kernel
theorem eX5_judge_11 : decode cX5_judge 11 = .ok (.aload_n 0, 1) ∧ 11 + 1 = 12 := ⟨by decide +kernel, rfl⟩
theorem eX5_judge_12 : decode cX5_judge 12 = .ok (.getfield 30, 3) ∧ 12 + 3 = 15 := ⟨by decide +kernel, rfl⟩
theorem eX5_judge_15 : decode cX5_judge 15 = .ok (.aload_n 0, 1) ∧ 15 + 1 = 16 := ⟨by decide +kernel, rfl⟩
theorem eX5_judge_16 : decode cX5_judge 16 = .ok (.getfield 26, 3) ∧ 16 + 3 = 19 := ⟨by decide +kernel, rfl⟩
theorem eX5_judge_19 : decode cX5_judge 19 = .ok (.invokevirtual 165, 3) ∧ 19 + 3 = 22 := ⟨by decide +kernel, rfl⟩
theorem eX5_judge_22 : decode cX5_judge 22 = .ok (.iconst 0, 1) ∧ 22 + 1 = 23 := ⟨by decide +kernel, rfl⟩
theorem eX5_judge_23 : decode cX5_judge 23 = .ok (.istore_n 3, 1) ∧ 23 + 1 = 24 := ⟨by decide +kernel, rfl⟩
theorem eX5_judge_24 : decode cX5_judge 24 = .ok (.iload_n 3, 1) ∧ 24 + 1 = 25 := ⟨by decide +kernel, rfl⟩
theorem eX5_judge_25 : decode cX5_judge 25 = .ok (.iload_n 1, 1) ∧ 25 + 1 = 26 := ⟨by decide +kernel, rfl⟩
theorem eX5_judge_26 : decode cX5_judge 26 = .ok (.if_icmp .ge 31, 3) ∧ ((26 : Nat) : Int) + 31 = ((57 : Nat) : Int) ∧ 26 + 3 = 29 := ⟨by decide +kernel, by decide, rfl⟩
theorem eX5_judge_29 : decode cX5_judge 29 = .ok (.aload_n 0, 1) ∧ 29 + 1 = 30 := ⟨by decide +kernel, rfl⟩
theorem eX5_judge_30 : decode cX5_judge 30 = .ok (.getfield 19, 3) ∧ 30 + 3 = 33 := ⟨by decide +kernel, rfl⟩
theorem eX5_judge_33 : decode cX5_judge 33 = .ok (.aload_n 0, 1) ∧ 33 + 1 = 34 := ⟨by decide +kernel, rfl⟩
theorem eX5_judge_34 : decode cX5_judge 34 = .ok (.getfield 30, 3) ∧ 34 + 3 = 37 := ⟨by decide +kernel, rfl⟩
theorem eX5_judge_37 : decode cX5_judge 37 = .ok (.iload_n 1, 1) ∧ 37 + 1 = 38 := ⟨by decide +kernel, rfl⟩
theorem eX5_judge_38 : decode cX5_judge 38 = .ok (.iload_n 2, 1) ∧ 38 + 1 = 39 := ⟨by decide +kernel, rfl⟩
theorem eX5_judge_39 : decode cX5_judge 39 = .ok (.iload_n 3, 1) ∧ 39 + 1 = 40 := ⟨by decide +kernel, rfl⟩
theorem eX5_judge_40 : decode cX5_judge 40 = .ok (.invokestatic 172, 3) ∧ 40 + 3 = 43 := ⟨by decide +kernel, rfl⟩
theorem eX5_judge_43 : decode cX5_judge 43 = .ok (.invokevirtual 129, 3) ∧ 43 + 3 = 46 := ⟨by decide +kernel, rfl⟩
theorem eX5_judge_46 : decode cX5_judge 46 = .ok (.ifCond .ne 5, 3) ∧ ((46 : Nat) : Int) + 5 = ((51 : Nat) : Int) ∧ 46 + 3 = 49 := ⟨by decide +kernel, by decide, rfl⟩
theorem eX5_judge_49 : decode cX5_judge 49 = .ok (.iload_n 3, 1) ∧ 49 + 1 = 50 := ⟨by decide +kernel, rfl⟩
theorem eX5_judge_50 : decode cX5_judge 50 = .ok (.ireturn, 1) := by decide +kernel
theorem eX5_judge_51 : decode cX5_judge 51 = .ok (.iinc 3 1, 3) ∧ 51 + 3 = 54 := ⟨by decide +kernel, rfl⟩
theorem eX5_judge_54 : decode cX5_judge 54 = .ok (.goto (-30), 3) ∧ ((54 : Nat) : Int) + (-30) = ((24 : Nat) : Int) := ⟨by decide +kernel, by decide⟩
theorem eX5_judge_57 : decode cX5_judge 57 = .ok (.bipush (-9), 2) ∧ 57 + 2 = 59 := ⟨by decide +kernel, rfl⟩
theorem eX5_judge_59 : decode cX5_judge 59 = .ok (.ireturn, 1) := by decide +kernel
theorem eX5_later_0 : decode cX5_later 0 = .ok (.aload_n 0, 1) ∧ 0 + 1 = 1 := ⟨by decide +kernel, rfl⟩
theorem eX5_later_1 : decode cX5_later 1 = .ok (.getfield 19, 3) ∧ 1 + 3 = 4 := ⟨by decide +kernel, rfl⟩
theorem eX5_later_4 : decode cX5_later 4 = .ok (.iload_n 1, 1) ∧ 4 + 1 = 5 := ⟨by decide +kernel, rfl⟩
theorem eX5_later_5 : decode cX5_later 5 = .ok (.invokevirtual 95, 3) ∧ 5 + 3 = 8 := ⟨by decide +kernel, rfl⟩
theorem eX5_later_8 : decode cX5_later 8 = .ok (.ifCond .ne 5, 3) ∧ ((8 : Nat) : Int) + 5 = ((13 : Nat) : Int) ∧ 8 + 3 = 11 := ⟨by decide +kernel, by decide, rfl⟩
theorem eX5_later_11 : decode cX5_later 11 = .ok (.iconst (-1), 1) ∧ 11 + 1 = 12 := ⟨by decide +kernel, rfl⟩
theorem eX5_later_12 : decode cX5_later 12 = .ok (.ireturn, 1) := by decide +kernel
theorem eX5_later_13 : decode cX5_later 13 = .ok (.aload_n 0, 1) ∧ 13 + 1 = 14 := ⟨by decide +kernel, rfl⟩
theorem eX5_later_14 : decode cX5_later 14 = .ok (.getfield 26, 3) ∧ 14 + 3 = 17 := ⟨by decide +kernel, rfl⟩
theorem eX5_later_17 : decode cX5_later 17 = .ok (.iload_n 1, 1) ∧ 17 + 1 = 18 := ⟨by decide +kernel, rfl⟩
theorem eX5_later_18 : decode cX5_later 18 = .ok (.invokevirtual 102, 3) ∧ 18 + 3 = 21 := ⟨by decide +kernel, rfl⟩
theorem eX5_later_21 : decode cX5_later 21 = .ok (.ifCond .eq 6, 3) ∧ ((21 : Nat) : Int) + 6 = ((27 : Nat) : Int) ∧ 21 + 3 = 24 := ⟨by decide +kernel, by decide, rfl⟩
theorem eX5_later_24 : decode cX5_later 24 = .ok (.bipush (-3), 2) ∧ 24 + 2 = 26 := ⟨by decide +kernel, rfl⟩
theorem eX5_later_26 : decode cX5_later 26 = .ok (.ireturn, 1) := by decide +kernel
theorem eX5_later_27 : decode cX5_later 27 = .ok (.aload_n 0, 1) ∧ 27 + 1 = 28 := ⟨by decide +kernel, rfl⟩
theorem eX5_later_28 : decode cX5_later 28 = .ok (.getfield 26, 3) ∧ 28 + 3 = 31 := ⟨by decide +kernel, rfl⟩
theorem eX5_later_31 : decode cX5_later 31 = .ok (.aload_n 0, 1) ∧ 31 + 1 = 32 := ⟨by decide +kernel, rfl⟩
theorem eX5_later_32 : decode cX5_later 32 = .ok (.getfield 26, 3) ∧ 32 + 3 = 35 := ⟨by decide +kernel, rfl⟩
theorem eX5_later_35 : decode cX5_later 35 = .ok (.getfield 136, 3) ∧ 35 + 3 = 38 := ⟨by decide +kernel, rfl⟩
theorem eX5_later_38 : decode cX5_later 38 = .ok (.aload_n 0, 1) ∧ 38 + 1 = 39 := ⟨by decide +kernel, rfl⟩
theorem eX5_later_39 : decode cX5_later 39 = .ok (.getfield 19, 3) ∧ 39 + 3 = 42 := ⟨by decide +kernel, rfl⟩
theorem eX5_later_42 : decode cX5_later 42 = .ok (.iload_n 1, 1) ∧ 42 + 1 = 43 := ⟨by decide +kernel, rfl⟩
theorem eX5_later_43 : decode cX5_later 43 = .ok (.iconst 0, 1) ∧ 43 + 1 = 44 := ⟨by decide +kernel, rfl⟩
theorem eX5_later_44 : decode cX5_later 44 = .ok (.invokevirtual 98, 3) ∧ 44 + 3 = 47 := ⟨by decide +kernel, rfl⟩
theorem eX5_later_47 : decode cX5_later 47 = .ok (.invokevirtual 122, 3) ∧ 47 + 3 = 50 := ⟨by decide +kernel, rfl⟩
theorem eX5_later_50 : decode cX5_later 50 = .ok (.istore_n 2, 1) ∧ 50 + 1 = 51 := ⟨by decide +kernel, rfl⟩
theorem eX5_later_51 : decode cX5_later 51 = .ok (.bipush 9, 2) ∧ 51 + 2 = 53 := ⟨by decide +kernel, rfl⟩
theorem eX5_later_53 : decode cX5_later 53 = .ok (.istore_n 3, 1) ∧ 53 + 1 = 54 := ⟨by decide +kernel, rfl⟩
theorem eX5_later_54 : decode cX5_later 54 = .ok (.iload_n 3, 1) ∧ 54 + 1 = 55 := ⟨by decide +kernel, rfl⟩
theorem eX5_later_55 : decode cX5_later 55 = .ok (.ifCond .lt 26, 3) ∧ ((55 : Nat) : Int) + 26 = ((81 : Nat) : Int) ∧ 55 + 3 = 58 := ⟨by decide +kernel, by decide, rfl⟩
theorem eX5_later_58 : decode cX5_later 58 = .ok (.aload_n 0, 1) ∧ 58 + 1 = 59 := ⟨by decide +kernel, rfl⟩
theorem eX5_later_59 : decode cX5_later 59 = .ok (.getfield 19, 3) ∧ 59 + 3 = 62 := ⟨by decide +kernel, rfl⟩
theorem eX5_later_62 : decode cX5_later 62 = .ok (.iload_n 1, 1) ∧ 62 + 1 = 63 := ⟨by decide +kernel, rfl⟩
theorem eX5_later_63 : decode cX5_later 63 = .ok (.iload_n 3, 1) ∧ 63 + 1 = 64 := ⟨by decide +kernel, rfl⟩
theorem eX5_later_64 : decode cX5_later 64 = .ok (.iload_n 2, 1) ∧ 64 + 1 = 65 := ⟨by decide +kernel, rfl⟩
theorem eX5_later_65 : decode cX5_later 65 = .ok (.invokevirtual 176, 3) ∧ 65 + 3 = 68 := ⟨by decide +kernel, rfl⟩
theorem eX5_later_68 : decode cX5_later 68 = .ok (.bipush (-9), 2) ∧ 68 + 2 = 70 := ⟨by decide +kernel, rfl⟩
theorem eX5_later_70 : decode cX5_later 70 = .ok (.if_icmp .eq 5, 3) ∧ ((70 : Nat) : Int) + 5 = ((75 : Nat) : Int) ∧ 70 + 3 = 73 := ⟨by decide +kernel, by decide, rfl⟩
theorem eX5_later_73 : decode cX5_later 73 = .ok (.iload_n 3, 1) ∧ 73 + 1 = 74 := ⟨by decide +kernel, rfl⟩
theorem eX5_later_74 : decode cX5_later 74 = .ok (.ireturn, 1) := by decide +kernel
theorem eX5_later_75 : decode cX5_later 75 = .ok (.iinc 3 (-1), 3) ∧ 75 + 3 = 78 := ⟨by decide +kernel, rfl⟩
theorem eX5_later_78 : decode cX5_later 78 = .ok (.goto (-24), 3) ∧ ((78 : Nat) : Int) + (-24) = ((54 : Nat) : Int) := ⟨by decide +kernel, by decide⟩
theorem eX5_later_81 : decode cX5_later 81 = .ok (.bipush (-9), 2) ∧ 81 + 2 = 83 := ⟨by decide +kernel, rfl⟩
theorem eX5_later_83 : decode cX5_later 83 = .ok (.ireturn, 1) := by decide +kernel
theorem eX5_see_0 : decode cX5_see 0 = .ok (.iload_n 2, 1) ∧ 0 + 1 = 1 := ⟨by decide +kernel, rfl⟩
theorem eX5_see_1 : decode cX5_see 1 = .ok (.invokestatic 119, 3) ∧ 1 + 3 = 4 := ⟨by decide +kernel, rfl⟩
theorem eX5_see_4 : decode cX5_see 4 = .ok (.ifCond .ne 5, 3) ∧ ((4 : Nat) : Int) + 5 = ((9 : Nat) : Int) ∧ 4 + 3 = 7 := ⟨by decide +kernel, by decide, rfl⟩
theorem eX5_see_7 : decode cX5_see 7 = .ok (.iconst (-1), 1) ∧ 7 + 1 = 8 := ⟨by decide +kernel, rfl⟩
theorem eX5_see_8 : decode cX5_see 8 = .ok (.ireturn, 1) := by decide +kernel
theorem eX5_see_9 : decode cX5_see 9 = .ok (.iload_n 1, 1) ∧ 9 + 1 = 10 := ⟨by decide +kernel, rfl⟩
theorem eX5_see_10 : decode cX5_see 10 = .ok (.ifCond .lt 9, 3) ∧ ((10 : Nat) : Int) + 9 = ((19 : Nat) : Int) ∧ 10 + 3 = 13 := ⟨by decide +kernel, by decide, rfl⟩
theorem eX5_see_13 : decode cX5_see 13 = .ok (.iload_n 1, 1) ∧ 13 + 1 = 14 := ⟨by decide +kernel, rfl⟩
theorem eX5_see_14 : decode cX5_see 14 = .ok (.bipush 6, 2) ∧ 14 + 2 = 16 := ⟨by decide +kernel, rfl⟩
theorem eX5_see_16 : decode cX5_see 16 = .ok (.if_icmp .le 6, 3) ∧ ((16 : Nat) : Int) + 6 = ((22 : Nat) : Int) ∧ 16 + 3 = 19 := ⟨by decide +kernel, by decide, rfl⟩
theorem eX5_see_19 : decode cX5_see 19 = .ok (.bipush (-2), 2) ∧ 19 + 2 = 21 := ⟨by decide +kernel, rfl⟩
theorem eX5_see_21 : decode cX5_see 21 = .ok (.ireturn, 1) := by decide +kernel
theorem eX5_see_22 : decode cX5_see 22 = .ok (.aload_n 0, 1) ∧ 22 + 1 = 23 := ⟨by decide +kernel, rfl⟩
theorem eX5_see_23 : decode cX5_see 23 = .ok (.getfield 65, 3) ∧ 23 + 3 = 26 := ⟨by decide +kernel, rfl⟩
theorem eX5_see_26 : decode cX5_see 26 = .ok (.ifCond .lt 27, 3) ∧ ((26 : Nat) : Int) + 27 = ((53 : Nat) : Int) ∧ 26 + 3 = 29 := ⟨by decide +kernel, by decide, rfl⟩
theorem eX5_see_29 : decode cX5_see 29 = .ok (.aload_n 0, 1) ∧ 29 + 1 = 30 := ⟨by decide +kernel, rfl⟩
theorem eX5_see_30 : decode cX5_see 30 = .ok (.getfield 65, 3) ∧ 30 + 3 = 33 := ⟨by decide +kernel, rfl⟩
theorem eX5_see_33 : decode cX5_see 33 = .ok (.aload_n 0, 1) ∧ 33 + 1 = 34 := ⟨by decide +kernel, rfl⟩
theorem eX5_see_34 : decode cX5_see 34 = .ok (.getfield 55, 3) ∧ 34 + 3 = 37 := ⟨by decide +kernel, rfl⟩
theorem eX5_see_37 : decode cX5_see 37 = .ok (.arraylength, 1) ∧ 37 + 1 = 38 := ⟨by decide +kernel, rfl⟩
theorem eX5_see_38 : decode cX5_see 38 = .ok (.if_icmp .ge 15, 3) ∧ ((38 : Nat) : Int) + 15 = ((53 : Nat) : Int) ∧ 38 + 3 = 41 := ⟨by decide +kernel, by decide, rfl⟩
theorem eX5_see_41 : decode cX5_see 41 = .ok (.aload_n 0, 1) ∧ 41 + 1 = 42 := ⟨by decide +kernel, rfl⟩
theorem eX5_see_42 : decode cX5_see 42 = .ok (.getfield 65, 3) ∧ 42 + 3 = 45 := ⟨by decide +kernel, rfl⟩
theorem eX5_see_45 : decode cX5_see 45 = .ok (.aload_n 0, 1) ∧ 45 + 1 = 46 := ⟨by decide +kernel, rfl⟩
theorem eX5_see_46 : decode cX5_see 46 = .ok (.getfield 59, 3) ∧ 46 + 3 = 49 := ⟨by decide +kernel, rfl⟩
theorem eX5_see_49 : decode cX5_see 49 = .ok (.arraylength, 1) ∧ 49 + 1 = 50 := ⟨by decide +kernel, rfl⟩
theorem eX5_see_50 : decode cX5_see 50 = .ok (.if_icmp .lt 6, 3) ∧ ((50 : Nat) : Int) + 6 = ((56 : Nat) : Int) ∧ 50 + 3 = 53 := ⟨by decide +kernel, by decide, rfl⟩
theorem eX5_see_53 : decode cX5_see 53 = .ok (.bipush (-4), 2) ∧ 53 + 2 = 55 := ⟨by decide +kernel, rfl⟩
theorem eX5_see_55 : decode cX5_see 55 = .ok (.ireturn, 1) := by decide +kernel
theorem eX5_see_56 : decode cX5_see 56 = .ok (.aload_n 0, 1) ∧ 56 + 1 = 57 := ⟨by decide +kernel, rfl⟩
theorem eX5_see_57 : decode cX5_see 57 = .ok (.getfield 55, 3) ∧ 57 + 3 = 60 := ⟨by decide +kernel, rfl⟩
theorem eX5_see_60 : decode cX5_see 60 = .ok (.aload_n 0, 1) ∧ 60 + 1 = 61 := ⟨by decide +kernel, rfl⟩
theorem eX5_see_61 : decode cX5_see 61 = .ok (.getfield 65, 3) ∧ 61 + 3 = 64 := ⟨by decide +kernel, rfl⟩
theorem eX5_see_64 : decode cX5_see 64 = .ok (.iload_n 1, 1) ∧ 64 + 1 = 65 := ⟨by decide +kernel, rfl⟩
theorem eX5_see_65 : decode cX5_see 65 = .ok (.iastore, 1) ∧ 65 + 1 = 66 := ⟨by decide +kernel, rfl⟩
theorem eX5_see_66 : decode cX5_see 66 = .ok (.aload_n 0, 1) ∧ 66 + 1 = 67 := ⟨by decide +kernel, rfl⟩
theorem eX5_see_67 : decode cX5_see 67 = .ok (.getfield 59, 3) ∧ 67 + 3 = 70 := ⟨by decide +kernel, rfl⟩
theorem eX5_see_70 : decode cX5_see 70 = .ok (.aload_n 0, 1) ∧ 70 + 1 = 71 := ⟨by decide +kernel, rfl⟩
theorem eX5_see_71 : decode cX5_see 71 = .ok (.getfield 65, 3) ∧ 71 + 3 = 74 := ⟨by decide +kernel, rfl⟩
theorem eX5_see_74 : decode cX5_see 74 = .ok (.iload_n 2, 1) ∧ 74 + 1 = 75 := ⟨by decide +kernel, rfl⟩
theorem eX5_see_75 : decode cX5_see 75 = .ok (.iastore, 1) ∧ 75 + 1 = 76 := ⟨by decide +kernel, rfl⟩
theorem eX5_see_76 : decode cX5_see 76 = .ok (.aload_n 0, 1) ∧ 76 + 1 = 77 := ⟨by decide +kernel, rfl⟩
theorem eX5_see_77 : decode cX5_see 77 = .ok (.dup, 1) ∧ 77 + 1 = 78 := ⟨by decide +kernel, rfl⟩
theorem eX5_see_78 : decode cX5_see 78 = .ok (.getfield 65, 3) ∧ 78 + 3 = 81 := ⟨by decide +kernel, rfl⟩
theorem eX5_see_81 : decode cX5_see 81 = .ok (.iconst 1, 1) ∧ 81 + 1 = 82 := ⟨by decide +kernel, rfl⟩
theorem eX5_see_82 : decode cX5_see 82 = .ok (.iadd, 1) ∧ 82 + 1 = 83 := ⟨by decide +kernel, rfl⟩
theorem eX5_see_83 : decode cX5_see 83 = .ok (.putfield 65, 3) ∧ 83 + 3 = 86 := ⟨by decide +kernel, rfl⟩
theorem eX5_see_86 : decode cX5_see 86 = .ok (.aload_n 0, 1) ∧ 86 + 1 = 87 := ⟨by decide +kernel, rfl⟩
theorem eX5_see_87 : decode cX5_see 87 = .ok (.getfield 65, 3) ∧ 87 + 3 = 90 := ⟨by decide +kernel, rfl⟩
theorem eX5_see_90 : decode cX5_see 90 = .ok (.ireturn, 1) := by decide +kernel
theorem eX5_unsee_0 : decode cX5_unsee 0 = .ok (.aload_n 0, 1) ∧ 0 + 1 = 1 := ⟨by decide +kernel, rfl⟩
theorem eX5_unsee_1 : decode cX5_unsee 1 = .ok (.getfield 65, 3) ∧ 1 + 3 = 4 := ⟨by decide +kernel, rfl⟩
theorem eX5_unsee_4 : decode cX5_unsee 4 = .ok (.istore_n 1, 1) ∧ 4 + 1 = 5 := ⟨by decide +kernel, rfl⟩
theorem eX5_unsee_5 : decode cX5_unsee 5 = .ok (.aload_n 0, 1) ∧ 5 + 1 = 6 := ⟨by decide +kernel, rfl⟩
theorem eX5_unsee_6 : decode cX5_unsee 6 = .ok (.iconst 0, 1) ∧ 6 + 1 = 7 := ⟨by decide +kernel, rfl⟩
theorem eX5_unsee_7 : decode cX5_unsee 7 = .ok (.putfield 65, 3) ∧ 7 + 3 = 10 := ⟨by decide +kernel, rfl⟩
theorem eX5_unsee_10 : decode cX5_unsee 10 = .ok (.iload_n 1, 1) ∧ 10 + 1 = 11 := ⟨by decide +kernel, rfl⟩
theorem eX5_unsee_11 : decode cX5_unsee 11 = .ok (.ireturn, 1) := by decide +kernel
theorem eX5_rows_0 : decode cX5_rows 0 = .ok (.iload_n 1, 1) ∧ 0 + 1 = 1 := ⟨by decide +kernel, rfl⟩
theorem eX5_rows_1 : decode cX5_rows 1 = .ok (.ifCond .lt 18, 3) ∧ ((1 : Nat) : Int) + 18 = ((19 : Nat) : Int) ∧ 1 + 3 = 4 := ⟨by decide +kernel, by decide, rfl⟩
theorem eX5_rows_4 : decode cX5_rows 4 = .ok (.iload_n 1, 1) ∧ 4 + 1 = 5 := ⟨by decide +kernel, rfl⟩
theorem eX5_rows_5 : decode cX5_rows 5 = .ok (.bipush 6, 2) ∧ 5 + 2 = 7 := ⟨by decide +kernel, rfl⟩
theorem eX5_rows_7 : decode cX5_rows 7 = .ok (.if_icmp .gt 12, 3) ∧ ((7 : Nat) : Int) + 12 = ((19 : Nat) : Int) ∧ 7 + 3 = 10 := ⟨by decide +kernel, by decide, rfl⟩
theorem eX5_rows_10 : decode cX5_rows 10 = .ok (.iload_n 2, 1) ∧ 10 + 1 = 11 := ⟨by decide +kernel, rfl⟩
theorem eX5_rows_11 : decode cX5_rows 11 = .ok (.ifCond .lt 8, 3) ∧ ((11 : Nat) : Int) + 8 = ((19 : Nat) : Int) ∧ 11 + 3 = 14 := ⟨by decide +kernel, by decide, rfl⟩
theorem eX5_rows_14 : decode cX5_rows 14 = .ok (.iload_n 2, 1) ∧ 14 + 1 = 15 := ⟨by decide +kernel, rfl⟩
theorem eX5_rows_15 : decode cX5_rows 15 = .ok (.iconst 2, 1) ∧ 15 + 1 = 16 := ⟨by decide +kernel, rfl⟩
theorem eX5_rows_16 : decode cX5_rows 16 = .ok (.if_icmp .le 6, 3) ∧ ((16 : Nat) : Int) + 6 = ((22 : Nat) : Int) ∧ 16 + 3 = 19 := ⟨by decide +kernel, by decide, rfl⟩
theorem eX5_rows_19 : decode cX5_rows 19 = .ok (.bipush (-2), 2) ∧ 19 + 2 = 21 := ⟨by decide +kernel, rfl⟩
theorem eX5_rows_21 : decode cX5_rows 21 = .ok (.ireturn, 1) := by decide +kernel
theorem eX5_rows_22 : decode cX5_rows 22 = .ok (.aload_n 0, 1) ∧ 22 + 1 = 23 := ⟨by decide +kernel, rfl⟩
theorem eX5_rows_23 : decode cX5_rows 23 = .ok (.getfield 43, 3) ∧ 23 + 3 = 26 := ⟨by decide +kernel, rfl⟩
theorem eX5_rows_26 : decode cX5_rows 26 = .ok (.aload_n 0, 1) ∧ 26 + 1 = 27 := ⟨by decide +kernel, rfl⟩
theorem eX5_rows_27 : decode cX5_rows 27 = .ok (.getfield 26, 3) ∧ 27 + 3 = 30 := ⟨by decide +kernel, rfl⟩
theorem eX5_rows_30 : decode cX5_rows 30 = .ok (.iload_n 1, 1) ∧ 30 + 1 = 31 := ⟨by decide +kernel, rfl⟩
theorem eX5_rows_31 : decode cX5_rows 31 = .ok (.invokevirtual 179, 3) ∧ 31 + 3 = 34 := ⟨by decide +kernel, rfl⟩
theorem eX5_rows_34 : decode cX5_rows 34 = .ok (.iconst 0, 1) ∧ 34 + 1 = 35 := ⟨by decide +kernel, rfl⟩
theorem eX5_rows_35 : decode cX5_rows 35 = .ok (.istore_n 3, 1) ∧ 35 + 1 = 36 := ⟨by decide +kernel, rfl⟩
theorem eX5_rows_36 : decode cX5_rows 36 = .ok (.iload_n 3, 1) ∧ 36 + 1 = 37 := ⟨by decide +kernel, rfl⟩
theorem eX5_rows_37 : decode cX5_rows 37 = .ok (.aload_n 0, 1) ∧ 37 + 1 = 38 := ⟨by decide +kernel, rfl⟩
theorem eX5_rows_38 : decode cX5_rows 38 = .ok (.getfield 65, 3) ∧ 38 + 3 = 41 := ⟨by decide +kernel, rfl⟩
theorem eX5_rows_41 : decode cX5_rows 41 = .ok (.if_icmp .ge 32, 3) ∧ ((41 : Nat) : Int) + 32 = ((73 : Nat) : Int) ∧ 41 + 3 = 44 := ⟨by decide +kernel, by decide, rfl⟩
theorem eX5_rows_44 : decode cX5_rows 44 = .ok (.aload_n 0, 1) ∧ 44 + 1 = 45 := ⟨by decide +kernel, rfl⟩
theorem eX5_rows_45 : decode cX5_rows 45 = .ok (.getfield 43, 3) ∧ 45 + 3 = 48 := ⟨by decide +kernel, rfl⟩
theorem eX5_rows_48 : decode cX5_rows 48 = .ok (.aload_n 0, 1) ∧ 48 + 1 = 49 := ⟨by decide +kernel, rfl⟩
theorem eX5_rows_49 : decode cX5_rows 49 = .ok (.getfield 55, 3) ∧ 49 + 3 = 52 := ⟨by decide +kernel, rfl⟩
theorem eX5_rows_52 : decode cX5_rows 52 = .ok (.iload_n 3, 1) ∧ 52 + 1 = 53 := ⟨by decide +kernel, rfl⟩
theorem eX5_rows_53 : decode cX5_rows 53 = .ok (.invokestatic 115, 3) ∧ 53 + 3 = 56 := ⟨by decide +kernel, rfl⟩
theorem eX5_rows_56 : decode cX5_rows 56 = .ok (.aload_n 0, 1) ∧ 56 + 1 = 57 := ⟨by decide +kernel, rfl⟩
theorem eX5_rows_57 : decode cX5_rows 57 = .ok (.getfield 59, 3) ∧ 57 + 3 = 60 := ⟨by decide +kernel, rfl⟩
theorem eX5_rows_60 : decode cX5_rows 60 = .ok (.iload_n 3, 1) ∧ 60 + 1 = 61 := ⟨by decide +kernel, rfl⟩
theorem eX5_rows_61 : decode cX5_rows 61 = .ok (.invokestatic 115, 3) ∧ 61 + 3 = 64 := ⟨by decide +kernel, rfl⟩
theorem eX5_rows_64 : decode cX5_rows 64 = .ok (.invokevirtual 183, 3) ∧ 64 + 3 = 67 := ⟨by decide +kernel, rfl⟩
theorem eX5_rows_67 : decode cX5_rows 67 = .ok (.iinc 3 1, 3) ∧ 67 + 3 = 70 := ⟨by decide +kernel, rfl⟩
theorem eX5_rows_70 : decode cX5_rows 70 = .ok (.goto (-34), 3) ∧ ((70 : Nat) : Int) + (-34) = ((36 : Nat) : Int) := ⟨by decide +kernel, by decide⟩
theorem eX5_rows_73 : decode cX5_rows 73 = .ok (.aload_n 0, 1) ∧ 73 + 1 = 74 := ⟨by decide +kernel, rfl⟩
theorem eX5_rows_74 : decode cX5_rows 74 = .ok (.getfield 43, 3) ∧ 74 + 3 = 77 := ⟨by decide +kernel, rfl⟩
theorem eX5_rows_77 : decode cX5_rows 77 = .ok (.aload_n 0, 1) ∧ 77 + 1 = 78 := ⟨by decide +kernel, rfl⟩
theorem eX5_rows_78 : decode cX5_rows 78 = .ok (.getfield 19, 3) ∧ 78 + 3 = 81 := ⟨by decide +kernel, rfl⟩
theorem eX5_rows_81 : decode cX5_rows 81 = .ok (.invokevirtual 187, 3) ∧ 81 + 3 = 84 := ⟨by decide +kernel, rfl⟩
theorem eX5_rows_84 : decode cX5_rows 84 = .ok (.iload_n 2, 1) ∧ 84 + 1 = 85 := ⟨by decide +kernel, rfl⟩
theorem eX5_rows_85 : decode cX5_rows 85 = .ok (.ifCond .ne 11, 3) ∧ ((85 : Nat) : Int) + 11 = ((96 : Nat) : Int) ∧ 85 + 3 = 88 := ⟨by decide +kernel, by decide, rfl⟩
theorem eX5_rows_88 : decode cX5_rows 88 = .ok (.aload_n 0, 1) ∧ 88 + 1 = 89 := ⟨by decide +kernel, rfl⟩
theorem eX5_rows_89 : decode cX5_rows 89 = .ok (.getfield 43, 3) ∧ 89 + 3 = 92 := ⟨by decide +kernel, rfl⟩
theorem eX5_rows_92 : decode cX5_rows 92 = .ok (.getfield 191, 3) ∧ 92 + 3 = 95 := ⟨by decide +kernel, rfl⟩
theorem eX5_rows_95 : decode cX5_rows 95 = .ok (.ireturn, 1) := by decide +kernel
theorem eX5_rows_96 : decode cX5_rows 96 = .ok (.aload_n 0, 1) ∧ 96 + 1 = 97 := ⟨by decide +kernel, rfl⟩
theorem eX5_rows_97 : decode cX5_rows 97 = .ok (.getfield 43, 3) ∧ 97 + 3 = 100 := ⟨by decide +kernel, rfl⟩
theorem eX5_rows_100 : decode cX5_rows 100 = .ok (.getfield 191, 3) ∧ 100 + 3 = 103 := ⟨by decide +kernel, rfl⟩
theorem eX5_rows_103 : decode cX5_rows 103 = .ok (.ifCond .ne 6, 3) ∧ ((103 : Nat) : Int) + 6 = ((109 : Nat) : Int) ∧ 103 + 3 = 106 := ⟨by decide +kernel, by decide, rfl⟩
theorem eX5_rows_106 : decode cX5_rows 106 = .ok (.bipush (-9), 2) ∧ 106 + 2 = 108 := ⟨by decide +kernel, rfl⟩
theorem eX5_rows_108 : decode cX5_rows 108 = .ok (.ireturn, 1) := by decide +kernel
theorem eX5_rows_109 : decode cX5_rows 109 = .ok (.iload_n 2, 1) ∧ 109 + 1 = 110 := ⟨by decide +kernel, rfl⟩
theorem eX5_rows_110 : decode cX5_rows 110 = .ok (.iconst 1, 1) ∧ 110 + 1 = 111 := ⟨by decide +kernel, rfl⟩
theorem eX5_rows_111 : decode cX5_rows 111 = .ok (.if_icmp .ne 13, 3) ∧ ((111 : Nat) : Int) + 13 = ((124 : Nat) : Int) ∧ 111 + 3 = 114 := ⟨by decide +kernel, by decide, rfl⟩
theorem eX5_rows_114 : decode cX5_rows 114 = .ok (.aload_n 0, 1) ∧ 114 + 1 = 115 := ⟨by decide +kernel, rfl⟩
theorem eX5_rows_115 : decode cX5_rows 115 = .ok (.getfield 43, 3) ∧ 115 + 3 = 118 := ⟨by decide +kernel, rfl⟩
theorem eX5_rows_118 : decode cX5_rows 118 = .ok (.getfield 194, 3) ∧ 118 + 3 = 121 := ⟨by decide +kernel, rfl⟩
theorem eX5_rows_121 : decode cX5_rows 121 = .ok (.goto 20, 3) ∧ ((121 : Nat) : Int) + 20 = ((141 : Nat) : Int) := ⟨by decide +kernel, by decide⟩
theorem eX5_rows_124 : decode cX5_rows 124 = .ok (.aload_n 0, 1) ∧ 124 + 1 = 125 := ⟨by decide +kernel, rfl⟩
theorem eX5_rows_125 : decode cX5_rows 125 = .ok (.getfield 19, 3) ∧ 125 + 3 = 128 := ⟨by decide +kernel, rfl⟩
theorem eX5_rows_128 : decode cX5_rows 128 = .ok (.invokevirtual 197, 3) ∧ 128 + 3 = 131 := ⟨by decide +kernel, rfl⟩
theorem eX5_rows_131 : decode cX5_rows 131 = .ok (.aload_n 0, 1) ∧ 131 + 1 = 132 := ⟨by decide +kernel, rfl⟩
theorem eX5_rows_132 : decode cX5_rows 132 = .ok (.getfield 43, 3) ∧ 132 + 3 = 135 := ⟨by decide +kernel, rfl⟩
theorem eX5_rows_135 : decode cX5_rows 135 = .ok (.getfield 200, 3) ∧ 135 + 3 = 138 := ⟨by decide +kernel, rfl⟩
theorem eX5_rows_138 : decode cX5_rows 138 = .ok (.iconst (-1), 1) ∧ 138 + 1 = 139 := ⟨by decide +kernel, rfl⟩
theorem eX5_rows_139 : decode cX5_rows 139 = .ok (.ixor, 1) ∧ 139 + 1 = 140 := ⟨by decide +kernel, rfl⟩
theorem eX5_rows_140 : decode cX5_rows 140 = .ok (.iand, 1) ∧ 140 + 1 = 141 := ⟨by decide +kernel, rfl⟩
theorem eX5_rows_141 : decode cX5_rows 141 = .ok (.ireturn, 1) := by decide +kernel
theorem eX5_share_0 : decode cX5_share 0 = .ok (.aload_n 0, 1) ∧ 0 + 1 = 1 := ⟨by decide +kernel, rfl⟩
theorem eX5_share_1 : decode cX5_share 1 = .ok (.getfield 19, 3) ∧ 1 + 3 = 4 := ⟨by decide +kernel, rfl⟩
theorem eX5_share_4 : decode cX5_share 4 = .ok (.iload_n 1, 1) ∧ 4 + 1 = 5 := ⟨by decide +kernel, rfl⟩
theorem eX5_share_5 : decode cX5_share 5 = .ok (.invokevirtual 95, 3) ∧ 5 + 3 = 8 := ⟨by decide +kernel, rfl⟩
theorem eX5_share_8 : decode cX5_share 8 = .ok (.ifCond .ne 5, 3) ∧ ((8 : Nat) : Int) + 5 = ((13 : Nat) : Int) ∧ 8 + 3 = 11 := ⟨by decide +kernel, by decide, rfl⟩
theorem eX5_share_11 : decode cX5_share 11 = .ok (.iconst (-1), 1) ∧ 11 + 1 = 12 := ⟨by decide +kernel, rfl⟩
theorem eX5_share_12 : decode cX5_share 12 = .ok (.ireturn, 1) := by decide +kernel
theorem eX5_share_13 : decode cX5_share 13 = .ok (.aload_n 0, 1) ∧ 13 + 1 = 14 := ⟨by decide +kernel, rfl⟩
theorem eX5_share_14 : decode cX5_share 14 = .ok (.getfield 26, 3) ∧ 14 + 3 = 17 := ⟨by decide +kernel, rfl⟩
theorem eX5_share_17 : decode cX5_share 17 = .ok (.iload_n 1, 1) ∧ 17 + 1 = 18 := ⟨by decide +kernel, rfl⟩
theorem eX5_share_18 : decode cX5_share 18 = .ok (.invokevirtual 102, 3) ∧ 18 + 3 = 21 := ⟨by decide +kernel, rfl⟩
theorem eX5_share_21 : decode cX5_share 21 = .ok (.ifCond .eq 10, 3) ∧ ((21 : Nat) : Int) + 10 = ((31 : Nat) : Int) ∧ 21 + 3 = 24 := ⟨by decide +kernel, by decide, rfl⟩
theorem eX5_share_24 : decode cX5_share 24 = .ok (.iconst 0, 1) ∧ 24 + 1 = 25 := ⟨by decide +kernel, rfl⟩
theorem eX5_share_25 : decode cX5_share 25 = .ok (.iconst 1, 1) ∧ 25 + 1 = 26 := ⟨by decide +kernel, rfl⟩
theorem eX5_share_26 : decode cX5_share 26 = .ok (.iload_n 2, 1) ∧ 26 + 1 = 27 := ⟨by decide +kernel, rfl⟩
theorem eX5_share_27 : decode cX5_share 27 = .ok (.invokestatic 203, 3) ∧ 27 + 3 = 30 := ⟨by decide +kernel, rfl⟩
theorem eX5_share_30 : decode cX5_share 30 = .ok (.ireturn, 1) := by decide +kernel
theorem eX5_share_31 : decode cX5_share 31 = .ok (.aload_n 0, 1) ∧ 31 + 1 = 32 := ⟨by decide +kernel, rfl⟩
theorem eX5_share_32 : decode cX5_share 32 = .ok (.invokevirtual 207, 3) ∧ 32 + 3 = 35 := ⟨by decide +kernel, rfl⟩
theorem eX5_share_35 : decode cX5_share 35 = .ok (.aload_n 0, 1) ∧ 35 + 1 = 36 := ⟨by decide +kernel, rfl⟩
theorem eX5_share_36 : decode cX5_share 36 = .ok (.getfield 19, 3) ∧ 36 + 3 = 39 := ⟨by decide +kernel, rfl⟩
theorem eX5_share_39 : decode cX5_share 39 = .ok (.invokevirtual 197, 3) ∧ 39 + 3 = 42 := ⟨by decide +kernel, rfl⟩
theorem eX5_share_42 : decode cX5_share 42 = .ok (.aload_n 0, 1) ∧ 42 + 1 = 43 := ⟨by decide +kernel, rfl⟩
theorem eX5_share_43 : decode cX5_share 43 = .ok (.getfield 26, 3) ∧ 43 + 3 = 46 := ⟨by decide +kernel, rfl⟩
theorem eX5_share_46 : decode cX5_share 46 = .ok (.getfield 210, 3) ∧ 46 + 3 = 49 := ⟨by decide +kernel, rfl⟩
theorem eX5_share_49 : decode cX5_share 49 = .ok (.iconst (-1), 1) ∧ 49 + 1 = 50 := ⟨by decide +kernel, rfl⟩
theorem eX5_share_50 : decode cX5_share 50 = .ok (.ixor, 1) ∧ 50 + 1 = 51 := ⟨by decide +kernel, rfl⟩
theorem eX5_share_51 : decode cX5_share 51 = .ok (.iand, 1) ∧ 51 + 1 = 52 := ⟨by decide +kernel, rfl⟩
theorem eX5_share_52 : decode cX5_share 52 = .ok (.istore_n 3, 1) ∧ 52 + 1 = 53 := ⟨by decide +kernel, rfl⟩
theorem eX5_share_53 : decode cX5_share 53 = .ok (.iconst 1, 1) ∧ 53 + 1 = 54 := ⟨by decide +kernel, rfl⟩
theorem eX5_share_54 : decode cX5_share 54 = .ok (.iload_n 1, 1) ∧ 54 + 1 = 55 := ⟨by decide +kernel, rfl⟩
theorem eX5_share_55 : decode cX5_share 55 = .ok (.ishl, 1) ∧ 55 + 1 = 56 := ⟨by decide +kernel, rfl⟩
theorem eX5_share_56 : decode cX5_share 56 = .ok (.istore 4, 2) ∧ 56 + 2 = 58 := ⟨by decide +kernel, rfl⟩
theorem eX5_share_58 : decode cX5_share 58 = .ok (.iload_n 3, 1) ∧ 58 + 1 = 59 := ⟨by decide +kernel, rfl⟩
theorem eX5_share_59 : decode cX5_share 59 = .ok (.invokestatic 213, 3) ∧ 59 + 3 = 62 := ⟨by decide +kernel, rfl⟩
theorem eX5_share_62 : decode cX5_share 62 = .ok (.iconst 1, 1) ∧ 62 + 1 = 63 := ⟨by decide +kernel, rfl⟩
theorem eX5_share_63 : decode cX5_share 63 = .ok (.isub, 1) ∧ 63 + 1 = 64 := ⟨by decide +kernel, rfl⟩
theorem eX5_share_64 : decode cX5_share 64 = .ok (.istore 5, 2) ∧ 64 + 2 = 66 := ⟨by decide +kernel, rfl⟩
theorem eX5_share_66 : decode cX5_share 66 = .ok (.iconst 0, 1) ∧ 66 + 1 = 67 := ⟨by decide +kernel, rfl⟩
theorem eX5_share_67 : decode cX5_share 67 = .ok (.istore 6, 2) ∧ 67 + 2 = 69 := ⟨by decide +kernel, rfl⟩
theorem eX5_share_69 : decode cX5_share 69 = .ok (.iconst 0, 1) ∧ 69 + 1 = 70 := ⟨by decide +kernel, rfl⟩
theorem eX5_share_70 : decode cX5_share 70 = .ok (.istore 7, 2) ∧ 70 + 2 = 72 := ⟨by decide +kernel, rfl⟩
theorem eX5_share_72 : decode cX5_share 72 = .ok (.iload 7, 2) ∧ 72 + 2 = 74 := ⟨by decide +kernel, rfl⟩
theorem eX5_share_74 : decode cX5_share 74 = .ok (.bipush 64, 2) ∧ 74 + 2 = 76 := ⟨by decide +kernel, rfl⟩
theorem eX5_share_76 : decode cX5_share 76 = .ok (.if_icmp .ge 85, 3) ∧ ((76 : Nat) : Int) + 85 = ((161 : Nat) : Int) ∧ 76 + 3 = 79 := ⟨by decide +kernel, by decide, rfl⟩
theorem eX5_share_79 : decode cX5_share 79 = .ok (.iload 7, 2) ∧ 79 + 2 = 81 := ⟨by decide +kernel, rfl⟩
theorem eX5_share_81 : decode cX5_share 81 = .ok (.iload_n 3, 1) ∧ 81 + 1 = 82 := ⟨by decide +kernel, rfl⟩
theorem eX5_share_82 : decode cX5_share 82 = .ok (.iconst (-1), 1) ∧ 82 + 1 = 83 := ⟨by decide +kernel, rfl⟩
theorem eX5_share_83 : decode cX5_share 83 = .ok (.ixor, 1) ∧ 83 + 1 = 84 := ⟨by decide +kernel, rfl⟩
theorem eX5_share_84 : decode cX5_share 84 = .ok (.iand, 1) ∧ 84 + 1 = 85 := ⟨by decide +kernel, rfl⟩
theorem eX5_share_85 : decode cX5_share 85 = .ok (.ifCond .ne 70, 3) ∧ ((85 : Nat) : Int) + 70 = ((155 : Nat) : Int) ∧ 85 + 3 = 88 := ⟨by decide +kernel, by decide, rfl⟩
theorem eX5_share_88 : decode cX5_share 88 = .ok (.iload 7, 2) ∧ 88 + 2 = 90 := ⟨by decide +kernel, rfl⟩
theorem eX5_share_90 : decode cX5_share 90 = .ok (.iload 4, 2) ∧ 90 + 2 = 92 := ⟨by decide +kernel, rfl⟩
theorem eX5_share_92 : decode cX5_share 92 = .ok (.iand, 1) ∧ 92 + 1 = 93 := ⟨by decide +kernel, rfl⟩
theorem eX5_share_93 : decode cX5_share 93 = .ok (.ifCond .ne 62, 3) ∧ ((93 : Nat) : Int) + 62 = ((155 : Nat) : Int) ∧ 93 + 3 = 96 := ⟨by decide +kernel, by decide, rfl⟩
theorem eX5_share_96 : decode cX5_share 96 = .ok (.iload 7, 2) ∧ 96 + 2 = 98 := ⟨by decide +kernel, rfl⟩
theorem eX5_share_98 : decode cX5_share 98 = .ok (.invokestatic 213, 3) ∧ 98 + 3 = 101 := ⟨by decide +kernel, rfl⟩
theorem eX5_share_101 : decode cX5_share 101 = .ok (.istore 8, 2) ∧ 101 + 2 = 103 := ⟨by decide +kernel, rfl⟩
theorem eX5_share_103 : decode cX5_share 103 = .ok (.aload_n 0, 1) ∧ 103 + 1 = 104 := ⟨by decide +kernel, rfl⟩
theorem eX5_share_104 : decode cX5_share 104 = .ok (.getfield 62, 3) ∧ 104 + 3 = 107 := ⟨by decide +kernel, rfl⟩
theorem eX5_share_107 : decode cX5_share 107 = .ok (.iload 7, 2) ∧ 107 + 2 = 109 := ⟨by decide +kernel, rfl⟩
theorem eX5_share_109 : decode cX5_share 109 = .ok (.iload 4, 2) ∧ 109 + 2 = 111 := ⟨by decide +kernel, rfl⟩
theorem eX5_share_111 : decode cX5_share 111 = .ok (.ior, 1) ∧ 111 + 1 = 112 := ⟨by decide +kernel, rfl⟩
theorem eX5_share_112 : decode cX5_share 112 = .ok (.invokestatic 115, 3) ∧ 112 + 3 = 115 := ⟨by decide +kernel, rfl⟩
theorem eX5_share_115 : decode cX5_share 115 = .ok (.aload_n 0, 1) ∧ 115 + 1 = 116 := ⟨by decide +kernel, rfl⟩
theorem eX5_share_116 : decode cX5_share 116 = .ok (.getfield 62, 3) ∧ 116 + 3 = 119 := ⟨by decide +kernel, rfl⟩
theorem eX5_share_119 : decode cX5_share 119 = .ok (.iload 7, 2) ∧ 119 + 2 = 121 := ⟨by decide +kernel, rfl⟩
theorem eX5_share_121 : decode cX5_share 121 = .ok (.invokestatic 115, 3) ∧ 121 + 3 = 124 := ⟨by decide +kernel, rfl⟩
theorem eX5_share_124 : decode cX5_share 124 = .ok (.isub, 1) ∧ 124 + 1 = 125 := ⟨by decide +kernel, rfl⟩
theorem eX5_share_125 : decode cX5_share 125 = .ok (.istore 9, 2) ∧ 125 + 2 = 127 := ⟨by decide +kernel, rfl⟩
theorem eX5_share_127 : decode cX5_share 127 = .ok (.iload 6, 2) ∧ 127 + 2 = 129 := ⟨by decide +kernel, rfl⟩
theorem eX5_share_129 : decode cX5_share 129 = .ok (.iload 9, 2) ∧ 129 + 2 = 131 := ⟨by decide +kernel, rfl⟩
theorem eX5_share_131 : decode cX5_share 131 = .ok (.getstatic 219, 3) ∧ 131 + 3 = 134 := ⟨by decide +kernel, rfl⟩
theorem eX5_share_134 : decode cX5_share 134 = .ok (.iload 8, 2) ∧ 134 + 2 = 136 := ⟨by decide +kernel, rfl⟩
theorem eX5_share_136 : decode cX5_share 136 = .ok (.invokestatic 115, 3) ∧ 136 + 3 = 139 := ⟨by decide +kernel, rfl⟩
theorem eX5_share_139 : decode cX5_share 139 = .ok (.imul, 1) ∧ 139 + 1 = 140 := ⟨by decide +kernel, rfl⟩
theorem eX5_share_140 : decode cX5_share 140 = .ok (.getstatic 219, 3) ∧ 140 + 3 = 143 := ⟨by decide +kernel, rfl⟩
theorem eX5_share_143 : decode cX5_share 143 = .ok (.iload 5, 2) ∧ 143 + 2 = 145 := ⟨by decide +kernel, rfl⟩
theorem eX5_share_145 : decode cX5_share 145 = .ok (.iload 8, 2) ∧ 145 + 2 = 147 := ⟨by decide +kernel, rfl⟩
theorem eX5_share_147 : decode cX5_share 147 = .ok (.isub, 1) ∧ 147 + 1 = 148 := ⟨by decide +kernel, rfl⟩
theorem eX5_share_148 : decode cX5_share 148 = .ok (.invokestatic 115, 3) ∧ 148 + 3 = 151 := ⟨by decide +kernel, rfl⟩
theorem eX5_share_151 : decode cX5_share 151 = .ok (.imul, 1) ∧ 151 + 1 = 152 := ⟨by decide +kernel, rfl⟩
theorem eX5_share_152 : decode cX5_share 152 = .ok (.iadd, 1) ∧ 152 + 1 = 153 := ⟨by decide +kernel, rfl⟩
theorem eX5_share_153 : decode cX5_share 153 = .ok (.istore 6, 2) ∧ 153 + 2 = 155 := ⟨by decide +kernel, rfl⟩
theorem eX5_share_155 : decode cX5_share 155 = .ok (.iinc 7 1, 3) ∧ 155 + 3 = 158 := ⟨by decide +kernel, rfl⟩
theorem eX5_share_158 : decode cX5_share 158 = .ok (.goto (-86), 3) ∧ ((158 : Nat) : Int) + (-86) = ((72 : Nat) : Int) := ⟨by decide +kernel, by decide⟩
theorem eX5_share_161 : decode cX5_share 161 = .ok (.iload 6, 2) ∧ 161 + 2 = 163 := ⟨by decide +kernel, rfl⟩
theorem eX5_share_163 : decode cX5_share 163 = .ok (.getstatic 219, 3) ∧ 163 + 3 = 166 := ⟨by decide +kernel, rfl⟩
theorem eX5_share_166 : decode cX5_share 166 = .ok (.iload 5, 2) ∧ 166 + 2 = 168 := ⟨by decide +kernel, rfl⟩
theorem eX5_share_168 : decode cX5_share 168 = .ok (.iconst 1, 1) ∧ 168 + 1 = 169 := ⟨by decide +kernel, rfl⟩
theorem eX5_share_169 : decode cX5_share 169 = .ok (.iadd, 1) ∧ 169 + 1 = 170 := ⟨by decide +kernel, rfl⟩
theorem eX5_share_170 : decode cX5_share 170 = .ok (.invokestatic 115, 3) ∧ 170 + 3 = 173 := ⟨by decide +kernel, rfl⟩
theorem eX5_share_173 : decode cX5_share 173 = .ok (.iload_n 2, 1) ∧ 173 + 1 = 174 := ⟨by decide +kernel, rfl⟩
theorem eX5_share_174 : decode cX5_share 174 = .ok (.invokestatic 203, 3) ∧ 174 + 3 = 177 := ⟨by decide +kernel, rfl⟩
theorem eX5_share_177 : decode cX5_share 177 = .ok (.ireturn, 1) := by decide +kernel
theorem eX5_rests_0 : decode cX5_rests 0 = .ok (.aload_n 0, 1) ∧ 0 + 1 = 1 := ⟨by decide +kernel, rfl⟩
theorem eX5_rests_1 : decode cX5_rests 1 = .ok (.getfield 19, 3) ∧ 1 + 3 = 4 := ⟨by decide +kernel, rfl⟩
theorem eX5_rests_4 : decode cX5_rests 4 = .ok (.iload_n 1, 1) ∧ 4 + 1 = 5 := ⟨by decide +kernel, rfl⟩
theorem eX5_rests_5 : decode cX5_rests 5 = .ok (.invokevirtual 95, 3) ∧ 5 + 3 = 8 := ⟨by decide +kernel, rfl⟩
theorem eX5_rests_8 : decode cX5_rests 8 = .ok (.ifCond .eq 14, 3) ∧ ((8 : Nat) : Int) + 14 = ((22 : Nat) : Int) ∧ 8 + 3 = 11 := ⟨by decide +kernel, by decide, rfl⟩
theorem eX5_rests_11 : decode cX5_rests 11 = .ok (.aload_n 0, 1) ∧ 11 + 1 = 12 := ⟨by decide +kernel, rfl⟩
theorem eX5_rests_12 : decode cX5_rests 12 = .ok (.getfield 19, 3) ∧ 12 + 3 = 15 := ⟨by decide +kernel, rfl⟩
theorem eX5_rests_15 : decode cX5_rests 15 = .ok (.iload_n 2, 1) ∧ 15 + 1 = 16 := ⟨by decide +kernel, rfl⟩
theorem eX5_rests_16 : decode cX5_rests 16 = .ok (.invokevirtual 95, 3) ∧ 16 + 3 = 19 := ⟨by decide +kernel, rfl⟩
theorem eX5_rests_19 : decode cX5_rests 19 = .ok (.ifCond .ne 5, 3) ∧ ((19 : Nat) : Int) + 5 = ((24 : Nat) : Int) ∧ 19 + 3 = 22 := ⟨by decide +kernel, by decide, rfl⟩
theorem eX5_rests_22 : decode cX5_rests 22 = .ok (.iconst (-1), 1) ∧ 22 + 1 = 23 := ⟨by decide +kernel, rfl⟩
theorem eX5_rests_23 : decode cX5_rests 23 = .ok (.ireturn, 1) := by decide +kernel
theorem eX5_rests_24 : decode cX5_rests 24 = .ok (.iload_n 1, 1) ∧ 24 + 1 = 25 := ⟨by decide +kernel, rfl⟩
theorem eX5_rests_25 : decode cX5_rests 25 = .ok (.iload_n 2, 1) ∧ 25 + 1 = 26 := ⟨by decide +kernel, rfl⟩
theorem eX5_rests_26 : decode cX5_rests 26 = .ok (.if_icmp .eq 12, 3) ∧ ((26 : Nat) : Int) + 12 = ((38 : Nat) : Int) ∧ 26 + 3 = 29 := ⟨by decide +kernel, by decide, rfl⟩
theorem eX5_rests_29 : decode cX5_rests 29 = .ok (.iload_n 3, 1) ∧ 29 + 1 = 30 := ⟨by decide +kernel, rfl⟩
theorem eX5_rests_30 : decode cX5_rests 30 = .ok (.ifCond .lt 8, 3) ∧ ((30 : Nat) : Int) + 8 = ((38 : Nat) : Int) ∧ 30 + 3 = 33 := ⟨by decide +kernel, by decide, rfl⟩
theorem eX5_rests_33 : decode cX5_rests 33 = .ok (.iload_n 3, 1) ∧ 33 + 1 = 34 := ⟨by decide +kernel, rfl⟩
theorem eX5_rests_34 : decode cX5_rests 34 = .ok (.iconst 1, 1) ∧ 34 + 1 = 35 := ⟨by decide +kernel, rfl⟩
theorem eX5_rests_35 : decode cX5_rests 35 = .ok (.if_icmp .le 6, 3) ∧ ((35 : Nat) : Int) + 6 = ((41 : Nat) : Int) ∧ 35 + 3 = 38 := ⟨by decide +kernel, by decide, rfl⟩
theorem eX5_rests_38 : decode cX5_rests 38 = .ok (.bipush (-2), 2) ∧ 38 + 2 = 40 := ⟨by decide +kernel, rfl⟩
theorem eX5_rests_40 : decode cX5_rests 40 = .ok (.ireturn, 1) := by decide +kernel
theorem eX5_rests_41 : decode cX5_rests 41 = .ok (.aload_n 0, 1) ∧ 41 + 1 = 42 := ⟨by decide +kernel, rfl⟩
theorem eX5_rests_42 : decode cX5_rests 42 = .ok (.getfield 26, 3) ∧ 42 + 3 = 45 := ⟨by decide +kernel, rfl⟩
theorem eX5_rests_45 : decode cX5_rests 45 = .ok (.iload_n 1, 1) ∧ 45 + 1 = 46 := ⟨by decide +kernel, rfl⟩
theorem eX5_rests_46 : decode cX5_rests 46 = .ok (.invokevirtual 102, 3) ∧ 46 + 3 = 49 := ⟨by decide +kernel, rfl⟩
theorem eX5_rests_49 : decode cX5_rests 49 = .ok (.ifCond .ne 14, 3) ∧ ((49 : Nat) : Int) + 14 = ((63 : Nat) : Int) ∧ 49 + 3 = 52 := ⟨by decide +kernel, by decide, rfl⟩
theorem eX5_rests_52 : decode cX5_rests 52 = .ok (.aload_n 0, 1) ∧ 52 + 1 = 53 := ⟨by decide +kernel, rfl⟩
theorem eX5_rests_53 : decode cX5_rests 53 = .ok (.getfield 26, 3) ∧ 53 + 3 = 56 := ⟨by decide +kernel, rfl⟩
theorem eX5_rests_56 : decode cX5_rests 56 = .ok (.iload_n 2, 1) ∧ 56 + 1 = 57 := ⟨by decide +kernel, rfl⟩
theorem eX5_rests_57 : decode cX5_rests 57 = .ok (.invokevirtual 102, 3) ∧ 57 + 3 = 60 := ⟨by decide +kernel, rfl⟩
theorem eX5_rests_60 : decode cX5_rests 60 = .ok (.ifCond .eq 6, 3) ∧ ((60 : Nat) : Int) + 6 = ((66 : Nat) : Int) ∧ 60 + 3 = 63 := ⟨by decide +kernel, by decide, rfl⟩
theorem eX5_rests_63 : decode cX5_rests 63 = .ok (.bipush (-3), 2) ∧ 63 + 2 = 65 := ⟨by decide +kernel, rfl⟩
theorem eX5_rests_65 : decode cX5_rests 65 = .ok (.ireturn, 1) := by decide +kernel
theorem eX5_rests_66 : decode cX5_rests 66 = .ok (.iconst 0, 1) ∧ 66 + 1 = 67 := ⟨by decide +kernel, rfl⟩
theorem eX5_rests_67 : decode cX5_rests 67 = .ok (.istore 4, 2) ∧ 67 + 2 = 69 := ⟨by decide +kernel, rfl⟩
theorem eX5_rests_69 : decode cX5_rests 69 = .ok (.bipush (-9), 2) ∧ 69 + 2 = 71 := ⟨by decide +kernel, rfl⟩
theorem eX5_rests_71 : decode cX5_rests 71 = .ok (.istore 5, 2) ∧ 71 + 2 = 73 := ⟨by decide +kernel, rfl⟩
theorem eX5_rests_73 : decode cX5_rests 73 = .ok (.iconst 0, 1) ∧ 73 + 1 = 74 := ⟨by decide +kernel, rfl⟩
theorem eX5_rests_74 : decode cX5_rests 74 = .ok (.istore 6, 2) ∧ 74 + 2 = 76 := ⟨by decide +kernel, rfl⟩
theorem eX5_rests_76 : decode cX5_rests 76 = .ok (.iload 6, 2) ∧ 76 + 2 = 78 := ⟨by decide +kernel, rfl⟩
theorem eX5_rests_78 : decode cX5_rests 78 = .ok (.iconst 4, 1) ∧ 78 + 1 = 79 := ⟨by decide +kernel, rfl⟩
theorem eX5_rests_79 : decode cX5_rests 79 = .ok (.if_icmp .ge 55, 3) ∧ ((79 : Nat) : Int) + 55 = ((134 : Nat) : Int) ∧ 79 + 3 = 82 := ⟨by decide +kernel, by decide, rfl⟩
theorem eX5_rests_82 : decode cX5_rests 82 = .ok (.aload_n 0, 1) ∧ 82 + 1 = 83 := ⟨by decide +kernel, rfl⟩
theorem eX5_rests_83 : decode cX5_rests 83 = .ok (.iload_n 1, 1) ∧ 83 + 1 = 84 := ⟨by decide +kernel, rfl⟩
theorem eX5_rests_84 : decode cX5_rests 84 = .ok (.iload_n 2, 1) ∧ 84 + 1 = 85 := ⟨by decide +kernel, rfl⟩
theorem eX5_rests_85 : decode cX5_rests 85 = .ok (.iload 6, 2) ∧ 85 + 2 = 87 := ⟨by decide +kernel, rfl⟩
theorem eX5_rests_87 : decode cX5_rests 87 = .ok (.iconst 1, 1) ∧ 87 + 1 = 88 := ⟨by decide +kernel, rfl⟩
theorem eX5_rests_88 : decode cX5_rests 88 = .ok (.ishr, 1) ∧ 88 + 1 = 89 := ⟨by decide +kernel, rfl⟩
theorem eX5_rests_89 : decode cX5_rests 89 = .ok (.iload 6, 2) ∧ 89 + 2 = 91 := ⟨by decide +kernel, rfl⟩
theorem eX5_rests_91 : decode cX5_rests 91 = .ok (.iconst 1, 1) ∧ 91 + 1 = 92 := ⟨by decide +kernel, rfl⟩
theorem eX5_rests_92 : decode cX5_rests 92 = .ok (.iand, 1) ∧ 92 + 1 = 93 := ⟨by decide +kernel, rfl⟩
theorem eX5_rests_93 : decode cX5_rests 93 = .ok (.invokevirtual 222, 3) ∧ 93 + 3 = 96 := ⟨by decide +kernel, rfl⟩
theorem eX5_rests_96 : decode cX5_rests 96 = .ok (.ifCond .eq 32, 3) ∧ ((96 : Nat) : Int) + 32 = ((128 : Nat) : Int) ∧ 96 + 3 = 99 := ⟨by decide +kernel, by decide, rfl⟩
theorem eX5_rests_99 : decode cX5_rests 99 = .ok (.iinc 4 1, 3) ∧ 99 + 3 = 102 := ⟨by decide +kernel, rfl⟩
theorem eX5_rests_102 : decode cX5_rests 102 = .ok (.iload 5, 2) ∧ 102 + 2 = 104 := ⟨by decide +kernel, rfl⟩
theorem eX5_rests_104 : decode cX5_rests 104 = .ok (.bipush (-9), 2) ∧ 104 + 2 = 106 := ⟨by decide +kernel, rfl⟩
theorem eX5_rests_106 : decode cX5_rests 106 = .ok (.if_icmp .ne 18, 3) ∧ ((106 : Nat) : Int) + 18 = ((124 : Nat) : Int) ∧ 106 + 3 = 109 := ⟨by decide +kernel, by decide, rfl⟩
theorem eX5_rests_109 : decode cX5_rests 109 = .ok (.bipush 10, 2) ∧ 109 + 2 = 111 := ⟨by decide +kernel, rfl⟩
theorem eX5_rests_111 : decode cX5_rests 111 = .ok (.iload 6, 2) ∧ 111 + 2 = 113 := ⟨by decide +kernel, rfl⟩
theorem eX5_rests_113 : decode cX5_rests 113 = .ok (.iconst 1, 1) ∧ 113 + 1 = 114 := ⟨by decide +kernel, rfl⟩
theorem eX5_rests_114 : decode cX5_rests 114 = .ok (.ishr, 1) ∧ 114 + 1 = 115 := ⟨by decide +kernel, rfl⟩
theorem eX5_rests_115 : decode cX5_rests 115 = .ok (.imul, 1) ∧ 115 + 1 = 116 := ⟨by decide +kernel, rfl⟩
theorem eX5_rests_116 : decode cX5_rests 116 = .ok (.iload 6, 2) ∧ 116 + 2 = 118 := ⟨by decide +kernel, rfl⟩
theorem eX5_rests_118 : decode cX5_rests 118 = .ok (.iconst 1, 1) ∧ 118 + 1 = 119 := ⟨by decide +kernel, rfl⟩
theorem eX5_rests_119 : decode cX5_rests 119 = .ok (.iand, 1) ∧ 119 + 1 = 120 := ⟨by decide +kernel, rfl⟩
theorem eX5_rests_120 : decode cX5_rests 120 = .ok (.iadd, 1) ∧ 120 + 1 = 121 := ⟨by decide +kernel, rfl⟩
theorem eX5_rests_121 : decode cX5_rests 121 = .ok (.goto 5, 3) ∧ ((121 : Nat) : Int) + 5 = ((126 : Nat) : Int) := ⟨by decide +kernel, by decide⟩
theorem eX5_rests_124 : decode cX5_rests 124 = .ok (.iload 5, 2) ∧ 124 + 2 = 126 := ⟨by decide +kernel, rfl⟩
theorem eX5_rests_126 : decode cX5_rests 126 = .ok (.istore 5, 2) ∧ 126 + 2 = 128 := ⟨by decide +kernel, rfl⟩
theorem eX5_rests_128 : decode cX5_rests 128 = .ok (.iinc 6 1, 3) ∧ 128 + 3 = 131 := ⟨by decide +kernel, rfl⟩
theorem eX5_rests_131 : decode cX5_rests 131 = .ok (.goto (-55), 3) ∧ ((131 : Nat) : Int) + (-55) = ((76 : Nat) : Int) := ⟨by decide +kernel, by decide⟩
theorem eX5_rests_134 : decode cX5_rests 134 = .ok (.iload_n 3, 1) ∧ 134 + 1 = 135 := ⟨by decide +kernel, rfl⟩
theorem eX5_rests_135 : decode cX5_rests 135 = .ok (.ifCond .ne 8, 3) ∧ ((135 : Nat) : Int) + 8 = ((143 : Nat) : Int) ∧ 135 + 3 = 138 := ⟨by decide +kernel, by decide, rfl⟩
theorem eX5_rests_138 : decode cX5_rests 138 = .ok (.iload 4, 2) ∧ 138 + 2 = 140 := ⟨by decide +kernel, rfl⟩
theorem eX5_rests_140 : decode cX5_rests 140 = .ok (.goto 5, 3) ∧ ((140 : Nat) : Int) + 5 = ((145 : Nat) : Int) := ⟨by decide +kernel, by decide⟩
theorem eX5_rests_143 : decode cX5_rests 143 = .ok (.iload 5, 2) ∧ 143 + 2 = 145 := ⟨by decide +kernel, rfl⟩
theorem eX5_rests_145 : decode cX5_rests 145 = .ok (.ireturn, 1) := by decide +kernel
theorem eX5_falls_0 : decode cX5_falls 0 = .ok (.iload_n 1, 1) ∧ 0 + 1 = 1 := ⟨by decide +kernel, rfl⟩
theorem eX5_falls_1 : decode cX5_falls 1 = .ok (.iload_n 2, 1) ∧ 1 + 1 = 2 := ⟨by decide +kernel, rfl⟩
theorem eX5_falls_2 : decode cX5_falls 2 = .ok (.invokestatic 168, 3) ∧ 2 + 3 = 5 := ⟨by decide +kernel, rfl⟩
theorem eX5_falls_5 : decode cX5_falls 5 = .ok (.ifCond .eq 13, 3) ∧ ((5 : Nat) : Int) + 13 = ((18 : Nat) : Int) ∧ 5 + 3 = 8 := ⟨by decide +kernel, by decide, rfl⟩
theorem eX5_falls_8 : decode cX5_falls 8 = .ok (.iload_n 3, 1) ∧ 8 + 1 = 9 := ⟨by decide +kernel, rfl⟩
theorem eX5_falls_9 : decode cX5_falls 9 = .ok (.ifCond .lt 9, 3) ∧ ((9 : Nat) : Int) + 9 = ((18 : Nat) : Int) ∧ 9 + 3 = 12 := ⟨by decide +kernel, by decide, rfl⟩
theorem eX5_falls_12 : decode cX5_falls 12 = .ok (.iload_n 3, 1) ∧ 12 + 1 = 13 := ⟨by decide +kernel, rfl⟩
theorem eX5_falls_13 : decode cX5_falls 13 = .ok (.bipush 10, 2) ∧ 13 + 2 = 15 := ⟨by decide +kernel, rfl⟩
theorem eX5_falls_15 : decode cX5_falls 15 = .ok (.if_icmp .le 6, 3) ∧ ((15 : Nat) : Int) + 6 = ((21 : Nat) : Int) ∧ 15 + 3 = 18 := ⟨by decide +kernel, by decide, rfl⟩
theorem eX5_falls_18 : decode cX5_falls 18 = .ok (.bipush (-2), 2) ∧ 18 + 2 = 20 := ⟨by decide +kernel, rfl⟩
theorem eX5_falls_20 : decode cX5_falls 20 = .ok (.ireturn, 1) := by decide +kernel
theorem eX5_falls_21 : decode cX5_falls 21 = .ok (.aload_n 0, 1) ∧ 21 + 1 = 22 := ⟨by decide +kernel, rfl⟩
theorem eX5_falls_22 : decode cX5_falls 22 = .ok (.iload_n 1, 1) ∧ 22 + 1 = 23 := ⟨by decide +kernel, rfl⟩
theorem eX5_falls_23 : decode cX5_falls 23 = .ok (.iload_n 2, 1) ∧ 23 + 1 = 24 := ⟨by decide +kernel, rfl⟩
theorem eX5_falls_24 : decode cX5_falls 24 = .ok (.invokevirtual 226, 3) ∧ 24 + 3 = 27 := ⟨by decide +kernel, rfl⟩
theorem eX5_falls_27 : decode cX5_falls 27 = .ok (.ifCond .ne 6, 3) ∧ ((27 : Nat) : Int) + 6 = ((33 : Nat) : Int) ∧ 27 + 3 = 30 := ⟨by decide +kernel, by decide, rfl⟩
theorem eX5_falls_30 : decode cX5_falls 30 = .ok (.bipush (-3), 2) ∧ 30 + 2 = 32 := ⟨by decide +kernel, rfl⟩
theorem eX5_falls_32 : decode cX5_falls 32 = .ok (.ireturn, 1) := by decide +kernel
theorem eX5_falls_33 : decode cX5_falls 33 = .ok (.iconst 0, 1) ∧ 33 + 1 = 34 := ⟨by decide +kernel, rfl⟩
theorem eX5_falls_34 : decode cX5_falls 34 = .ok (.istore 5, 2) ∧ 34 + 2 = 36 := ⟨by decide +kernel, rfl⟩
theorem eX5_falls_36 : decode cX5_falls 36 = .ok (.iconst 0, 1) ∧ 36 + 1 = 37 := ⟨by decide +kernel, rfl⟩
theorem eX5_falls_37 : decode cX5_falls 37 = .ok (.istore 6, 2) ∧ 37 + 2 = 39 := ⟨by decide +kernel, rfl⟩
theorem eX5_falls_39 : decode cX5_falls 39 = .ok (.iload 6, 2) ∧ 39 + 2 = 41 := ⟨by decide +kernel, rfl⟩
theorem eX5_falls_41 : decode cX5_falls 41 = .ok (.iconst 1, 1) ∧ 41 + 1 = 42 := ⟨by decide +kernel, rfl⟩
theorem eX5_falls_42 : decode cX5_falls 42 = .ok (.iload_n 1, 1) ∧ 42 + 1 = 43 := ⟨by decide +kernel, rfl⟩
theorem eX5_falls_43 : decode cX5_falls 43 = .ok (.ishl, 1) ∧ 43 + 1 = 44 := ⟨by decide +kernel, rfl⟩
theorem eX5_falls_44 : decode cX5_falls 44 = .ok (.if_icmp .ge 43, 3) ∧ ((44 : Nat) : Int) + 43 = ((87 : Nat) : Int) ∧ 44 + 3 = 47 := ⟨by decide +kernel, by decide, rfl⟩
theorem eX5_falls_47 : decode cX5_falls 47 = .ok (.aload_n 0, 1) ∧ 47 + 1 = 48 := ⟨by decide +kernel, rfl⟩
theorem eX5_falls_48 : decode cX5_falls 48 = .ok (.iload_n 1, 1) ∧ 48 + 1 = 49 := ⟨by decide +kernel, rfl⟩
theorem eX5_falls_49 : decode cX5_falls 49 = .ok (.iload_n 2, 1) ∧ 49 + 1 = 50 := ⟨by decide +kernel, rfl⟩
theorem eX5_falls_50 : decode cX5_falls 50 = .ok (.iload_n 3, 1) ∧ 50 + 1 = 51 := ⟨by decide +kernel, rfl⟩
theorem eX5_falls_51 : decode cX5_falls 51 = .ok (.iload 6, 2) ∧ 51 + 2 = 53 := ⟨by decide +kernel, rfl⟩
theorem eX5_falls_53 : decode cX5_falls 53 = .ok (.invokevirtual 229, 3) ∧ 53 + 3 = 56 := ⟨by decide +kernel, rfl⟩
theorem eX5_falls_56 : decode cX5_falls 56 = .ok (.istore 7, 2) ∧ 56 + 2 = 58 := ⟨by decide +kernel, rfl⟩
theorem eX5_falls_58 : decode cX5_falls 58 = .ok (.iload 7, 2) ∧ 58 + 2 = 60 := ⟨by decide +kernel, rfl⟩
theorem eX5_falls_60 : decode cX5_falls 60 = .ok (.ifCond .le 21, 3) ∧ ((60 : Nat) : Int) + 21 = ((81 : Nat) : Int) ∧ 60 + 3 = 63 := ⟨by decide +kernel, by decide, rfl⟩
theorem eX5_falls_63 : decode cX5_falls 63 = .ok (.aload_n 0, 1) ∧ 63 + 1 = 64 := ⟨by decide +kernel, rfl⟩
theorem eX5_falls_64 : decode cX5_falls 64 = .ok (.iload_n 1, 1) ∧ 64 + 1 = 65 := ⟨by decide +kernel, rfl⟩
theorem eX5_falls_65 : decode cX5_falls 65 = .ok (.iload_n 2, 1) ∧ 65 + 1 = 66 := ⟨by decide +kernel, rfl⟩
theorem eX5_falls_66 : decode cX5_falls 66 = .ok (.iload 6, 2) ∧ 66 + 2 = 68 := ⟨by decide +kernel, rfl⟩
theorem eX5_falls_68 : decode cX5_falls 68 = .ok (.invokevirtual 233, 3) ∧ 68 + 3 = 71 := ⟨by decide +kernel, rfl⟩
theorem eX5_falls_71 : decode cX5_falls 71 = .ok (.ifCond .eq 10, 3) ∧ ((71 : Nat) : Int) + 10 = ((81 : Nat) : Int) ∧ 71 + 3 = 74 := ⟨by decide +kernel, by decide, rfl⟩
theorem eX5_falls_74 : decode cX5_falls 74 = .ok (.iload 5, 2) ∧ 74 + 2 = 76 := ⟨by decide +kernel, rfl⟩
theorem eX5_falls_76 : decode cX5_falls 76 = .ok (.iload 7, 2) ∧ 76 + 2 = 78 := ⟨by decide +kernel, rfl⟩
theorem eX5_falls_78 : decode cX5_falls 78 = .ok (.iadd, 1) ∧ 78 + 1 = 79 := ⟨by decide +kernel, rfl⟩
theorem eX5_falls_79 : decode cX5_falls 79 = .ok (.istore 5, 2) ∧ 79 + 2 = 81 := ⟨by decide +kernel, rfl⟩
theorem eX5_falls_81 : decode cX5_falls 81 = .ok (.iinc 6 1, 3) ∧ 81 + 3 = 84 := ⟨by decide +kernel, rfl⟩
theorem eX5_falls_84 : decode cX5_falls 84 = .ok (.goto (-45), 3) ∧ ((84 : Nat) : Int) + (-45) = ((39 : Nat) : Int) := ⟨by decide +kernel, by decide⟩
theorem eX5_falls_87 : decode cX5_falls 87 = .ok (.iload 5, 2) ∧ 87 + 2 = 89 := ⟨by decide +kernel, rfl⟩
theorem eX5_falls_89 : decode cX5_falls 89 = .ok (.getstatic 237, 3) ∧ 89 + 3 = 92 := ⟨by decide +kernel, rfl⟩
theorem eX5_falls_92 : decode cX5_falls 92 = .ok (.iload_n 1, 1) ∧ 92 + 1 = 93 := ⟨by decide +kernel, rfl⟩
theorem eX5_falls_93 : decode cX5_falls 93 = .ok (.invokestatic 115, 3) ∧ 93 + 3 = 96 := ⟨by decide +kernel, rfl⟩
theorem eX5_falls_96 : decode cX5_falls 96 = .ok (.iload 4, 2) ∧ 96 + 2 = 98 := ⟨by decide +kernel, rfl⟩
theorem eX5_falls_98 : decode cX5_falls 98 = .ok (.invokestatic 203, 3) ∧ 98 + 3 = 101 := ⟨by decide +kernel, rfl⟩
theorem eX5_falls_101 : decode cX5_falls 101 = .ok (.ireturn, 1) := by decide +kernel
theorem eX5_seed_0 : decode cX5_seed 0 = .ok (.aload_n 0, 1) ∧ 0 + 1 = 1 := ⟨by decide +kernel, rfl⟩
theorem eX5_seed_1 : decode cX5_seed 1 = .ok (.getfield 69, 3) ∧ 1 + 3 = 4 := ⟨by decide +kernel, rfl⟩
theorem eX5_seed_4 : decode cX5_seed 4 = .ok (.lstore_n 3, 1) ∧ 4 + 1 = 5 := ⟨by decide +kernel, rfl⟩
theorem eX5_seed_5 : decode cX5_seed 5 = .ok (.aload_n 0, 1) ∧ 5 + 1 = 6 := ⟨by decide +kernel, rfl⟩
theorem eX5_seed_6 : decode cX5_seed 6 = .ok (.lload_n 1, 1) ∧ 6 + 1 = 7 := ⟨by decide +kernel, rfl⟩
theorem eX5_seed_7 : decode cX5_seed 7 = .ok (.putfield 69, 3) ∧ 7 + 3 = 10 := ⟨by decide +kernel, rfl⟩
theorem eX5_seed_10 : decode cX5_seed 10 = .ok (.lload_n 3, 1) ∧ 10 + 1 = 11 := ⟨by decide +kernel, rfl⟩
theorem eX5_seed_11 : decode cX5_seed 11 = .ok (.lreturn, 1) := by decide +kernel
theorem eX5_summers_0 : decode cX5_summers 0 = .ok (.iload_n 1, 1) ∧ 0 + 1 = 1 := ⟨by decide +kernel, rfl⟩
theorem eX5_summers_1 : decode cX5_summers 1 = .ok (.iconst 1, 1) ∧ 1 + 1 = 2 := ⟨by decide +kernel, rfl⟩
theorem eX5_summers_2 : decode cX5_summers 2 = .ok (.if_icmp .lt 9, 3) ∧ ((2 : Nat) : Int) + 9 = ((11 : Nat) : Int) ∧ 2 + 3 = 5 := ⟨by decide +kernel, by decide, rfl⟩
theorem eX5_summers_5 : decode cX5_summers 5 = .ok (.iload_n 1, 1) ∧ 5 + 1 = 6 := ⟨by decide +kernel, rfl⟩
theorem eX5_summers_6 : decode cX5_summers 6 = .ok (.bipush 30, 2) ∧ 6 + 2 = 8 := ⟨by decide +kernel, rfl⟩
theorem eX5_summers_8 : decode cX5_summers 8 = .ok (.if_icmp .le 6, 3) ∧ ((8 : Nat) : Int) + 6 = ((14 : Nat) : Int) ∧ 8 + 3 = 11 := ⟨by decide +kernel, by decide, rfl⟩
theorem eX5_summers_11 : decode cX5_summers 11 = .ok (.bipush (-2), 2) ∧ 11 + 2 = 13 := ⟨by decide +kernel, rfl⟩
theorem eX5_summers_13 : decode cX5_summers 13 = .ok (.ireturn, 1) := by decide +kernel
theorem eX5_summers_14 : decode cX5_summers 14 = .ok (.aload_n 0, 1) ∧ 14 + 1 = 15 := ⟨by decide +kernel, rfl⟩
theorem eX5_summers_15 : decode cX5_summers 15 = .ok (.getfield 30, 3) ∧ 15 + 3 = 18 := ⟨by decide +kernel, rfl⟩
theorem eX5_summers_18 : decode cX5_summers 18 = .ok (.aload_n 0, 1) ∧ 18 + 1 = 19 := ⟨by decide +kernel, rfl⟩
theorem eX5_summers_19 : decode cX5_summers 19 = .ok (.getfield 26, 3) ∧ 19 + 3 = 22 := ⟨by decide +kernel, rfl⟩
theorem eX5_summers_22 : decode cX5_summers 22 = .ok (.invokevirtual 165, 3) ∧ 22 + 3 = 25 := ⟨by decide +kernel, rfl⟩
theorem eX5_summers_25 : decode cX5_summers 25 = .ok (.iconst 0, 1) ∧ 25 + 1 = 26 := ⟨by decide +kernel, rfl⟩
theorem eX5_summers_26 : decode cX5_summers 26 = .ok (.istore_n 2, 1) ∧ 26 + 1 = 27 := ⟨by decide +kernel, rfl⟩
theorem eX5_summers_27 : decode cX5_summers 27 = .ok (.iconst 0, 1) ∧ 27 + 1 = 28 := ⟨by decide +kernel, rfl⟩
theorem eX5_summers_28 : decode cX5_summers 28 = .ok (.istore_n 3, 1) ∧ 28 + 1 = 29 := ⟨by decide +kernel, rfl⟩
theorem eX5_summers_29 : decode cX5_summers 29 = .ok (.iload_n 3, 1) ∧ 29 + 1 = 30 := ⟨by decide +kernel, rfl⟩
theorem eX5_summers_30 : decode cX5_summers 30 = .ok (.iload_n 1, 1) ∧ 30 + 1 = 31 := ⟨by decide +kernel, rfl⟩
theorem eX5_summers_31 : decode cX5_summers 31 = .ok (.if_icmp .ge 111, 3) ∧ ((31 : Nat) : Int) + 111 = ((142 : Nat) : Int) ∧ 31 + 3 = 34 := ⟨by decide +kernel, by decide, rfl⟩
theorem eX5_summers_34 : decode cX5_summers 34 = .ok (.aload_n 0, 1) ∧ 34 + 1 = 35 := ⟨by decide +kernel, rfl⟩
theorem eX5_summers_35 : decode cX5_summers 35 = .ok (.aload_n 0, 1) ∧ 35 + 1 = 36 := ⟨by decide +kernel, rfl⟩
theorem eX5_summers_36 : decode cX5_summers 36 = .ok (.getfield 69, 3) ∧ 36 + 3 = 39 := ⟨by decide +kernel, rfl⟩
theorem eX5_summers_39 : decode cX5_summers 39 = .ok (.ldc2_w 240, 3) ∧ 39 + 3 = 42 := ⟨by decide +kernel, rfl⟩
theorem eX5_summers_42 : decode cX5_summers 42 = .ok (.lmul, 1) ∧ 42 + 1 = 43 := ⟨by decide +kernel, rfl⟩
theorem eX5_summers_43 : decode cX5_summers 43 = .ok (.ldc2_w 242, 3) ∧ 43 + 3 = 46 := ⟨by decide +kernel, rfl⟩
theorem eX5_summers_46 : decode cX5_summers 46 = .ok (.ladd, 1) ∧ 46 + 1 = 47 := ⟨by decide +kernel, rfl⟩
theorem eX5_summers_47 : decode cX5_summers 47 = .ok (.putfield 69, 3) ∧ 47 + 3 = 50 := ⟨by decide +kernel, rfl⟩
theorem eX5_summers_50 : decode cX5_summers 50 = .ok (.aload_n 0, 1) ∧ 50 + 1 = 51 := ⟨by decide +kernel, rfl⟩
theorem eX5_summers_51 : decode cX5_summers 51 = .ok (.getfield 69, 3) ∧ 51 + 3 = 54 := ⟨by decide +kernel, rfl⟩
theorem eX5_summers_54 : decode cX5_summers 54 = .ok (.bipush 33, 2) ∧ 54 + 2 = 56 := ⟨by decide +kernel, rfl⟩
theorem eX5_summers_56 : decode cX5_summers 56 = .ok (.lushr, 1) ∧ 56 + 1 = 57 := ⟨by decide +kernel, rfl⟩
theorem eX5_summers_57 : decode cX5_summers 57 = .ok (.l2i, 1) ∧ 57 + 1 = 58 := ⟨by decide +kernel, rfl⟩
theorem eX5_summers_58 : decode cX5_summers 58 = .ok (.bipush 7, 2) ∧ 58 + 2 = 60 := ⟨by decide +kernel, rfl⟩
theorem eX5_summers_60 : decode cX5_summers 60 = .ok (.iand, 1) ∧ 60 + 1 = 61 := ⟨by decide +kernel, rfl⟩
theorem eX5_summers_61 : decode cX5_summers 61 = .ok (.istore 4, 2) ∧ 61 + 2 = 63 := ⟨by decide +kernel, rfl⟩
theorem eX5_summers_63 : decode cX5_summers 63 = .ok (.iload 4, 2) ∧ 63 + 2 = 65 := ⟨by decide +kernel, rfl⟩
theorem eX5_summers_65 : decode cX5_summers 65 = .ok (.bipush 6, 2) ∧ 65 + 2 = 67 := ⟨by decide +kernel, rfl⟩
theorem eX5_summers_67 : decode cX5_summers 67 = .ok (.if_icmp .ge 30, 3) ∧ ((67 : Nat) : Int) + 30 = ((97 : Nat) : Int) ∧ 67 + 3 = 70 := ⟨by decide +kernel, by decide, rfl⟩
theorem eX5_summers_70 : decode cX5_summers 70 = .ok (.iload_n 2, 1) ∧ 70 + 1 = 71 := ⟨by decide +kernel, rfl⟩
theorem eX5_summers_71 : decode cX5_summers 71 = .ok (.aload_n 0, 1) ∧ 71 + 1 = 72 := ⟨by decide +kernel, rfl⟩
theorem eX5_summers_72 : decode cX5_summers 72 = .ok (.getfield 19, 3) ∧ 72 + 3 = 75 := ⟨by decide +kernel, rfl⟩
theorem eX5_summers_75 : decode cX5_summers 75 = .ok (.aload_n 0, 1) ∧ 75 + 1 = 76 := ⟨by decide +kernel, rfl⟩
theorem eX5_summers_76 : decode cX5_summers 76 = .ok (.getfield 30, 3) ∧ 76 + 3 = 79 := ⟨by decide +kernel, rfl⟩
theorem eX5_summers_79 : decode cX5_summers 79 = .ok (.iload 4, 2) ∧ 79 + 2 = 81 := ⟨by decide +kernel, rfl⟩
theorem eX5_summers_81 : decode cX5_summers 81 = .ok (.invokevirtual 129, 3) ∧ 81 + 3 = 84 := ⟨by decide +kernel, rfl⟩
theorem eX5_summers_84 : decode cX5_summers 84 = .ok (.ifCond .eq 7, 3) ∧ ((84 : Nat) : Int) + 7 = ((91 : Nat) : Int) ∧ 84 + 3 = 87 := ⟨by decide +kernel, by decide, rfl⟩
theorem eX5_summers_87 : decode cX5_summers 87 = .ok (.iconst 1, 1) ∧ 87 + 1 = 88 := ⟨by decide +kernel, rfl⟩
theorem eX5_summers_88 : decode cX5_summers 88 = .ok (.goto 4, 3) ∧ ((88 : Nat) : Int) + 4 = ((92 : Nat) : Int) := ⟨by decide +kernel, by decide⟩
theorem eX5_summers_91 : decode cX5_summers 91 = .ok (.iconst 0, 1) ∧ 91 + 1 = 92 := ⟨by decide +kernel, rfl⟩
theorem eX5_summers_92 : decode cX5_summers 92 = .ok (.iadd, 1) ∧ 92 + 1 = 93 := ⟨by decide +kernel, rfl⟩
theorem eX5_summers_93 : decode cX5_summers 93 = .ok (.istore_n 2, 1) ∧ 93 + 1 = 94 := ⟨by decide +kernel, rfl⟩
theorem eX5_summers_94 : decode cX5_summers 94 = .ok (.goto 42, 3) ∧ ((94 : Nat) : Int) + 42 = ((136 : Nat) : Int) := ⟨by decide +kernel, by decide⟩
theorem eX5_summers_97 : decode cX5_summers 97 = .ok (.iload 4, 2) ∧ 97 + 2 = 99 := ⟨by decide +kernel, rfl⟩
theorem eX5_summers_99 : decode cX5_summers 99 = .ok (.bipush 6, 2) ∧ 99 + 2 = 101 := ⟨by decide +kernel, rfl⟩
theorem eX5_summers_101 : decode cX5_summers 101 = .ok (.if_icmp .ne 19, 3) ∧ ((101 : Nat) : Int) + 19 = ((120 : Nat) : Int) ∧ 101 + 3 = 104 := ⟨by decide +kernel, by decide, rfl⟩
theorem eX5_summers_104 : decode cX5_summers 104 = .ok (.aload_n 0, 1) ∧ 104 + 1 = 105 := ⟨by decide +kernel, rfl⟩
theorem eX5_summers_105 : decode cX5_summers 105 = .ok (.getfield 30, 3) ∧ 105 + 3 = 108 := ⟨by decide +kernel, rfl⟩
theorem eX5_summers_108 : decode cX5_summers 108 = .ok (.dup, 1) ∧ 108 + 1 = 109 := ⟨by decide +kernel, rfl⟩
theorem eX5_summers_109 : decode cX5_summers 109 = .ok (.getfield 133, 3) ∧ 109 + 3 = 112 := ⟨by decide +kernel, rfl⟩
theorem eX5_summers_112 : decode cX5_summers 112 = .ok (.iconst 1, 1) ∧ 112 + 1 = 113 := ⟨by decide +kernel, rfl⟩
theorem eX5_summers_113 : decode cX5_summers 113 = .ok (.iadd, 1) ∧ 113 + 1 = 114 := ⟨by decide +kernel, rfl⟩
theorem eX5_summers_114 : decode cX5_summers 114 = .ok (.putfield 133, 3) ∧ 114 + 3 = 117 := ⟨by decide +kernel, rfl⟩
theorem eX5_summers_117 : decode cX5_summers 117 = .ok (.goto 19, 3) ∧ ((117 : Nat) : Int) + 19 = ((136 : Nat) : Int) := ⟨by decide +kernel, by decide⟩
theorem eX5_summers_120 : decode cX5_summers 120 = .ok (.aload_n 0, 1) ∧ 120 + 1 = 121 := ⟨by decide +kernel, rfl⟩
theorem eX5_summers_121 : decode cX5_summers 121 = .ok (.getfield 30, 3) ∧ 121 + 3 = 124 := ⟨by decide +kernel, rfl⟩
theorem eX5_summers_124 : decode cX5_summers 124 = .ok (.iconst 0, 1) ∧ 124 + 1 = 125 := ⟨by decide +kernel, rfl⟩
theorem eX5_summers_125 : decode cX5_summers 125 = .ok (.putfield 133, 3) ∧ 125 + 3 = 128 := ⟨by decide +kernel, rfl⟩
theorem eX5_summers_128 : decode cX5_summers 128 = .ok (.aload_n 0, 1) ∧ 128 + 1 = 129 := ⟨by decide +kernel, rfl⟩
theorem eX5_summers_129 : decode cX5_summers 129 = .ok (.getfield 30, 3) ∧ 129 + 3 = 132 := ⟨by decide +kernel, rfl⟩
theorem eX5_summers_132 : decode cX5_summers 132 = .ok (.iconst 0, 1) ∧ 132 + 1 = 133 := ⟨by decide +kernel, rfl⟩
theorem eX5_summers_133 : decode cX5_summers 133 = .ok (.putfield 210, 3) ∧ 133 + 3 = 136 := ⟨by decide +kernel, rfl⟩
theorem eX5_summers_136 : decode cX5_summers 136 = .ok (.iinc 3 1, 3) ∧ 136 + 3 = 139 := ⟨by decide +kernel, rfl⟩
theorem eX5_summers_139 : decode cX5_summers 139 = .ok (.goto (-110), 3) ∧ ((139 : Nat) : Int) + (-110) = ((29 : Nat) : Int) := ⟨by decide +kernel, by decide⟩
theorem eX5_summers_142 : decode cX5_summers 142 = .ok (.iload_n 2, 1) ∧ 142 + 1 = 143 := ⟨by decide +kernel, rfl⟩
theorem eX5_summers_143 : decode cX5_summers 143 = .ok (.ireturn, 1) := by decide +kernel
theorem eX5_keep_0 : decode cX5_keep 0 = .ok (.aload_n 0, 1) ∧ 0 + 1 = 1 := ⟨by decide +kernel, rfl⟩
theorem eX5_keep_1 : decode cX5_keep 1 = .ok (.iload_n 1, 1) ∧ 1 + 1 = 2 := ⟨by decide +kernel, rfl⟩
theorem eX5_keep_2 : decode cX5_keep 2 = .ok (.invokevirtual 244, 3) ∧ 2 + 3 = 5 := ⟨by decide +kernel, rfl⟩
theorem eX5_keep_5 : decode cX5_keep 5 = .ok (.ifCond .ne 5, 3) ∧ ((5 : Nat) : Int) + 5 = ((10 : Nat) : Int) ∧ 5 + 3 = 8 := ⟨by decide +kernel, by decide, rfl⟩
theorem eX5_keep_8 : decode cX5_keep 8 = .ok (.iconst (-1), 1) ∧ 8 + 1 = 9 := ⟨by decide +kernel, rfl⟩
theorem eX5_keep_9 : decode cX5_keep 9 = .ok (.ireturn, 1) := by decide +kernel
theorem eX5_keep_10 : decode cX5_keep 10 = .ok (.aload_n 0, 1) ∧ 10 + 1 = 11 := ⟨by decide +kernel, rfl⟩
theorem eX5_keep_11 : decode cX5_keep 11 = .ok (.getfield 47, 3) ∧ 11 + 3 = 14 := ⟨by decide +kernel, rfl⟩
theorem eX5_keep_14 : decode cX5_keep 14 = .ok (.iload_n 1, 1) ∧ 14 + 1 = 15 := ⟨by decide +kernel, rfl⟩
theorem eX5_keep_15 : decode cX5_keep 15 = .ok (.aaload, 1) ∧ 15 + 1 = 16 := ⟨by decide +kernel, rfl⟩
theorem eX5_keep_16 : decode cX5_keep 16 = .ok (.astore_n 2, 1) ∧ 16 + 1 = 17 := ⟨by decide +kernel, rfl⟩
theorem eX5_keep_17 : decode cX5_keep 17 = .ok (.aload_n 2, 1) ∧ 17 + 1 = 18 := ⟨by decide +kernel, rfl⟩
theorem eX5_keep_18 : decode cX5_keep 18 = .ok (.ifnonnull 5, 3) ∧ ((18 : Nat) : Int) + 5 = ((23 : Nat) : Int) := ⟨by decide +kernel, by decide⟩
theorem eX5_keep_21 : decode cX5_keep 21 = .ok (.iconst (-1), 1) ∧ 21 + 1 = 22 := ⟨by decide +kernel, rfl⟩
theorem eX5_keep_22 : decode cX5_keep 22 = .ok (.ireturn, 1) := by decide +kernel
theorem eX5_keep_23 : decode cX5_keep 23 = .ok (.aload_n 2, 1) ∧ 23 + 1 = 24 := ⟨by decide +kernel, rfl⟩
theorem eX5_keep_24 : decode cX5_keep 24 = .ok (.aload_n 0, 1) ∧ 24 + 1 = 25 := ⟨by decide +kernel, rfl⟩
theorem eX5_keep_25 : decode cX5_keep 25 = .ok (.getfield 26, 3) ∧ 25 + 3 = 28 := ⟨by decide +kernel, rfl⟩
theorem eX5_keep_28 : decode cX5_keep 28 = .ok (.invokevirtual 165, 3) ∧ 28 + 3 = 31 := ⟨by decide +kernel, rfl⟩
theorem eX5_keep_31 : decode cX5_keep 31 = .ok (.aload_n 0, 1) ∧ 31 + 1 = 32 := ⟨by decide +kernel, rfl⟩
theorem eX5_keep_32 : decode cX5_keep 32 = .ok (.getfield 51, 3) ∧ 32 + 3 = 35 := ⟨by decide +kernel, rfl⟩
theorem eX5_keep_35 : decode cX5_keep 35 = .ok (.iload_n 1, 1) ∧ 35 + 1 = 36 := ⟨by decide +kernel, rfl⟩
theorem eX5_keep_36 : decode cX5_keep 36 = .ok (.iconst 1, 1) ∧ 36 + 1 = 37 := ⟨by decide +kernel, rfl⟩
theorem eX5_keep_37 : decode cX5_keep 37 = .ok (.bastore, 1) ∧ 37 + 1 = 38 := ⟨by decide +kernel, rfl⟩
theorem eX5_keep_38 : decode cX5_keep 38 = .ok (.aload_n 0, 1) ∧ 38 + 1 = 39 := ⟨by decide +kernel, rfl⟩
theorem eX5_keep_39 : decode cX5_keep 39 = .ok (.getfield 26, 3) ∧ 39 + 3 = 42 := ⟨by decide +kernel, rfl⟩
theorem eX5_keep_42 : decode cX5_keep 42 = .ok (.getfield 133, 3) ∧ 42 + 3 = 45 := ⟨by decide +kernel, rfl⟩
theorem eX5_keep_45 : decode cX5_keep 45 = .ok (.ireturn, 1) := by decide +kernel
theorem eX5_again_0 : decode cX5_again 0 = .ok (.aload_n 0, 1) ∧ 0 + 1 = 1 := ⟨by decide +kernel, rfl⟩
theorem eX5_again_1 : decode cX5_again 1 = .ok (.iload_n 1, 1) ∧ 1 + 1 = 2 := ⟨by decide +kernel, rfl⟩
theorem eX5_again_2 : decode cX5_again 2 = .ok (.invokevirtual 244, 3) ∧ 2 + 3 = 5 := ⟨by decide +kernel, rfl⟩
theorem eX5_again_5 : decode cX5_again 5 = .ok (.ifCond .ne 5, 3) ∧ ((5 : Nat) : Int) + 5 = ((10 : Nat) : Int) ∧ 5 + 3 = 8 := ⟨by decide +kernel, by decide, rfl⟩
theorem eX5_again_8 : decode cX5_again 8 = .ok (.iconst (-1), 1) ∧ 8 + 1 = 9 := ⟨by decide +kernel, rfl⟩
theorem eX5_again_9 : decode cX5_again 9 = .ok (.ireturn, 1) := by decide +kernel
theorem eX5_again_10 : decode cX5_again 10 = .ok (.aload_n 0, 1) ∧ 10 + 1 = 11 := ⟨by decide +kernel, rfl⟩
theorem eX5_again_11 : decode cX5_again 11 = .ok (.getfield 51, 3) ∧ 11 + 3 = 14 := ⟨by decide +kernel, rfl⟩
theorem eX5_again_14 : decode cX5_again 14 = .ok (.iload_n 1, 1) ∧ 14 + 1 = 15 := ⟨by decide +kernel, rfl⟩
theorem eX5_again_15 : decode cX5_again 15 = .ok (.baload, 1) ∧ 15 + 1 = 16 := ⟨by decide +kernel, rfl⟩
theorem eX5_again_16 : decode cX5_again 16 = .ok (.ifCond .ne 6, 3) ∧ ((16 : Nat) : Int) + 6 = ((22 : Nat) : Int) ∧ 16 + 3 = 19 := ⟨by decide +kernel, by decide, rfl⟩
theorem eX5_again_19 : decode cX5_again 19 = .ok (.bipush (-3), 2) ∧ 19 + 2 = 21 := ⟨by decide +kernel, rfl⟩
theorem eX5_again_21 : decode cX5_again 21 = .ok (.ireturn, 1) := by decide +kernel
theorem eX5_again_22 : decode cX5_again 22 = .ok (.aload_n 0, 1) ∧ 22 + 1 = 23 := ⟨by decide +kernel, rfl⟩
theorem eX5_again_23 : decode cX5_again 23 = .ok (.getfield 26, 3) ∧ 23 + 3 = 26 := ⟨by decide +kernel, rfl⟩
theorem eX5_again_26 : decode cX5_again 26 = .ok (.aload_n 0, 1) ∧ 26 + 1 = 27 := ⟨by decide +kernel, rfl⟩
theorem eX5_again_27 : decode cX5_again 27 = .ok (.getfield 47, 3) ∧ 27 + 3 = 30 := ⟨by decide +kernel, rfl⟩
theorem eX5_again_30 : decode cX5_again 30 = .ok (.iload_n 1, 1) ∧ 30 + 1 = 31 := ⟨by decide +kernel, rfl⟩
theorem eX5_again_31 : decode cX5_again 31 = .ok (.aaload, 1) ∧ 31 + 1 = 32 := ⟨by decide +kernel, rfl⟩
theorem eX5_again_32 : decode cX5_again 32 = .ok (.invokevirtual 165, 3) ∧ 32 + 3 = 35 := ⟨by decide +kernel, rfl⟩
theorem eX5_again_35 : decode cX5_again 35 = .ok (.aload_n 0, 1) ∧ 35 + 1 = 36 := ⟨by decide +kernel, rfl⟩
theorem eX5_again_36 : decode cX5_again 36 = .ok (.getfield 36, 3) ∧ 36 + 3 = 39 := ⟨by decide +kernel, rfl⟩
theorem eX5_again_39 : decode cX5_again 39 = .ok (.invokevirtual 89, 3) ∧ 39 + 3 = 42 := ⟨by decide +kernel, rfl⟩
theorem eX5_again_42 : decode cX5_again 42 = .ok (.aload_n 0, 1) ∧ 42 + 1 = 43 := ⟨by decide +kernel, rfl⟩
theorem eX5_again_43 : decode cX5_again 43 = .ok (.getfield 26, 3) ∧ 43 + 3 = 46 := ⟨by decide +kernel, rfl⟩
theorem eX5_again_46 : decode cX5_again 46 = .ok (.getfield 133, 3) ∧ 46 + 3 = 49 := ⟨by decide +kernel, rfl⟩
theorem eX5_again_49 : decode cX5_again 49 = .ok (.ireturn, 1) := by decide +kernel
theorem eX5_count_0 : decode cX5_count 0 = .ok (.iload_n 1, 1) ∧ 0 + 1 = 1 := ⟨by decide +kernel, rfl⟩
theorem eX5_count_1 : decode cX5_count 1 = .ok (.tableswitch 117 0 8 #[51, 59, 67, 75, 83, 91, 99, 104, 112], 51) := by decide +kernel
theorem eX5_count_52 : decode cX5_count 52 = .ok (.aload_n 0, 1) ∧ 52 + 1 = 53 := ⟨by decide +kernel, rfl⟩
theorem eX5_count_53 : decode cX5_count 53 = .ok (.getfield 10, 3) ∧ 53 + 3 = 56 := ⟨by decide +kernel, rfl⟩
theorem eX5_count_56 : decode cX5_count 56 = .ok (.getfield 77, 3) ∧ 56 + 3 = 59 := ⟨by decide +kernel, rfl⟩
theorem eX5_count_59 : decode cX5_count 59 = .ok (.ireturn, 1) := by decide +kernel
theorem eX5_count_60 : decode cX5_count 60 = .ok (.aload_n 0, 1) ∧ 60 + 1 = 61 := ⟨by decide +kernel, rfl⟩
theorem eX5_count_61 : decode cX5_count 61 = .ok (.getfield 19, 3) ∧ 61 + 3 = 64 := ⟨by decide +kernel, rfl⟩
theorem eX5_count_64 : decode cX5_count 64 = .ok (.getfield 92, 3) ∧ 64 + 3 = 67 := ⟨by decide +kernel, rfl⟩
theorem eX5_count_67 : decode cX5_count 67 = .ok (.ireturn, 1) := by decide +kernel
theorem eX5_count_68 : decode cX5_count 68 = .ok (.aload_n 0, 1) ∧ 68 + 1 = 69 := ⟨by decide +kernel, rfl⟩
theorem eX5_count_69 : decode cX5_count 69 = .ok (.getfield 19, 3) ∧ 69 + 3 = 72 := ⟨by decide +kernel, rfl⟩
theorem eX5_count_72 : decode cX5_count 72 = .ok (.getfield 247, 3) ∧ 72 + 3 = 75 := ⟨by decide +kernel, rfl⟩
theorem eX5_count_75 : decode cX5_count 75 = .ok (.ireturn, 1) := by decide +kernel
theorem eX5_count_76 : decode cX5_count 76 = .ok (.aload_n 0, 1) ∧ 76 + 1 = 77 := ⟨by decide +kernel, rfl⟩
theorem eX5_count_77 : decode cX5_count 77 = .ok (.getfield 26, 3) ∧ 77 + 3 = 80 := ⟨by decide +kernel, rfl⟩
theorem eX5_count_80 : decode cX5_count 80 = .ok (.getfield 133, 3) ∧ 80 + 3 = 83 := ⟨by decide +kernel, rfl⟩
theorem eX5_count_83 : decode cX5_count 83 = .ok (.ireturn, 1) := by decide +kernel
theorem eX5_count_84 : decode cX5_count 84 = .ok (.aload_n 0, 1) ∧ 84 + 1 = 85 := ⟨by decide +kernel, rfl⟩
theorem eX5_count_85 : decode cX5_count 85 = .ok (.getfield 26, 3) ∧ 85 + 3 = 88 := ⟨by decide +kernel, rfl⟩
theorem eX5_count_88 : decode cX5_count 88 = .ok (.getfield 136, 3) ∧ 88 + 3 = 91 := ⟨by decide +kernel, rfl⟩
theorem eX5_count_91 : decode cX5_count 91 = .ok (.ireturn, 1) := by decide +kernel
theorem eX5_count_92 : decode cX5_count 92 = .ok (.aload_n 0, 1) ∧ 92 + 1 = 93 := ⟨by decide +kernel, rfl⟩
theorem eX5_count_93 : decode cX5_count 93 = .ok (.getfield 26, 3) ∧ 93 + 3 = 96 := ⟨by decide +kernel, rfl⟩
theorem eX5_count_96 : decode cX5_count 96 = .ok (.getfield 210, 3) ∧ 96 + 3 = 99 := ⟨by decide +kernel, rfl⟩
theorem eX5_count_99 : decode cX5_count 99 = .ok (.ireturn, 1) := by decide +kernel
theorem eX5_count_100 : decode cX5_count 100 = .ok (.aload_n 0, 1) ∧ 100 + 1 = 101 := ⟨by decide +kernel, rfl⟩
theorem eX5_count_101 : decode cX5_count 101 = .ok (.invokevirtual 250, 3) ∧ 101 + 3 = 104 := ⟨by decide +kernel, rfl⟩
theorem eX5_count_104 : decode cX5_count 104 = .ok (.ireturn, 1) := by decide +kernel
theorem eX5_count_105 : decode cX5_count 105 = .ok (.aload_n 0, 1) ∧ 105 + 1 = 106 := ⟨by decide +kernel, rfl⟩
theorem eX5_count_106 : decode cX5_count 106 = .ok (.getfield 36, 3) ∧ 106 + 3 = 109 := ⟨by decide +kernel, rfl⟩
theorem eX5_count_109 : decode cX5_count 109 = .ok (.getfield 147, 3) ∧ 109 + 3 = 112 := ⟨by decide +kernel, rfl⟩
theorem eX5_count_112 : decode cX5_count 112 = .ok (.ireturn, 1) := by decide +kernel
theorem eX5_count_113 : decode cX5_count 113 = .ok (.aload_n 0, 1) ∧ 113 + 1 = 114 := ⟨by decide +kernel, rfl⟩
theorem eX5_count_114 : decode cX5_count 114 = .ok (.getfield 65, 3) ∧ 114 + 3 = 117 := ⟨by decide +kernel, rfl⟩
theorem eX5_count_117 : decode cX5_count 117 = .ok (.ireturn, 1) := by decide +kernel
theorem eX5_count_118 : decode cX5_count 118 = .ok (.bipush (-2), 2) ∧ 118 + 2 = 120 := ⟨by decide +kernel, rfl⟩
theorem eX5_count_120 : decode cX5_count 120 = .ok (.ireturn, 1) := by decide +kernel
theorem eX5_isChurch_0 : decode cX5_isChurch 0 = .ok (.iload_n 0, 1) ∧ 0 + 1 = 1 := ⟨by decide +kernel, rfl⟩
theorem eX5_isChurch_1 : decode cX5_isChurch 1 = .ok (.ifCond .lt 13, 3) ∧ ((1 : Nat) : Int) + 13 = ((14 : Nat) : Int) ∧ 1 + 3 = 4 := ⟨by decide +kernel, by decide, rfl⟩
theorem eX5_isChurch_4 : decode cX5_isChurch 4 = .ok (.iload_n 0, 1) ∧ 4 + 1 = 5 := ⟨by decide +kernel, rfl⟩
theorem eX5_isChurch_5 : decode cX5_isChurch 5 = .ok (.bipush 6, 2) ∧ 5 + 2 = 7 := ⟨by decide +kernel, rfl⟩
theorem eX5_isChurch_7 : decode cX5_isChurch 7 = .ok (.if_icmp .ge 7, 3) ∧ ((7 : Nat) : Int) + 7 = ((14 : Nat) : Int) ∧ 7 + 3 = 10 := ⟨by decide +kernel, by decide, rfl⟩
theorem eX5_isChurch_10 : decode cX5_isChurch 10 = .ok (.iconst 1, 1) ∧ 10 + 1 = 11 := ⟨by decide +kernel, rfl⟩
theorem eX5_isChurch_11 : decode cX5_isChurch 11 = .ok (.goto 4, 3) ∧ ((11 : Nat) : Int) + 4 = ((15 : Nat) : Int) := ⟨by decide +kernel, by decide⟩
theorem eX5_isChurch_14 : decode cX5_isChurch 14 = .ok (.iconst 0, 1) ∧ 14 + 1 = 15 := ⟨by decide +kernel, rfl⟩
theorem eX5_isChurch_15 : decode cX5_isChurch 15 = .ok (.ireturn, 1) := by decide +kernel
theorem eX5_isRoad_0 : decode cX5_isRoad 0 = .ok (.iload_n 0, 1) ∧ 0 + 1 = 1 := ⟨by decide +kernel, rfl⟩
theorem eX5_isRoad_1 : decode cX5_isRoad 1 = .ok (.ifCond .lt 12, 3) ∧ ((1 : Nat) : Int) + 12 = ((13 : Nat) : Int) ∧ 1 + 3 = 4 := ⟨by decide +kernel, by decide, rfl⟩
theorem eX5_isRoad_4 : decode cX5_isRoad 4 = .ok (.iload_n 0, 1) ∧ 4 + 1 = 5 := ⟨by decide +kernel, rfl⟩
theorem eX5_isRoad_5 : decode cX5_isRoad 5 = .ok (.iconst 5, 1) ∧ 5 + 1 = 6 := ⟨by decide +kernel, rfl⟩
theorem eX5_isRoad_6 : decode cX5_isRoad 6 = .ok (.if_icmp .ge 7, 3) ∧ ((6 : Nat) : Int) + 7 = ((13 : Nat) : Int) ∧ 6 + 3 = 9 := ⟨by decide +kernel, by decide, rfl⟩
theorem eX5_isRoad_9 : decode cX5_isRoad 9 = .ok (.iconst 1, 1) ∧ 9 + 1 = 10 := ⟨by decide +kernel, rfl⟩
theorem eX5_isRoad_10 : decode cX5_isRoad 10 = .ok (.goto 4, 3) ∧ ((10 : Nat) : Int) + 4 = ((14 : Nat) : Int) := ⟨by decide +kernel, by decide⟩
theorem eX5_isRoad_13 : decode cX5_isRoad 13 = .ok (.iconst 0, 1) ∧ 13 + 1 = 14 := ⟨by decide +kernel, rfl⟩
theorem eX5_isRoad_14 : decode cX5_isRoad 14 = .ok (.ireturn, 1) := by decide +kernel
theorem eX5_isSlot_0 : decode cX5_isSlot 0 = .ok (.iload_n 1, 1) ∧ 0 + 1 = 1 := ⟨by decide +kernel, rfl⟩
theorem eX5_isSlot_1 : decode cX5_isSlot 1 = .ok (.ifCond .lt 25, 3) ∧ ((1 : Nat) : Int) + 25 = ((26 : Nat) : Int) ∧ 1 + 3 = 4 := ⟨by decide +kernel, by decide, rfl⟩
theorem eX5_isSlot_4 : decode cX5_isSlot 4 = .ok (.iload_n 1, 1) ∧ 4 + 1 = 5 := ⟨by decide +kernel, rfl⟩
theorem eX5_isSlot_5 : decode cX5_isSlot 5 = .ok (.aload_n 0, 1) ∧ 5 + 1 = 6 := ⟨by decide +kernel, rfl⟩
theorem eX5_isSlot_6 : decode cX5_isSlot 6 = .ok (.getfield 47, 3) ∧ 6 + 3 = 9 := ⟨by decide +kernel, rfl⟩
theorem eX5_isSlot_9 : decode cX5_isSlot 9 = .ok (.arraylength, 1) ∧ 9 + 1 = 10 := ⟨by decide +kernel, rfl⟩
theorem eX5_isSlot_10 : decode cX5_isSlot 10 = .ok (.if_icmp .ge 16, 3) ∧ ((10 : Nat) : Int) + 16 = ((26 : Nat) : Int) ∧ 10 + 3 = 13 := ⟨by decide +kernel, by decide, rfl⟩
theorem eX5_isSlot_13 : decode cX5_isSlot 13 = .ok (.iload_n 1, 1) ∧ 13 + 1 = 14 := ⟨by decide +kernel, rfl⟩
theorem eX5_isSlot_14 : decode cX5_isSlot 14 = .ok (.aload_n 0, 1) ∧ 14 + 1 = 15 := ⟨by decide +kernel, rfl⟩
theorem eX5_isSlot_15 : decode cX5_isSlot 15 = .ok (.getfield 51, 3) ∧ 15 + 3 = 18 := ⟨by decide +kernel, rfl⟩
theorem eX5_isSlot_18 : decode cX5_isSlot 18 = .ok (.arraylength, 1) ∧ 18 + 1 = 19 := ⟨by decide +kernel, rfl⟩
theorem eX5_isSlot_19 : decode cX5_isSlot 19 = .ok (.if_icmp .ge 7, 3) ∧ ((19 : Nat) : Int) + 7 = ((26 : Nat) : Int) ∧ 19 + 3 = 22 := ⟨by decide +kernel, by decide, rfl⟩
theorem eX5_isSlot_22 : decode cX5_isSlot 22 = .ok (.iconst 1, 1) ∧ 22 + 1 = 23 := ⟨by decide +kernel, rfl⟩
theorem eX5_isSlot_23 : decode cX5_isSlot 23 = .ok (.goto 4, 3) ∧ ((23 : Nat) : Int) + 4 = ((27 : Nat) : Int) := ⟨by decide +kernel, by decide⟩
theorem eX5_isSlot_26 : decode cX5_isSlot 26 = .ok (.iconst 0, 1) ∧ 26 + 1 = 27 := ⟨by decide +kernel, rfl⟩
theorem eX5_isSlot_27 : decode cX5_isSlot 27 = .ok (.ireturn, 1) := by decide +kernel
theorem eX5_at_0 : decode cX5_at 0 = .ok (.aload_n 0, 1) ∧ 0 + 1 = 1 := ⟨by decide +kernel, rfl⟩
theorem eX5_at_1 : decode cX5_at 1 = .ok (.ifnull 19, 3) ∧ 1 + 3 = 4 := ⟨by decide +kernel, rfl⟩
theorem eX5_at_4 : decode cX5_at 4 = .ok (.iload_n 1, 1) ∧ 4 + 1 = 5 := ⟨by decide +kernel, rfl⟩
theorem eX5_at_5 : decode cX5_at 5 = .ok (.ifCond .lt 15, 3) ∧ ((5 : Nat) : Int) + 15 = ((20 : Nat) : Int) ∧ 5 + 3 = 8 := ⟨by decide +kernel, by decide, rfl⟩
theorem eX5_at_8 : decode cX5_at 8 = .ok (.iload_n 1, 1) ∧ 8 + 1 = 9 := ⟨by decide +kernel, rfl⟩
theorem eX5_at_9 : decode cX5_at 9 = .ok (.aload_n 0, 1) ∧ 9 + 1 = 10 := ⟨by decide +kernel, rfl⟩
theorem eX5_at_10 : decode cX5_at 10 = .ok (.arraylength, 1) ∧ 10 + 1 = 11 := ⟨by decide +kernel, rfl⟩
theorem eX5_at_11 : decode cX5_at 11 = .ok (.if_icmp .ge 9, 3) ∧ ((11 : Nat) : Int) + 9 = ((20 : Nat) : Int) ∧ 11 + 3 = 14 := ⟨by decide +kernel, by decide, rfl⟩
theorem eX5_at_14 : decode cX5_at 14 = .ok (.aload_n 0, 1) ∧ 14 + 1 = 15 := ⟨by decide +kernel, rfl⟩
theorem eX5_at_15 : decode cX5_at 15 = .ok (.iload_n 1, 1) ∧ 15 + 1 = 16 := ⟨by decide +kernel, rfl⟩
theorem eX5_at_16 : decode cX5_at 16 = .ok (.iaload, 1) ∧ 16 + 1 = 17 := ⟨by decide +kernel, rfl⟩
theorem eX5_at_17 : decode cX5_at 17 = .ok (.goto 4, 3) ∧ ((17 : Nat) : Int) + 4 = ((21 : Nat) : Int) := ⟨by decide +kernel, by decide⟩
theorem eX5_at_20 : decode cX5_at 20 = .ok (.iconst 0, 1) ∧ 20 + 1 = 21 := ⟨by decide +kernel, rfl⟩
theorem eX5_at_21 : decode cX5_at 21 = .ok (.ireturn, 1) := by decide +kernel
theorem eX5_isRow_0 : decode cX5_isRow 0 = .ok (.iload_n 0, 1) ∧ 0 + 1 = 1 := ⟨by decide +kernel, rfl⟩
theorem eX5_isRow_1 : decode cX5_isRow 1 = .ok (.iconst 1, 1) ∧ 1 + 1 = 2 := ⟨by decide +kernel, rfl⟩
theorem eX5_isRow_2 : decode cX5_isRow 2 = .ok (.if_icmp .lt 28, 3) ∧ ((2 : Nat) : Int) + 28 = ((30 : Nat) : Int) ∧ 2 + 3 = 5 := ⟨by decide +kernel, by decide, rfl⟩
theorem eX5_isRow_5 : decode cX5_isRow 5 = .ok (.iload_n 0, 1) ∧ 5 + 1 = 6 := ⟨by decide +kernel, rfl⟩
theorem eX5_isRow_6 : decode cX5_isRow 6 = .ok (.bipush 6, 2) ∧ 6 + 2 = 8 := ⟨by decide +kernel, rfl⟩
theorem eX5_isRow_8 : decode cX5_isRow 8 = .ok (.if_icmp .gt 22, 3) ∧ ((8 : Nat) : Int) + 22 = ((30 : Nat) : Int) ∧ 8 + 3 = 11 := ⟨by decide +kernel, by decide, rfl⟩
theorem eX5_isRow_11 : decode cX5_isRow 11 = .ok (.iload_n 1, 1) ∧ 11 + 1 = 12 := ⟨by decide +kernel, rfl⟩
theorem eX5_isRow_12 : decode cX5_isRow 12 = .ok (.ifCond .lt 18, 3) ∧ ((12 : Nat) : Int) + 18 = ((30 : Nat) : Int) ∧ 12 + 3 = 15 := ⟨by decide +kernel, by decide, rfl⟩
theorem eX5_isRow_15 : decode cX5_isRow 15 = .ok (.iload_n 1, 1) ∧ 15 + 1 = 16 := ⟨by decide +kernel, rfl⟩
theorem eX5_isRow_16 : decode cX5_isRow 16 = .ok (.getstatic 237, 3) ∧ 16 + 3 = 19 := ⟨by decide +kernel, rfl⟩
theorem eX5_isRow_19 : decode cX5_isRow 19 = .ok (.iload_n 0, 1) ∧ 19 + 1 = 20 := ⟨by decide +kernel, rfl⟩
theorem eX5_isRow_20 : decode cX5_isRow 20 = .ok (.invokestatic 115, 3) ∧ 20 + 3 = 23 := ⟨by decide +kernel, rfl⟩
theorem eX5_isRow_23 : decode cX5_isRow 23 = .ok (.if_icmp .ge 7, 3) ∧ ((23 : Nat) : Int) + 7 = ((30 : Nat) : Int) ∧ 23 + 3 = 26 := ⟨by decide +kernel, by decide, rfl⟩
theorem eX5_isRow_26 : decode cX5_isRow 26 = .ok (.iconst 1, 1) ∧ 26 + 1 = 27 := ⟨by decide +kernel, rfl⟩
theorem eX5_isRow_27 : decode cX5_isRow 27 = .ok (.goto 4, 3) ∧ ((27 : Nat) : Int) + 4 = ((31 : Nat) : Int) := ⟨by decide +kernel, by decide⟩
theorem eX5_isRow_30 : decode cX5_isRow 30 = .ok (.iconst 0, 1) ∧ 30 + 1 = 31 := ⟨by decide +kernel, rfl⟩
theorem eX5_isRow_31 : decode cX5_isRow 31 = .ok (.ireturn, 1) := by decide +kernel
theorem eX5_weddingInRow_0 : decode cX5_weddingInRow 0 = .ok (.getstatic 237, 3) ∧ 0 + 3 = 3 := ⟨by decide +kernel, rfl⟩
theorem eX5_weddingInRow_3 : decode cX5_weddingInRow 3 = .ok (.iload_n 0, 1) ∧ 3 + 1 = 4 := ⟨by decide +kernel, rfl⟩
theorem eX5_weddingInRow_4 : decode cX5_weddingInRow 4 = .ok (.iconst 1, 1) ∧ 4 + 1 = 5 := ⟨by decide +kernel, rfl⟩
theorem eX5_weddingInRow_5 : decode cX5_weddingInRow 5 = .ok (.isub, 1) ∧ 5 + 1 = 6 := ⟨by decide +kernel, rfl⟩
theorem eX5_weddingInRow_6 : decode cX5_weddingInRow 6 = .ok (.iload_n 2, 1) ∧ 6 + 1 = 7 := ⟨by decide +kernel, rfl⟩
theorem eX5_weddingInRow_7 : decode cX5_weddingInRow 7 = .ok (.isub, 1) ∧ 7 + 1 = 8 := ⟨by decide +kernel, rfl⟩
theorem eX5_weddingInRow_8 : decode cX5_weddingInRow 8 = .ok (.invokestatic 115, 3) ∧ 8 + 3 = 11 := ⟨by decide +kernel, rfl⟩
theorem eX5_weddingInRow_11 : decode cX5_weddingInRow 11 = .ok (.istore_n 3, 1) ∧ 11 + 1 = 12 := ⟨by decide +kernel, rfl⟩
theorem eX5_weddingInRow_12 : decode cX5_weddingInRow 12 = .ok (.iload_n 3, 1) ∧ 12 + 1 = 13 := ⟨by decide +kernel, rfl⟩
theorem eX5_weddingInRow_13 : decode cX5_weddingInRow 13 = .ok (.ifCond .le 14, 3) ∧ ((13 : Nat) : Int) + 14 = ((27 : Nat) : Int) ∧ 13 + 3 = 16 := ⟨by decide +kernel, by decide, rfl⟩
theorem eX5_weddingInRow_16 : decode cX5_weddingInRow 16 = .ok (.iload_n 1, 1) ∧ 16 + 1 = 17 := ⟨by decide +kernel, rfl⟩
theorem eX5_weddingInRow_17 : decode cX5_weddingInRow 17 = .ok (.iload_n 3, 1) ∧ 17 + 1 = 18 := ⟨by decide +kernel, rfl⟩
theorem eX5_weddingInRow_18 : decode cX5_weddingInRow 18 = .ok (.idiv, 1) ∧ 18 + 1 = 19 := ⟨by decide +kernel, rfl⟩
theorem eX5_weddingInRow_19 : decode cX5_weddingInRow 19 = .ok (.bipush 10, 2) ∧ 19 + 2 = 21 := ⟨by decide +kernel, rfl⟩
theorem eX5_weddingInRow_21 : decode cX5_weddingInRow 21 = .ok (.irem, 1) ∧ 21 + 1 = 22 := ⟨by decide +kernel, rfl⟩
theorem eX5_weddingInRow_22 : decode cX5_weddingInRow 22 = .ok (.iconst 1, 1) ∧ 22 + 1 = 23 := ⟨by decide +kernel, rfl⟩
theorem eX5_weddingInRow_23 : decode cX5_weddingInRow 23 = .ok (.isub, 1) ∧ 23 + 1 = 24 := ⟨by decide +kernel, rfl⟩
theorem eX5_weddingInRow_24 : decode cX5_weddingInRow 24 = .ok (.goto 4, 3) ∧ ((24 : Nat) : Int) + 4 = ((28 : Nat) : Int) := ⟨by decide +kernel, by decide⟩
theorem eX5_weddingInRow_27 : decode cX5_weddingInRow 27 = .ok (.iconst (-1), 1) ∧ 27 + 1 = 28 := ⟨by decide +kernel, rfl⟩
theorem eX5_weddingInRow_28 : decode cX5_weddingInRow 28 = .ok (.ireturn, 1) := by decide +kernel
theorem eX5_holdingNext_0 : decode cX5_holdingNext 0 = .ok (.iconst 0, 1) ∧ 0 + 1 = 1 := ⟨by decide +kernel, rfl⟩
theorem eX5_holdingNext_1 : decode cX5_holdingNext 1 = .ok (.istore_n 1, 1) ∧ 1 + 1 = 2 := ⟨by decide +kernel, rfl⟩
theorem eX5_holdingNext_2 : decode cX5_holdingNext 2 = .ok (.iconst 0, 1) ∧ 2 + 1 = 3 := ⟨by decide +kernel, rfl⟩
theorem eX5_holdingNext_3 : decode cX5_holdingNext 3 = .ok (.istore_n 2, 1) ∧ 3 + 1 = 4 := ⟨by decide +kernel, rfl⟩
theorem eX5_holdingNext_4 : decode cX5_holdingNext 4 = .ok (.iload_n 2, 1) ∧ 4 + 1 = 5 := ⟨by decide +kernel, rfl⟩
theorem eX5_holdingNext_5 : decode cX5_holdingNext 5 = .ok (.aload_n 0, 1) ∧ 5 + 1 = 6 := ⟨by decide +kernel, rfl⟩
theorem eX5_holdingNext_6 : decode cX5_holdingNext 6 = .ok (.getfield 19, 3) ∧ 6 + 3 = 9 := ⟨by decide +kernel, rfl⟩
theorem eX5_holdingNext_9 : decode cX5_holdingNext 9 = .ok (.getfield 92, 3) ∧ 9 + 3 = 12 := ⟨by decide +kernel, rfl⟩
theorem eX5_holdingNext_12 : decode cX5_holdingNext 12 = .ok (.if_icmp .ge 32, 3) ∧ ((12 : Nat) : Int) + 32 = ((44 : Nat) : Int) ∧ 12 + 3 = 15 := ⟨by decide +kernel, by decide, rfl⟩
theorem eX5_holdingNext_15 : decode cX5_holdingNext 15 = .ok (.aload_n 0, 1) ∧ 15 + 1 = 16 := ⟨by decide +kernel, rfl⟩
theorem eX5_holdingNext_16 : decode cX5_holdingNext 16 = .ok (.getfield 19, 3) ∧ 16 + 3 = 19 := ⟨by decide +kernel, rfl⟩
theorem eX5_holdingNext_19 : decode cX5_holdingNext 19 = .ok (.aload_n 0, 1) ∧ 19 + 1 = 20 := ⟨by decide +kernel, rfl⟩
theorem eX5_holdingNext_20 : decode cX5_holdingNext 20 = .ok (.getfield 26, 3) ∧ 20 + 3 = 23 := ⟨by decide +kernel, rfl⟩
theorem eX5_holdingNext_23 : decode cX5_holdingNext 23 = .ok (.iload_n 2, 1) ∧ 23 + 1 = 24 := ⟨by decide +kernel, rfl⟩
theorem eX5_holdingNext_24 : decode cX5_holdingNext 24 = .ok (.invokevirtual 105, 3) ∧ 24 + 3 = 27 := ⟨by decide +kernel, rfl⟩
theorem eX5_holdingNext_27 : decode cX5_holdingNext 27 = .ok (.bipush (-9), 2) ∧ 27 + 2 = 29 := ⟨by decide +kernel, rfl⟩
theorem eX5_holdingNext_29 : decode cX5_holdingNext 29 = .ok (.if_icmp .eq 9, 3) ∧ ((29 : Nat) : Int) + 9 = ((38 : Nat) : Int) ∧ 29 + 3 = 32 := ⟨by decide +kernel, by decide, rfl⟩
theorem eX5_holdingNext_32 : decode cX5_holdingNext 32 = .ok (.iload_n 1, 1) ∧ 32 + 1 = 33 := ⟨by decide +kernel, rfl⟩
theorem eX5_holdingNext_33 : decode cX5_holdingNext 33 = .ok (.iconst 1, 1) ∧ 33 + 1 = 34 := ⟨by decide +kernel, rfl⟩
theorem eX5_holdingNext_34 : decode cX5_holdingNext 34 = .ok (.iload_n 2, 1) ∧ 34 + 1 = 35 := ⟨by decide +kernel, rfl⟩
theorem eX5_holdingNext_35 : decode cX5_holdingNext 35 = .ok (.ishl, 1) ∧ 35 + 1 = 36 := ⟨by decide +kernel, rfl⟩
theorem eX5_holdingNext_36 : decode cX5_holdingNext 36 = .ok (.ior, 1) ∧ 36 + 1 = 37 := ⟨by decide +kernel, rfl⟩
theorem eX5_holdingNext_37 : decode cX5_holdingNext 37 = .ok (.istore_n 1, 1) ∧ 37 + 1 = 38 := ⟨by decide +kernel, rfl⟩
theorem eX5_holdingNext_38 : decode cX5_holdingNext 38 = .ok (.iinc 2 1, 3) ∧ 38 + 3 = 41 := ⟨by decide +kernel, rfl⟩
theorem eX5_holdingNext_41 : decode cX5_holdingNext 41 = .ok (.goto (-37), 3) ∧ ((41 : Nat) : Int) + (-37) = ((4 : Nat) : Int) := ⟨by decide +kernel, by decide⟩
theorem eX5_holdingNext_44 : decode cX5_holdingNext 44 = .ok (.iload_n 1, 1) ∧ 44 + 1 = 45 := ⟨by decide +kernel, rfl⟩
theorem eX5_holdingNext_45 : decode cX5_holdingNext 45 = .ok (.ireturn, 1) := by decide +kernel
theorem eX5_mostFrom_0 : decode cX5_mostFrom 0 = .ok (.aload_n 0, 1) ∧ 0 + 1 = 1 := ⟨by decide +kernel, rfl⟩
theorem eX5_mostFrom_1 : decode cX5_mostFrom 1 = .ok (.getfield 43, 3) ∧ 1 + 3 = 4 := ⟨by decide +kernel, rfl⟩
theorem eX5_mostFrom_4 : decode cX5_mostFrom 4 = .ok (.aload_n 0, 1) ∧ 4 + 1 = 5 := ⟨by decide +kernel, rfl⟩
theorem eX5_mostFrom_5 : decode cX5_mostFrom 5 = .ok (.getfield 19, 3) ∧ 5 + 3 = 8 := ⟨by decide +kernel, rfl⟩
theorem eX5_mostFrom_8 : decode cX5_mostFrom 8 = .ok (.aload_n 1, 1) ∧ 8 + 1 = 9 := ⟨by decide +kernel, rfl⟩
theorem eX5_mostFrom_9 : decode cX5_mostFrom 9 = .ok (.invokevirtual 148, 3) ∧ 9 + 3 = 12 := ⟨by decide +kernel, rfl⟩
theorem eX5_mostFrom_12 : decode cX5_mostFrom 12 = .ok (.aload_n 0, 1) ∧ 12 + 1 = 13 := ⟨by decide +kernel, rfl⟩
theorem eX5_mostFrom_13 : decode cX5_mostFrom 13 = .ok (.getfield 43, 3) ∧ 13 + 3 = 16 := ⟨by decide +kernel, rfl⟩
theorem eX5_mostFrom_16 : decode cX5_mostFrom 16 = .ok (.getfield 152, 3) ∧ 16 + 3 = 19 := ⟨by decide +kernel, rfl⟩
theorem eX5_mostFrom_19 : decode cX5_mostFrom 19 = .ok (.ireturn, 1) := by decide +kernel
theorem eX5_fraction_0 : decode cX5_fraction 0 = .ok (.iload_n 0, 1) ∧ 0 + 1 = 1 := ⟨by decide +kernel, rfl⟩
theorem eX5_fraction_1 : decode cX5_fraction 1 = .ok (.iload_n 1, 1) ∧ 1 + 1 = 2 := ⟨by decide +kernel, rfl⟩
theorem eX5_fraction_2 : decode cX5_fraction 2 = .ok (.invokestatic 253, 3) ∧ 2 + 3 = 5 := ⟨by decide +kernel, rfl⟩
theorem eX5_fraction_5 : decode cX5_fraction 5 = .ok (.istore_n 3, 1) ∧ 5 + 1 = 6 := ⟨by decide +kernel, rfl⟩
theorem eX5_fraction_6 : decode cX5_fraction 6 = .ok (.iload_n 3, 1) ∧ 6 + 1 = 7 := ⟨by decide +kernel, rfl⟩
theorem eX5_fraction_7 : decode cX5_fraction 7 = .ok (.iconst 1, 1) ∧ 7 + 1 = 8 := ⟨by decide +kernel, rfl⟩
theorem eX5_fraction_8 : decode cX5_fraction 8 = .ok (.if_icmp .ge 13, 3) ∧ ((8 : Nat) : Int) + 13 = ((21 : Nat) : Int) ∧ 8 + 3 = 11 := ⟨by decide +kernel, by decide, rfl⟩
theorem eX5_fraction_11 : decode cX5_fraction 11 = .ok (.iload_n 2, 1) ∧ 11 + 1 = 12 := ⟨by decide +kernel, rfl⟩
theorem eX5_fraction_12 : decode cX5_fraction 12 = .ok (.ifCond .eq 7, 3) ∧ ((12 : Nat) : Int) + 7 = ((19 : Nat) : Int) ∧ 12 + 3 = 15 := ⟨by decide +kernel, by decide, rfl⟩
theorem eX5_fraction_15 : decode cX5_fraction 15 = .ok (.iload_n 0, 1) ∧ 15 + 1 = 16 := ⟨by decide +kernel, rfl⟩
theorem eX5_fraction_16 : decode cX5_fraction 16 = .ok (.goto 4, 3) ∧ ((16 : Nat) : Int) + 4 = ((20 : Nat) : Int) := ⟨by decide +kernel, by decide⟩
theorem eX5_fraction_19 : decode cX5_fraction 19 = .ok (.iload_n 1, 1) ∧ 19 + 1 = 20 := ⟨by decide +kernel, rfl⟩
theorem eX5_fraction_20 : decode cX5_fraction 20 = .ok (.ireturn, 1) := by decide +kernel
theorem eX5_fraction_21 : decode cX5_fraction 21 = .ok (.iload_n 2, 1) ∧ 21 + 1 = 22 := ⟨by decide +kernel, rfl⟩
theorem eX5_fraction_22 : decode cX5_fraction 22 = .ok (.ifCond .eq 7, 3) ∧ ((22 : Nat) : Int) + 7 = ((29 : Nat) : Int) ∧ 22 + 3 = 25 := ⟨by decide +kernel, by decide, rfl⟩
theorem eX5_fraction_25 : decode cX5_fraction 25 = .ok (.iload_n 0, 1) ∧ 25 + 1 = 26 := ⟨by decide +kernel, rfl⟩
theorem eX5_fraction_26 : decode cX5_fraction 26 = .ok (.goto 4, 3) ∧ ((26 : Nat) : Int) + 4 = ((30 : Nat) : Int) := ⟨by decide +kernel, by decide⟩
theorem eX5_fraction_29 : decode cX5_fraction 29 = .ok (.iload_n 1, 1) ∧ 29 + 1 = 30 := ⟨by decide +kernel, rfl⟩
theorem eX5_fraction_30 : decode cX5_fraction 30 = .ok (.iload_n 3, 1) ∧ 30 + 1 = 31 := ⟨by decide +kernel, rfl⟩
theorem eX5_fraction_31 : decode cX5_fraction 31 = .ok (.idiv, 1) ∧ 31 + 1 = 32 := ⟨by decide +kernel, rfl⟩
theorem eX5_fraction_32 : decode cX5_fraction 32 = .ok (.ireturn, 1) := by decide +kernel
theorem eX5_greatestDivisor_0 : decode cX5_greatestDivisor 0 = .ok (.iload_n 0, 1) ∧ 0 + 1 = 1 := ⟨by decide +kernel, rfl⟩
theorem eX5_greatestDivisor_1 : decode cX5_greatestDivisor 1 = .ok (.istore_n 2, 1) ∧ 1 + 1 = 2 := ⟨by decide +kernel, rfl⟩
theorem eX5_greatestDivisor_2 : decode cX5_greatestDivisor 2 = .ok (.iload_n 1, 1) ∧ 2 + 1 = 3 := ⟨by decide +kernel, rfl⟩
theorem eX5_greatestDivisor_3 : decode cX5_greatestDivisor 3 = .ok (.istore_n 3, 1) ∧ 3 + 1 = 4 := ⟨by decide +kernel, rfl⟩
theorem eX5_greatestDivisor_4 : decode cX5_greatestDivisor 4 = .ok (.iconst 0, 1) ∧ 4 + 1 = 5 := ⟨by decide +kernel, rfl⟩
theorem eX5_greatestDivisor_5 : decode cX5_greatestDivisor 5 = .ok (.istore 4, 2) ∧ 5 + 2 = 7 := ⟨by decide +kernel, rfl⟩
theorem eX5_greatestDivisor_7 : decode cX5_greatestDivisor 7 = .ok (.iload 4, 2) ∧ 7 + 2 = 9 := ⟨by decide +kernel, rfl⟩
theorem eX5_greatestDivisor_9 : decode cX5_greatestDivisor 9 = .ok (.bipush 64, 2) ∧ 9 + 2 = 11 := ⟨by decide +kernel, rfl⟩
theorem eX5_greatestDivisor_11 : decode cX5_greatestDivisor 11 = .ok (.if_icmp .ge 23, 3) ∧ ((11 : Nat) : Int) + 23 = ((34 : Nat) : Int) ∧ 11 + 3 = 14 := ⟨by decide +kernel, by decide, rfl⟩
theorem eX5_greatestDivisor_14 : decode cX5_greatestDivisor 14 = .ok (.iload_n 3, 1) ∧ 14 + 1 = 15 := ⟨by decide +kernel, rfl⟩
theorem eX5_greatestDivisor_15 : decode cX5_greatestDivisor 15 = .ok (.ifCond .le 19, 3) ∧ ((15 : Nat) : Int) + 19 = ((34 : Nat) : Int) ∧ 15 + 3 = 18 := ⟨by decide +kernel, by decide, rfl⟩
theorem eX5_greatestDivisor_18 : decode cX5_greatestDivisor 18 = .ok (.iload_n 2, 1) ∧ 18 + 1 = 19 := ⟨by decide +kernel, rfl⟩
theorem eX5_greatestDivisor_19 : decode cX5_greatestDivisor 19 = .ok (.iload_n 3, 1) ∧ 19 + 1 = 20 := ⟨by decide +kernel, rfl⟩
theorem eX5_greatestDivisor_20 : decode cX5_greatestDivisor 20 = .ok (.irem, 1) ∧ 20 + 1 = 21 := ⟨by decide +kernel, rfl⟩
theorem eX5_greatestDivisor_21 : decode cX5_greatestDivisor 21 = .ok (.istore 5, 2) ∧ 21 + 2 = 23 := ⟨by decide +kernel, rfl⟩
theorem eX5_greatestDivisor_23 : decode cX5_greatestDivisor 23 = .ok (.iload_n 3, 1) ∧ 23 + 1 = 24 := ⟨by decide +kernel, rfl⟩
theorem eX5_greatestDivisor_24 : decode cX5_greatestDivisor 24 = .ok (.istore_n 2, 1) ∧ 24 + 1 = 25 := ⟨by decide +kernel, rfl⟩
theorem eX5_greatestDivisor_25 : decode cX5_greatestDivisor 25 = .ok (.iload 5, 2) ∧ 25 + 2 = 27 := ⟨by decide +kernel, rfl⟩
theorem eX5_greatestDivisor_27 : decode cX5_greatestDivisor 27 = .ok (.istore_n 3, 1) ∧ 27 + 1 = 28 := ⟨by decide +kernel, rfl⟩
theorem eX5_greatestDivisor_28 : decode cX5_greatestDivisor 28 = .ok (.iinc 4 1, 3) ∧ 28 + 3 = 31 := ⟨by decide +kernel, rfl⟩
theorem eX5_greatestDivisor_31 : decode cX5_greatestDivisor 31 = .ok (.goto (-24), 3) ∧ ((31 : Nat) : Int) + (-24) = ((7 : Nat) : Int) := ⟨by decide +kernel, by decide⟩
theorem eX5_greatestDivisor_34 : decode cX5_greatestDivisor 34 = .ok (.iload_n 2, 1) ∧ 34 + 1 = 35 := ⟨by decide +kernel, rfl⟩
theorem eX5_greatestDivisor_35 : decode cX5_greatestDivisor 35 = .ok (.ireturn, 1) := by decide +kernel
theorem eX5_fillMostOf_0 : decode cX5_fillMostOf 0 = .ok (.aload_n 0, 1) ∧ 0 + 1 = 1 := ⟨by decide +kernel, rfl⟩
theorem eX5_fillMostOf_1 : decode cX5_fillMostOf 1 = .ok (.getfield 43, 3) ∧ 1 + 3 = 4 := ⟨by decide +kernel, rfl⟩
theorem eX5_fillMostOf_4 : decode cX5_fillMostOf 4 = .ok (.aload_n 0, 1) ∧ 4 + 1 = 5 := ⟨by decide +kernel, rfl⟩
theorem eX5_fillMostOf_5 : decode cX5_fillMostOf 5 = .ok (.getfield 19, 3) ∧ 5 + 3 = 8 := ⟨by decide +kernel, rfl⟩
theorem eX5_fillMostOf_8 : decode cX5_fillMostOf 8 = .ok (.aload_n 0, 1) ∧ 8 + 1 = 9 := ⟨by decide +kernel, rfl⟩
theorem eX5_fillMostOf_9 : decode cX5_fillMostOf 9 = .ok (.getfield 26, 3) ∧ 9 + 3 = 12 := ⟨by decide +kernel, rfl⟩
theorem eX5_fillMostOf_12 : decode cX5_fillMostOf 12 = .ok (.invokevirtual 148, 3) ∧ 12 + 3 = 15 := ⟨by decide +kernel, rfl⟩
theorem eX5_fillMostOf_15 : decode cX5_fillMostOf 15 = .ok (.iconst 0, 1) ∧ 15 + 1 = 16 := ⟨by decide +kernel, rfl⟩
theorem eX5_fillMostOf_16 : decode cX5_fillMostOf 16 = .ok (.istore_n 1, 1) ∧ 16 + 1 = 17 := ⟨by decide +kernel, rfl⟩
theorem eX5_fillMostOf_17 : decode cX5_fillMostOf 17 = .ok (.iload_n 1, 1) ∧ 17 + 1 = 18 := ⟨by decide +kernel, rfl⟩
theorem eX5_fillMostOf_18 : decode cX5_fillMostOf 18 = .ok (.aload_n 0, 1) ∧ 18 + 1 = 19 := ⟨by decide +kernel, rfl⟩
theorem eX5_fillMostOf_19 : decode cX5_fillMostOf 19 = .ok (.getfield 62, 3) ∧ 19 + 3 = 22 := ⟨by decide +kernel, rfl⟩
theorem eX5_fillMostOf_22 : decode cX5_fillMostOf 22 = .ok (.arraylength, 1) ∧ 22 + 1 = 23 := ⟨by decide +kernel, rfl⟩
theorem eX5_fillMostOf_23 : decode cX5_fillMostOf 23 = .ok (.if_icmp .ge 81, 3) ∧ ((23 : Nat) : Int) + 81 = ((104 : Nat) : Int) ∧ 23 + 3 = 26 := ⟨by decide +kernel, by decide, rfl⟩
theorem eX5_fillMostOf_26 : decode cX5_fillMostOf 26 = .ok (.iconst 0, 1) ∧ 26 + 1 = 27 := ⟨by decide +kernel, rfl⟩
theorem eX5_fillMostOf_27 : decode cX5_fillMostOf 27 = .ok (.istore_n 2, 1) ∧ 27 + 1 = 28 := ⟨by decide +kernel, rfl⟩
theorem eX5_fillMostOf_28 : decode cX5_fillMostOf 28 = .ok (.aload_n 0, 1) ∧ 28 + 1 = 29 := ⟨by decide +kernel, rfl⟩
theorem eX5_fillMostOf_29 : decode cX5_fillMostOf 29 = .ok (.getfield 43, 3) ∧ 29 + 3 = 32 := ⟨by decide +kernel, rfl⟩
theorem eX5_fillMostOf_32 : decode cX5_fillMostOf 32 = .ok (.getfield 256, 3) ∧ 32 + 3 = 35 := ⟨by decide +kernel, rfl⟩
theorem eX5_fillMostOf_35 : decode cX5_fillMostOf 35 = .ok (.iload_n 1, 1) ∧ 35 + 1 = 36 := ⟨by decide +kernel, rfl⟩
theorem eX5_fillMostOf_36 : decode cX5_fillMostOf 36 = .ok (.invokestatic 115, 3) ∧ 36 + 3 = 39 := ⟨by decide +kernel, rfl⟩
theorem eX5_fillMostOf_39 : decode cX5_fillMostOf 39 = .ok (.ifCond .eq 11, 3) ∧ ((39 : Nat) : Int) + 11 = ((50 : Nat) : Int) ∧ 39 + 3 = 42 := ⟨by decide +kernel, by decide, rfl⟩
theorem eX5_fillMostOf_42 : decode cX5_fillMostOf 42 = .ok (.iload_n 1, 1) ∧ 42 + 1 = 43 := ⟨by decide +kernel, rfl⟩
theorem eX5_fillMostOf_43 : decode cX5_fillMostOf 43 = .ok (.invokestatic 213, 3) ∧ 43 + 3 = 46 := ⟨by decide +kernel, rfl⟩
theorem eX5_fillMostOf_46 : decode cX5_fillMostOf 46 = .ok (.istore_n 2, 1) ∧ 46 + 1 = 47 := ⟨by decide +kernel, rfl⟩
theorem eX5_fillMostOf_47 : decode cX5_fillMostOf 47 = .ok (.goto 44, 3) ∧ ((47 : Nat) : Int) + 44 = ((91 : Nat) : Int) := ⟨by decide +kernel, by decide⟩
theorem eX5_fillMostOf_50 : decode cX5_fillMostOf 50 = .ok (.iconst 0, 1) ∧ 50 + 1 = 51 := ⟨by decide +kernel, rfl⟩
theorem eX5_fillMostOf_51 : decode cX5_fillMostOf 51 = .ok (.istore_n 3, 1) ∧ 51 + 1 = 52 := ⟨by decide +kernel, rfl⟩
theorem eX5_fillMostOf_52 : decode cX5_fillMostOf 52 = .ok (.iload_n 3, 1) ∧ 52 + 1 = 53 := ⟨by decide +kernel, rfl⟩
theorem eX5_fillMostOf_53 : decode cX5_fillMostOf 53 = .ok (.bipush 6, 2) ∧ 53 + 2 = 55 := ⟨by decide +kernel, rfl⟩
theorem eX5_fillMostOf_55 : decode cX5_fillMostOf 55 = .ok (.if_icmp .ge 36, 3) ∧ ((55 : Nat) : Int) + 36 = ((91 : Nat) : Int) ∧ 55 + 3 = 58 := ⟨by decide +kernel, by decide, rfl⟩
theorem eX5_fillMostOf_58 : decode cX5_fillMostOf 58 = .ok (.iload_n 1, 1) ∧ 58 + 1 = 59 := ⟨by decide +kernel, rfl⟩
theorem eX5_fillMostOf_59 : decode cX5_fillMostOf 59 = .ok (.iload_n 3, 1) ∧ 59 + 1 = 60 := ⟨by decide +kernel, rfl⟩
theorem eX5_fillMostOf_60 : decode cX5_fillMostOf 60 = .ok (.ishr, 1) ∧ 60 + 1 = 61 := ⟨by decide +kernel, rfl⟩
theorem eX5_fillMostOf_61 : decode cX5_fillMostOf 61 = .ok (.iconst 1, 1) ∧ 61 + 1 = 62 := ⟨by decide +kernel, rfl⟩
theorem eX5_fillMostOf_62 : decode cX5_fillMostOf 62 = .ok (.iand, 1) ∧ 62 + 1 = 63 := ⟨by decide +kernel, rfl⟩
theorem eX5_fillMostOf_63 : decode cX5_fillMostOf 63 = .ok (.ifCond .eq 22, 3) ∧ ((63 : Nat) : Int) + 22 = ((85 : Nat) : Int) ∧ 63 + 3 = 66 := ⟨by decide +kernel, by decide, rfl⟩
theorem eX5_fillMostOf_66 : decode cX5_fillMostOf 66 = .ok (.iload_n 2, 1) ∧ 66 + 1 = 67 := ⟨by decide +kernel, rfl⟩
theorem eX5_fillMostOf_67 : decode cX5_fillMostOf 67 = .ok (.aload_n 0, 1) ∧ 67 + 1 = 68 := ⟨by decide +kernel, rfl⟩
theorem eX5_fillMostOf_68 : decode cX5_fillMostOf 68 = .ok (.getfield 62, 3) ∧ 68 + 3 = 71 := ⟨by decide +kernel, rfl⟩
theorem eX5_fillMostOf_71 : decode cX5_fillMostOf 71 = .ok (.iload_n 1, 1) ∧ 71 + 1 = 72 := ⟨by decide +kernel, rfl⟩
theorem eX5_fillMostOf_72 : decode cX5_fillMostOf 72 = .ok (.iconst 1, 1) ∧ 72 + 1 = 73 := ⟨by decide +kernel, rfl⟩
theorem eX5_fillMostOf_73 : decode cX5_fillMostOf 73 = .ok (.iload_n 3, 1) ∧ 73 + 1 = 74 := ⟨by decide +kernel, rfl⟩
theorem eX5_fillMostOf_74 : decode cX5_fillMostOf 74 = .ok (.ishl, 1) ∧ 74 + 1 = 75 := ⟨by decide +kernel, rfl⟩
theorem eX5_fillMostOf_75 : decode cX5_fillMostOf 75 = .ok (.iconst (-1), 1) ∧ 75 + 1 = 76 := ⟨by decide +kernel, rfl⟩
theorem eX5_fillMostOf_76 : decode cX5_fillMostOf 76 = .ok (.ixor, 1) ∧ 76 + 1 = 77 := ⟨by decide +kernel, rfl⟩
theorem eX5_fillMostOf_77 : decode cX5_fillMostOf 77 = .ok (.iand, 1) ∧ 77 + 1 = 78 := ⟨by decide +kernel, rfl⟩
theorem eX5_fillMostOf_78 : decode cX5_fillMostOf 78 = .ok (.invokestatic 115, 3) ∧ 78 + 3 = 81 := ⟨by decide +kernel, rfl⟩
theorem eX5_fillMostOf_81 : decode cX5_fillMostOf 81 = .ok (.invokestatic 259, 3) ∧ 81 + 3 = 84 := ⟨by decide +kernel, rfl⟩
theorem eX5_fillMostOf_84 : decode cX5_fillMostOf 84 = .ok (.istore_n 2, 1) ∧ 84 + 1 = 85 := ⟨by decide +kernel, rfl⟩
theorem eX5_fillMostOf_85 : decode cX5_fillMostOf 85 = .ok (.iinc 3 1, 3) ∧ 85 + 3 = 88 := ⟨by decide +kernel, rfl⟩
theorem eX5_fillMostOf_88 : decode cX5_fillMostOf 88 = .ok (.goto (-36), 3) ∧ ((88 : Nat) : Int) + (-36) = ((52 : Nat) : Int) := ⟨by decide +kernel, by decide⟩
theorem eX5_fillMostOf_91 : decode cX5_fillMostOf 91 = .ok (.aload_n 0, 1) ∧ 91 + 1 = 92 := ⟨by decide +kernel, rfl⟩
theorem eX5_fillMostOf_92 : decode cX5_fillMostOf 92 = .ok (.getfield 62, 3) ∧ 92 + 3 = 95 := ⟨by decide +kernel, rfl⟩
theorem eX5_fillMostOf_95 : decode cX5_fillMostOf 95 = .ok (.iload_n 1, 1) ∧ 95 + 1 = 96 := ⟨by decide +kernel, rfl⟩
theorem eX5_fillMostOf_96 : decode cX5_fillMostOf 96 = .ok (.iload_n 2, 1) ∧ 96 + 1 = 97 := ⟨by decide +kernel, rfl⟩
theorem eX5_fillMostOf_97 : decode cX5_fillMostOf 97 = .ok (.iastore, 1) ∧ 97 + 1 = 98 := ⟨by decide +kernel, rfl⟩
theorem eX5_fillMostOf_98 : decode cX5_fillMostOf 98 = .ok (.iinc 1 1, 3) ∧ 98 + 3 = 101 := ⟨by decide +kernel, rfl⟩
theorem eX5_fillMostOf_101 : decode cX5_fillMostOf 101 = .ok (.goto (-84), 3) ∧ ((101 : Nat) : Int) + (-84) = ((17 : Nat) : Int) := ⟨by decide +kernel, by decide⟩
theorem eX5_fillMostOf_104 : decode cX5_fillMostOf 104 = .ok (.return_, 1) := by decide +kernel
theorem eX5_isAtRest_0 : decode cX5_isAtRest 0 = .ok (.aload_n 0, 1) ∧ 0 + 1 = 1 := ⟨by decide +kernel, rfl⟩
theorem eX5_isAtRest_1 : decode cX5_isAtRest 1 = .ok (.iload_n 1, 1) ∧ 1 + 1 = 2 := ⟨by decide +kernel, rfl⟩
theorem eX5_isAtRest_2 : decode cX5_isAtRest 2 = .ok (.iload_n 2, 1) ∧ 2 + 1 = 3 := ⟨by decide +kernel, rfl⟩
theorem eX5_isAtRest_3 : decode cX5_isAtRest 3 = .ok (.iload_n 3, 1) ∧ 3 + 1 = 4 := ⟨by decide +kernel, rfl⟩
theorem eX5_isAtRest_4 : decode cX5_isAtRest 4 = .ok (.iload 4, 2) ∧ 4 + 2 = 6 := ⟨by decide +kernel, rfl⟩
theorem eX5_isAtRest_6 : decode cX5_isAtRest 6 = .ok (.invokevirtual 264, 3) ∧ 6 + 3 = 9 := ⟨by decide +kernel, rfl⟩
theorem eX5_isAtRest_9 : decode cX5_isAtRest 9 = .ok (.aload_n 0, 1) ∧ 9 + 1 = 10 := ⟨by decide +kernel, rfl⟩
theorem eX5_isAtRest_10 : decode cX5_isAtRest 10 = .ok (.iload_n 1, 1) ∧ 10 + 1 = 11 := ⟨by decide +kernel, rfl⟩
theorem eX5_isAtRest_11 : decode cX5_isAtRest 11 = .ok (.iload_n 2, 1) ∧ 11 + 1 = 12 := ⟨by decide +kernel, rfl⟩
theorem eX5_isAtRest_12 : decode cX5_isAtRest 12 = .ok (.iconst 1, 1) ∧ 12 + 1 = 13 := ⟨by decide +kernel, rfl⟩
theorem eX5_isAtRest_13 : decode cX5_isAtRest 13 = .ok (.iload_n 3, 1) ∧ 13 + 1 = 14 := ⟨by decide +kernel, rfl⟩
theorem eX5_isAtRest_14 : decode cX5_isAtRest 14 = .ok (.isub, 1) ∧ 14 + 1 = 15 := ⟨by decide +kernel, rfl⟩
theorem eX5_isAtRest_15 : decode cX5_isAtRest 15 = .ok (.iload 4, 2) ∧ 15 + 2 = 17 := ⟨by decide +kernel, rfl⟩
theorem eX5_isAtRest_17 : decode cX5_isAtRest 17 = .ok (.invokevirtual 264, 3) ∧ 17 + 3 = 20 := ⟨by decide +kernel, rfl⟩
theorem eX5_isAtRest_20 : decode cX5_isAtRest 20 = .ok (.if_icmp .lt 30, 3) ∧ ((20 : Nat) : Int) + 30 = ((50 : Nat) : Int) ∧ 20 + 3 = 23 := ⟨by decide +kernel, by decide, rfl⟩
theorem eX5_isAtRest_23 : decode cX5_isAtRest 23 = .ok (.aload_n 0, 1) ∧ 23 + 1 = 24 := ⟨by decide +kernel, rfl⟩
theorem eX5_isAtRest_24 : decode cX5_isAtRest 24 = .ok (.iload_n 2, 1) ∧ 24 + 1 = 25 := ⟨by decide +kernel, rfl⟩
theorem eX5_isAtRest_25 : decode cX5_isAtRest 25 = .ok (.iload_n 1, 1) ∧ 25 + 1 = 26 := ⟨by decide +kernel, rfl⟩
theorem eX5_isAtRest_26 : decode cX5_isAtRest 26 = .ok (.iload 4, 2) ∧ 26 + 2 = 28 := ⟨by decide +kernel, rfl⟩
theorem eX5_isAtRest_28 : decode cX5_isAtRest 28 = .ok (.iload_n 3, 1) ∧ 28 + 1 = 29 := ⟨by decide +kernel, rfl⟩
theorem eX5_isAtRest_29 : decode cX5_isAtRest 29 = .ok (.invokevirtual 264, 3) ∧ 29 + 3 = 32 := ⟨by decide +kernel, rfl⟩
theorem eX5_isAtRest_32 : decode cX5_isAtRest 32 = .ok (.aload_n 0, 1) ∧ 32 + 1 = 33 := ⟨by decide +kernel, rfl⟩
theorem eX5_isAtRest_33 : decode cX5_isAtRest 33 = .ok (.iload_n 2, 1) ∧ 33 + 1 = 34 := ⟨by decide +kernel, rfl⟩
theorem eX5_isAtRest_34 : decode cX5_isAtRest 34 = .ok (.iload_n 1, 1) ∧ 34 + 1 = 35 := ⟨by decide +kernel, rfl⟩
theorem eX5_isAtRest_35 : decode cX5_isAtRest 35 = .ok (.iconst 1, 1) ∧ 35 + 1 = 36 := ⟨by decide +kernel, rfl⟩
theorem eX5_isAtRest_36 : decode cX5_isAtRest 36 = .ok (.iload 4, 2) ∧ 36 + 2 = 38 := ⟨by decide +kernel, rfl⟩
theorem eX5_isAtRest_38 : decode cX5_isAtRest 38 = .ok (.isub, 1) ∧ 38 + 1 = 39 := ⟨by decide +kernel, rfl⟩
theorem eX5_isAtRest_39 : decode cX5_isAtRest 39 = .ok (.iload_n 3, 1) ∧ 39 + 1 = 40 := ⟨by decide +kernel, rfl⟩
theorem eX5_isAtRest_40 : decode cX5_isAtRest 40 = .ok (.invokevirtual 264, 3) ∧ 40 + 3 = 43 := ⟨by decide +kernel, rfl⟩
theorem eX5_isAtRest_43 : decode cX5_isAtRest 43 = .ok (.if_icmp .lt 7, 3) ∧ ((43 : Nat) : Int) + 7 = ((50 : Nat) : Int) ∧ 43 + 3 = 46 := ⟨by decide +kernel, by decide, rfl⟩
theorem eX5_isAtRest_46 : decode cX5_isAtRest 46 = .ok (.iconst 1, 1) ∧ 46 + 1 = 47 := ⟨by decide +kernel, rfl⟩
theorem eX5_isAtRest_47 : decode cX5_isAtRest 47 = .ok (.goto 4, 3) ∧ ((47 : Nat) : Int) + 4 = ((51 : Nat) : Int) := ⟨by decide +kernel, by decide⟩
theorem eX5_isAtRest_50 : decode cX5_isAtRest 50 = .ok (.iconst 0, 1) ∧ 50 + 1 = 51 := ⟨by decide +kernel, rfl⟩
theorem eX5_isAtRest_51 : decode cX5_isAtRest 51 = .ok (.ireturn, 1) := by decide +kernel
theorem eX5_gain_0 : decode cX5_gain 0 = .ok (.iload_n 3, 1) ∧ 0 + 1 = 1 := ⟨by decide +kernel, rfl⟩
theorem eX5_gain_1 : decode cX5_gain 1 = .ok (.iload 4, 2) ∧ 1 + 2 = 3 := ⟨by decide +kernel, rfl⟩
theorem eX5_gain_3 : decode cX5_gain 3 = .ok (.if_icmp .ne 16, 3) ∧ ((3 : Nat) : Int) + 16 = ((19 : Nat) : Int) ∧ 3 + 3 = 6 := ⟨by decide +kernel, by decide, rfl⟩
theorem eX5_gain_6 : decode cX5_gain 6 = .ok (.iload_n 1, 1) ∧ 6 + 1 = 7 := ⟨by decide +kernel, rfl⟩
theorem eX5_gain_7 : decode cX5_gain 7 = .ok (.iload_n 2, 1) ∧ 7 + 1 = 8 := ⟨by decide +kernel, rfl⟩
theorem eX5_gain_8 : decode cX5_gain 8 = .ok (.if_icmp .ge 7, 3) ∧ ((8 : Nat) : Int) + 7 = ((15 : Nat) : Int) ∧ 8 + 3 = 11 := ⟨by decide +kernel, by decide, rfl⟩
theorem eX5_gain_11 : decode cX5_gain 11 = .ok (.iconst 1, 1) ∧ 11 + 1 = 12 := ⟨by decide +kernel, rfl⟩
theorem eX5_gain_12 : decode cX5_gain 12 = .ok (.goto 17, 3) ∧ ((12 : Nat) : Int) + 17 = ((29 : Nat) : Int) := ⟨by decide +kernel, by decide⟩
theorem eX5_gain_15 : decode cX5_gain 15 = .ok (.iconst 0, 1) ∧ 15 + 1 = 16 := ⟨by decide +kernel, rfl⟩
theorem eX5_gain_16 : decode cX5_gain 16 = .ok (.goto 13, 3) ∧ ((16 : Nat) : Int) + 13 = ((29 : Nat) : Int) := ⟨by decide +kernel, by decide⟩
theorem eX5_gain_19 : decode cX5_gain 19 = .ok (.iload_n 3, 1) ∧ 19 + 1 = 20 := ⟨by decide +kernel, rfl⟩
theorem eX5_gain_20 : decode cX5_gain 20 = .ok (.iconst 1, 1) ∧ 20 + 1 = 21 := ⟨by decide +kernel, rfl⟩
theorem eX5_gain_21 : decode cX5_gain 21 = .ok (.if_icmp .ne 7, 3) ∧ ((21 : Nat) : Int) + 7 = ((28 : Nat) : Int) ∧ 21 + 3 = 24 := ⟨by decide +kernel, by decide, rfl⟩
theorem eX5_gain_24 : decode cX5_gain 24 = .ok (.iconst 1, 1) ∧ 24 + 1 = 25 := ⟨by decide +kernel, rfl⟩
theorem eX5_gain_25 : decode cX5_gain 25 = .ok (.goto 4, 3) ∧ ((25 : Nat) : Int) + 4 = ((29 : Nat) : Int) := ⟨by decide +kernel, by decide⟩
theorem eX5_gain_28 : decode cX5_gain 28 = .ok (.iconst 0, 1) ∧ 28 + 1 = 29 := ⟨by decide +kernel, rfl⟩
theorem eX5_gain_29 : decode cX5_gain 29 = .ok (.istore 5, 2) ∧ 29 + 2 = 31 := ⟨by decide +kernel, rfl⟩
theorem eX5_gain_31 : decode cX5_gain 31 = .ok (.aload_n 0, 1) ∧ 31 + 1 = 32 := ⟨by decide +kernel, rfl⟩
theorem eX5_gain_32 : decode cX5_gain 32 = .ok (.getfield 30, 3) ∧ 32 + 3 = 35 := ⟨by decide +kernel, rfl⟩
theorem eX5_gain_35 : decode cX5_gain 35 = .ok (.aload_n 0, 1) ∧ 35 + 1 = 36 := ⟨by decide +kernel, rfl⟩
theorem eX5_gain_36 : decode cX5_gain 36 = .ok (.getfield 26, 3) ∧ 36 + 3 = 39 := ⟨by decide +kernel, rfl⟩
theorem eX5_gain_39 : decode cX5_gain 39 = .ok (.invokevirtual 165, 3) ∧ 39 + 3 = 42 := ⟨by decide +kernel, rfl⟩
theorem eX5_gain_42 : decode cX5_gain 42 = .ok (.iload 5, 2) ∧ 42 + 2 = 44 := ⟨by decide +kernel, rfl⟩
theorem eX5_gain_44 : decode cX5_gain 44 = .ok (.ifCond .ne 16, 3) ∧ ((44 : Nat) : Int) + 16 = ((60 : Nat) : Int) ∧ 44 + 3 = 47 := ⟨by decide +kernel, by decide, rfl⟩
theorem eX5_gain_47 : decode cX5_gain 47 = .ok (.aload_n 0, 1) ∧ 47 + 1 = 48 := ⟨by decide +kernel, rfl⟩
theorem eX5_gain_48 : decode cX5_gain 48 = .ok (.getfield 19, 3) ∧ 48 + 3 = 51 := ⟨by decide +kernel, rfl⟩
theorem eX5_gain_51 : decode cX5_gain 51 = .ok (.aload_n 0, 1) ∧ 51 + 1 = 52 := ⟨by decide +kernel, rfl⟩
theorem eX5_gain_52 : decode cX5_gain 52 = .ok (.getfield 30, 3) ∧ 52 + 3 = 55 := ⟨by decide +kernel, rfl⟩
theorem eX5_gain_55 : decode cX5_gain 55 = .ok (.iload_n 2, 1) ∧ 55 + 1 = 56 := ⟨by decide +kernel, rfl⟩
theorem eX5_gain_56 : decode cX5_gain 56 = .ok (.invokevirtual 129, 3) ∧ 56 + 3 = 59 := ⟨by decide +kernel, rfl⟩
theorem eX5_gain_59 : decode cX5_gain 59 = .ok (.pop, 1) ∧ 59 + 1 = 60 := ⟨by decide +kernel, rfl⟩
theorem eX5_gain_60 : decode cX5_gain 60 = .ok (.aload_n 0, 1) ∧ 60 + 1 = 61 := ⟨by decide +kernel, rfl⟩
theorem eX5_gain_61 : decode cX5_gain 61 = .ok (.getfield 19, 3) ∧ 61 + 3 = 64 := ⟨by decide +kernel, rfl⟩
theorem eX5_gain_64 : decode cX5_gain 64 = .ok (.aload_n 0, 1) ∧ 64 + 1 = 65 := ⟨by decide +kernel, rfl⟩
theorem eX5_gain_65 : decode cX5_gain 65 = .ok (.getfield 30, 3) ∧ 65 + 3 = 68 := ⟨by decide +kernel, rfl⟩
theorem eX5_gain_68 : decode cX5_gain 68 = .ok (.iload_n 1, 1) ∧ 68 + 1 = 69 := ⟨by decide +kernel, rfl⟩
theorem eX5_gain_69 : decode cX5_gain 69 = .ok (.invokevirtual 105, 3) ∧ 69 + 3 = 72 := ⟨by decide +kernel, rfl⟩
theorem eX5_gain_72 : decode cX5_gain 72 = .ok (.istore 6, 2) ∧ 72 + 2 = 74 := ⟨by decide +kernel, rfl⟩
theorem eX5_gain_74 : decode cX5_gain 74 = .ok (.iload 6, 2) ∧ 74 + 2 = 76 := ⟨by decide +kernel, rfl⟩
theorem eX5_gain_76 : decode cX5_gain 76 = .ok (.bipush (-9), 2) ∧ 76 + 2 = 78 := ⟨by decide +kernel, rfl⟩
theorem eX5_gain_78 : decode cX5_gain 78 = .ok (.if_icmp .ne 7, 3) ∧ ((78 : Nat) : Int) + 7 = ((85 : Nat) : Int) ∧ 78 + 3 = 81 := ⟨by decide +kernel, by decide, rfl⟩
theorem eX5_gain_81 : decode cX5_gain 81 = .ok (.iconst 0, 1) ∧ 81 + 1 = 82 := ⟨by decide +kernel, rfl⟩
theorem eX5_gain_82 : decode cX5_gain 82 = .ok (.goto 19, 3) ∧ ((82 : Nat) : Int) + 19 = ((101 : Nat) : Int) := ⟨by decide +kernel, by decide⟩
theorem eX5_gain_85 : decode cX5_gain 85 = .ok (.iconst 0, 1) ∧ 85 + 1 = 86 := ⟨by decide +kernel, rfl⟩
theorem eX5_gain_86 : decode cX5_gain 86 = .ok (.iconst 4, 1) ∧ 86 + 1 = 87 := ⟨by decide +kernel, rfl⟩
theorem eX5_gain_87 : decode cX5_gain 87 = .ok (.iload 6, 2) ∧ 87 + 2 = 89 := ⟨by decide +kernel, rfl⟩
theorem eX5_gain_89 : decode cX5_gain 89 = .ok (.aload_n 0, 1) ∧ 89 + 1 = 90 := ⟨by decide +kernel, rfl⟩
theorem eX5_gain_90 : decode cX5_gain 90 = .ok (.getfield 26, 3) ∧ 90 + 3 = 93 := ⟨by decide +kernel, rfl⟩
theorem eX5_gain_93 : decode cX5_gain 93 = .ok (.getfield 133, 3) ∧ 93 + 3 = 96 := ⟨by decide +kernel, rfl⟩
theorem eX5_gain_96 : decode cX5_gain 96 = .ok (.isub, 1) ∧ 96 + 1 = 97 := ⟨by decide +kernel, rfl⟩
theorem eX5_gain_97 : decode cX5_gain 97 = .ok (.isub, 1) ∧ 97 + 1 = 98 := ⟨by decide +kernel, rfl⟩
theorem eX5_gain_98 : decode cX5_gain 98 = .ok (.invokestatic 259, 3) ∧ 98 + 3 = 101 := ⟨by decide +kernel, rfl⟩
theorem eX5_gain_101 : decode cX5_gain 101 = .ok (.istore 7, 2) ∧ 101 + 2 = 103 := ⟨by decide +kernel, rfl⟩
theorem eX5_gain_103 : decode cX5_gain 103 = .ok (.iload 7, 2) ∧ 103 + 2 = 105 := ⟨by decide +kernel, rfl⟩
theorem eX5_gain_105 : decode cX5_gain 105 = .ok (.iload_n 3, 1) ∧ 105 + 1 = 106 := ⟨by decide +kernel, rfl⟩
theorem eX5_gain_106 : decode cX5_gain 106 = .ok (.isub, 1) ∧ 106 + 1 = 107 := ⟨by decide +kernel, rfl⟩
theorem eX5_gain_107 : decode cX5_gain 107 = .ok (.ireturn, 1) := by decide +kernel
theorem eX5_isRowOfOpenWeddings_0 : decode cX5_isRowOfOpenWeddings 0 = .ok (.aload_n 0, 1) ∧ 0 + 1 = 1 := ⟨by decide +kernel, rfl⟩
theorem eX5_isRowOfOpenWeddings_1 : decode cX5_isRowOfOpenWeddings 1 = .ok (.getfield 26, 3) ∧ 1 + 3 = 4 := ⟨by decide +kernel, rfl⟩
theorem eX5_isRowOfOpenWeddings_4 : decode cX5_isRowOfOpenWeddings 4 = .ok (.getfield 210, 3) ∧ 4 + 3 = 7 := ⟨by decide +kernel, rfl⟩
theorem eX5_isRowOfOpenWeddings_7 : decode cX5_isRowOfOpenWeddings 7 = .ok (.istore_n 3, 1) ∧ 7 + 1 = 8 := ⟨by decide +kernel, rfl⟩
theorem eX5_isRowOfOpenWeddings_8 : decode cX5_isRowOfOpenWeddings 8 = .ok (.iconst 0, 1) ∧ 8 + 1 = 9 := ⟨by decide +kernel, rfl⟩
theorem eX5_isRowOfOpenWeddings_9 : decode cX5_isRowOfOpenWeddings 9 = .ok (.istore 4, 2) ∧ 9 + 2 = 11 := ⟨by decide +kernel, rfl⟩
theorem eX5_isRowOfOpenWeddings_11 : decode cX5_isRowOfOpenWeddings 11 = .ok (.iload 4, 2) ∧ 11 + 2 = 13 := ⟨by decide +kernel, rfl⟩
theorem eX5_isRowOfOpenWeddings_13 : decode cX5_isRowOfOpenWeddings 13 = .ok (.iload_n 1, 1) ∧ 13 + 1 = 14 := ⟨by decide +kernel, rfl⟩
theorem eX5_isRowOfOpenWeddings_14 : decode cX5_isRowOfOpenWeddings 14 = .ok (.if_icmp .ge 48, 3) ∧ ((14 : Nat) : Int) + 48 = ((62 : Nat) : Int) ∧ 14 + 3 = 17 := ⟨by decide +kernel, by decide, rfl⟩
theorem eX5_isRowOfOpenWeddings_17 : decode cX5_isRowOfOpenWeddings 17 = .ok (.iload_n 1, 1) ∧ 17 + 1 = 18 := ⟨by decide +kernel, rfl⟩
theorem eX5_isRowOfOpenWeddings_18 : decode cX5_isRowOfOpenWeddings 18 = .ok (.iload_n 2, 1) ∧ 18 + 1 = 19 := ⟨by decide +kernel, rfl⟩
theorem eX5_isRowOfOpenWeddings_19 : decode cX5_isRowOfOpenWeddings 19 = .ok (.iload 4, 2) ∧ 19 + 2 = 21 := ⟨by decide +kernel, rfl⟩
theorem eX5_isRowOfOpenWeddings_21 : decode cX5_isRowOfOpenWeddings 21 = .ok (.invokestatic 172, 3) ∧ 21 + 3 = 24 := ⟨by decide +kernel, rfl⟩
theorem eX5_isRowOfOpenWeddings_24 : decode cX5_isRowOfOpenWeddings 24 = .ok (.istore 5, 2) ∧ 24 + 2 = 26 := ⟨by decide +kernel, rfl⟩
theorem eX5_isRowOfOpenWeddings_26 : decode cX5_isRowOfOpenWeddings 26 = .ok (.aload_n 0, 1) ∧ 26 + 1 = 27 := ⟨by decide +kernel, rfl⟩
theorem eX5_isRowOfOpenWeddings_27 : decode cX5_isRowOfOpenWeddings 27 = .ok (.getfield 19, 3) ∧ 27 + 3 = 30 := ⟨by decide +kernel, rfl⟩
theorem eX5_isRowOfOpenWeddings_30 : decode cX5_isRowOfOpenWeddings 30 = .ok (.iload 5, 2) ∧ 30 + 2 = 32 := ⟨by decide +kernel, rfl⟩
theorem eX5_isRowOfOpenWeddings_32 : decode cX5_isRowOfOpenWeddings 32 = .ok (.invokevirtual 95, 3) ∧ 32 + 3 = 35 := ⟨by decide +kernel, rfl⟩
theorem eX5_isRowOfOpenWeddings_35 : decode cX5_isRowOfOpenWeddings 35 = .ok (.ifCond .eq 12, 3) ∧ ((35 : Nat) : Int) + 12 = ((47 : Nat) : Int) ∧ 35 + 3 = 38 := ⟨by decide +kernel, by decide, rfl⟩
theorem eX5_isRowOfOpenWeddings_38 : decode cX5_isRowOfOpenWeddings 38 = .ok (.iload_n 3, 1) ∧ 38 + 1 = 39 := ⟨by decide +kernel, rfl⟩
theorem eX5_isRowOfOpenWeddings_39 : decode cX5_isRowOfOpenWeddings 39 = .ok (.iload 5, 2) ∧ 39 + 2 = 41 := ⟨by decide +kernel, rfl⟩
theorem eX5_isRowOfOpenWeddings_41 : decode cX5_isRowOfOpenWeddings 41 = .ok (.ishr, 1) ∧ 41 + 1 = 42 := ⟨by decide +kernel, rfl⟩
theorem eX5_isRowOfOpenWeddings_42 : decode cX5_isRowOfOpenWeddings 42 = .ok (.iconst 1, 1) ∧ 42 + 1 = 43 := ⟨by decide +kernel, rfl⟩
theorem eX5_isRowOfOpenWeddings_43 : decode cX5_isRowOfOpenWeddings 43 = .ok (.iand, 1) ∧ 43 + 1 = 44 := ⟨by decide +kernel, rfl⟩
theorem eX5_isRowOfOpenWeddings_44 : decode cX5_isRowOfOpenWeddings 44 = .ok (.ifCond .eq 5, 3) ∧ ((44 : Nat) : Int) + 5 = ((49 : Nat) : Int) ∧ 44 + 3 = 47 := ⟨by decide +kernel, by decide, rfl⟩
theorem eX5_isRowOfOpenWeddings_47 : decode cX5_isRowOfOpenWeddings 47 = .ok (.iconst 0, 1) ∧ 47 + 1 = 48 := ⟨by decide +kernel, rfl⟩
theorem eX5_isRowOfOpenWeddings_48 : decode cX5_isRowOfOpenWeddings 48 = .ok (.ireturn, 1) := by decide +kernel
theorem eX5_isRowOfOpenWeddings_49 : decode cX5_isRowOfOpenWeddings 49 = .ok (.iload_n 3, 1) ∧ 49 + 1 = 50 := ⟨by decide +kernel, rfl⟩
theorem eX5_isRowOfOpenWeddings_50 : decode cX5_isRowOfOpenWeddings 50 = .ok (.iconst 1, 1) ∧ 50 + 1 = 51 := ⟨by decide +kernel, rfl⟩
theorem eX5_isRowOfOpenWeddings_51 : decode cX5_isRowOfOpenWeddings 51 = .ok (.iload 5, 2) ∧ 51 + 2 = 53 := ⟨by decide +kernel, rfl⟩
theorem eX5_isRowOfOpenWeddings_53 : decode cX5_isRowOfOpenWeddings 53 = .ok (.ishl, 1) ∧ 53 + 1 = 54 := ⟨by decide +kernel, rfl⟩
theorem eX5_isRowOfOpenWeddings_54 : decode cX5_isRowOfOpenWeddings 54 = .ok (.ior, 1) ∧ 54 + 1 = 55 := ⟨by decide +kernel, rfl⟩
theorem eX5_isRowOfOpenWeddings_55 : decode cX5_isRowOfOpenWeddings 55 = .ok (.istore_n 3, 1) ∧ 55 + 1 = 56 := ⟨by decide +kernel, rfl⟩
theorem eX5_isRowOfOpenWeddings_56 : decode cX5_isRowOfOpenWeddings 56 = .ok (.iinc 4 1, 3) ∧ 56 + 3 = 59 := ⟨by decide +kernel, rfl⟩
theorem eX5_isRowOfOpenWeddings_59 : decode cX5_isRowOfOpenWeddings 59 = .ok (.goto (-48), 3) ∧ ((59 : Nat) : Int) + (-48) = ((11 : Nat) : Int) := ⟨by decide +kernel, by decide⟩
theorem eX5_isRowOfOpenWeddings_62 : decode cX5_isRowOfOpenWeddings 62 = .ok (.iconst 1, 1) ∧ 62 + 1 = 63 := ⟨by decide +kernel, rfl⟩
theorem eX5_isRowOfOpenWeddings_63 : decode cX5_isRowOfOpenWeddings 63 = .ok (.ireturn, 1) := by decide +kernel
theorem eX5_weightOfFalls_0 : decode cX5_weightOfFalls 0 = .ok (.iconst 1, 1) ∧ 0 + 1 = 1 := ⟨by decide +kernel, rfl⟩
theorem eX5_weightOfFalls_1 : decode cX5_weightOfFalls 1 = .ok (.istore 5, 2) ∧ 1 + 2 = 3 := ⟨by decide +kernel, rfl⟩
theorem eX5_weightOfFalls_3 : decode cX5_weightOfFalls 3 = .ok (.aload_n 0, 1) ∧ 3 + 1 = 4 := ⟨by decide +kernel, rfl⟩
theorem eX5_weightOfFalls_4 : decode cX5_weightOfFalls 4 = .ok (.getfield 26, 3) ∧ 4 + 3 = 7 := ⟨by decide +kernel, rfl⟩
theorem eX5_weightOfFalls_7 : decode cX5_weightOfFalls 7 = .ok (.getfield 136, 3) ∧ 7 + 3 = 10 := ⟨by decide +kernel, rfl⟩
theorem eX5_weightOfFalls_10 : decode cX5_weightOfFalls 10 = .ok (.istore 6, 2) ∧ 10 + 2 = 12 := ⟨by decide +kernel, rfl⟩
theorem eX5_weightOfFalls_12 : decode cX5_weightOfFalls 12 = .ok (.iconst 0, 1) ∧ 12 + 1 = 13 := ⟨by decide +kernel, rfl⟩
theorem eX5_weightOfFalls_13 : decode cX5_weightOfFalls 13 = .ok (.istore 7, 2) ∧ 13 + 2 = 15 := ⟨by decide +kernel, rfl⟩
theorem eX5_weightOfFalls_15 : decode cX5_weightOfFalls 15 = .ok (.iload 7, 2) ∧ 15 + 2 = 17 := ⟨by decide +kernel, rfl⟩
theorem eX5_weightOfFalls_17 : decode cX5_weightOfFalls 17 = .ok (.iload_n 1, 1) ∧ 17 + 1 = 18 := ⟨by decide +kernel, rfl⟩
theorem eX5_weightOfFalls_18 : decode cX5_weightOfFalls 18 = .ok (.if_icmp .ge 98, 3) ∧ ((18 : Nat) : Int) + 98 = ((116 : Nat) : Int) ∧ 18 + 3 = 21 := ⟨by decide +kernel, by decide, rfl⟩
theorem eX5_weightOfFalls_21 : decode cX5_weightOfFalls 21 = .ok (.aload_n 0, 1) ∧ 21 + 1 = 22 := ⟨by decide +kernel, rfl⟩
theorem eX5_weightOfFalls_22 : decode cX5_weightOfFalls 22 = .ok (.getfield 19, 3) ∧ 22 + 3 = 25 := ⟨by decide +kernel, rfl⟩
theorem eX5_weightOfFalls_25 : decode cX5_weightOfFalls 25 = .ok (.iload_n 1, 1) ∧ 25 + 1 = 26 := ⟨by decide +kernel, rfl⟩
theorem eX5_weightOfFalls_26 : decode cX5_weightOfFalls 26 = .ok (.iload_n 2, 1) ∧ 26 + 1 = 27 := ⟨by decide +kernel, rfl⟩
theorem eX5_weightOfFalls_27 : decode cX5_weightOfFalls 27 = .ok (.iload 7, 2) ∧ 27 + 2 = 29 := ⟨by decide +kernel, rfl⟩
theorem eX5_weightOfFalls_29 : decode cX5_weightOfFalls 29 = .ok (.invokestatic 172, 3) ∧ 29 + 3 = 32 := ⟨by decide +kernel, rfl⟩
theorem eX5_weightOfFalls_32 : decode cX5_weightOfFalls 32 = .ok (.iconst 0, 1) ∧ 32 + 1 = 33 := ⟨by decide +kernel, rfl⟩
theorem eX5_weightOfFalls_33 : decode cX5_weightOfFalls 33 = .ok (.invokevirtual 98, 3) ∧ 33 + 3 = 36 := ⟨by decide +kernel, rfl⟩
theorem eX5_weightOfFalls_36 : decode cX5_weightOfFalls 36 = .ok (.istore 8, 2) ∧ 36 + 2 = 38 := ⟨by decide +kernel, rfl⟩
theorem eX5_weightOfFalls_38 : decode cX5_weightOfFalls 38 = .ok (.iload 4, 2) ∧ 38 + 2 = 40 := ⟨by decide +kernel, rfl⟩
theorem eX5_weightOfFalls_40 : decode cX5_weightOfFalls 40 = .ok (.iload 7, 2) ∧ 40 + 2 = 42 := ⟨by decide +kernel, rfl⟩
theorem eX5_weightOfFalls_42 : decode cX5_weightOfFalls 42 = .ok (.ishr, 1) ∧ 42 + 1 = 43 := ⟨by decide +kernel, rfl⟩
theorem eX5_weightOfFalls_43 : decode cX5_weightOfFalls 43 = .ok (.iconst 1, 1) ∧ 43 + 1 = 44 := ⟨by decide +kernel, rfl⟩
theorem eX5_weightOfFalls_44 : decode cX5_weightOfFalls 44 = .ok (.iand, 1) ∧ 44 + 1 = 45 := ⟨by decide +kernel, rfl⟩
theorem eX5_weightOfFalls_45 : decode cX5_weightOfFalls 45 = .ok (.ifCond .eq 7, 3) ∧ ((45 : Nat) : Int) + 7 = ((52 : Nat) : Int) ∧ 45 + 3 = 48 := ⟨by decide +kernel, by decide, rfl⟩
theorem eX5_weightOfFalls_48 : decode cX5_weightOfFalls 48 = .ok (.iconst 1, 1) ∧ 48 + 1 = 49 := ⟨by decide +kernel, rfl⟩
theorem eX5_weightOfFalls_49 : decode cX5_weightOfFalls 49 = .ok (.goto 4, 3) ∧ ((49 : Nat) : Int) + 4 = ((53 : Nat) : Int) := ⟨by decide +kernel, by decide⟩
theorem eX5_weightOfFalls_52 : decode cX5_weightOfFalls 52 = .ok (.iconst 0, 1) ∧ 52 + 1 = 53 := ⟨by decide +kernel, rfl⟩
theorem eX5_weightOfFalls_53 : decode cX5_weightOfFalls 53 = .ok (.istore 9, 2) ∧ 53 + 2 = 55 := ⟨by decide +kernel, rfl⟩
theorem eX5_weightOfFalls_55 : decode cX5_weightOfFalls 55 = .ok (.aload_n 0, 1) ∧ 55 + 1 = 56 := ⟨by decide +kernel, rfl⟩
theorem eX5_weightOfFalls_56 : decode cX5_weightOfFalls 56 = .ok (.getfield 26, 3) ∧ 56 + 3 = 59 := ⟨by decide +kernel, rfl⟩
theorem eX5_weightOfFalls_59 : decode cX5_weightOfFalls 59 = .ok (.iload 6, 2) ∧ 59 + 2 = 61 := ⟨by decide +kernel, rfl⟩
theorem eX5_weightOfFalls_61 : decode cX5_weightOfFalls 61 = .ok (.iload 8, 2) ∧ 61 + 2 = 63 := ⟨by decide +kernel, rfl⟩
theorem eX5_weightOfFalls_63 : decode cX5_weightOfFalls 63 = .ok (.invokevirtual 122, 3) ∧ 63 + 3 = 66 := ⟨by decide +kernel, rfl⟩
theorem eX5_weightOfFalls_66 : decode cX5_weightOfFalls 66 = .ok (.ifCond .le 24, 3) ∧ ((66 : Nat) : Int) + 24 = ((90 : Nat) : Int) ∧ 66 + 3 = 69 := ⟨by decide +kernel, by decide, rfl⟩
theorem eX5_weightOfFalls_69 : decode cX5_weightOfFalls 69 = .ok (.iload 5, 2) ∧ 69 + 2 = 71 := ⟨by decide +kernel, rfl⟩
theorem eX5_weightOfFalls_71 : decode cX5_weightOfFalls 71 = .ok (.iload 9, 2) ∧ 71 + 2 = 73 := ⟨by decide +kernel, rfl⟩
theorem eX5_weightOfFalls_73 : decode cX5_weightOfFalls 73 = .ok (.ifCond .eq 7, 3) ∧ ((73 : Nat) : Int) + 7 = ((80 : Nat) : Int) ∧ 73 + 3 = 76 := ⟨by decide +kernel, by decide, rfl⟩
theorem eX5_weightOfFalls_76 : decode cX5_weightOfFalls 76 = .ok (.iload_n 3, 1) ∧ 76 + 1 = 77 := ⟨by decide +kernel, rfl⟩
theorem eX5_weightOfFalls_77 : decode cX5_weightOfFalls 77 = .ok (.goto 7, 3) ∧ ((77 : Nat) : Int) + 7 = ((84 : Nat) : Int) := ⟨by decide +kernel, by decide⟩
theorem eX5_weightOfFalls_80 : decode cX5_weightOfFalls 80 = .ok (.bipush 10, 2) ∧ 80 + 2 = 82 := ⟨by decide +kernel, rfl⟩
theorem eX5_weightOfFalls_82 : decode cX5_weightOfFalls 82 = .ok (.iload_n 3, 1) ∧ 82 + 1 = 83 := ⟨by decide +kernel, rfl⟩
theorem eX5_weightOfFalls_83 : decode cX5_weightOfFalls 83 = .ok (.isub, 1) ∧ 83 + 1 = 84 := ⟨by decide +kernel, rfl⟩
theorem eX5_weightOfFalls_84 : decode cX5_weightOfFalls 84 = .ok (.imul, 1) ∧ 84 + 1 = 85 := ⟨by decide +kernel, rfl⟩
theorem eX5_weightOfFalls_85 : decode cX5_weightOfFalls 85 = .ok (.istore 5, 2) ∧ 85 + 2 = 87 := ⟨by decide +kernel, rfl⟩
theorem eX5_weightOfFalls_87 : decode cX5_weightOfFalls 87 = .ok (.goto 19, 3) ∧ ((87 : Nat) : Int) + 19 = ((106 : Nat) : Int) := ⟨by decide +kernel, by decide⟩
theorem eX5_weightOfFalls_90 : decode cX5_weightOfFalls 90 = .ok (.iload 5, 2) ∧ 90 + 2 = 92 := ⟨by decide +kernel, rfl⟩
theorem eX5_weightOfFalls_92 : decode cX5_weightOfFalls 92 = .ok (.iload 9, 2) ∧ 92 + 2 = 94 := ⟨by decide +kernel, rfl⟩
theorem eX5_weightOfFalls_94 : decode cX5_weightOfFalls 94 = .ok (.ifCond .eq 7, 3) ∧ ((94 : Nat) : Int) + 7 = ((101 : Nat) : Int) ∧ 94 + 3 = 97 := ⟨by decide +kernel, by decide, rfl⟩
theorem eX5_weightOfFalls_97 : decode cX5_weightOfFalls 97 = .ok (.iconst 0, 1) ∧ 97 + 1 = 98 := ⟨by decide +kernel, rfl⟩
theorem eX5_weightOfFalls_98 : decode cX5_weightOfFalls 98 = .ok (.goto 5, 3) ∧ ((98 : Nat) : Int) + 5 = ((103 : Nat) : Int) := ⟨by decide +kernel, by decide⟩
theorem eX5_weightOfFalls_101 : decode cX5_weightOfFalls 101 = .ok (.bipush 10, 2) ∧ 101 + 2 = 103 := ⟨by decide +kernel, rfl⟩
theorem eX5_weightOfFalls_103 : decode cX5_weightOfFalls 103 = .ok (.imul, 1) ∧ 103 + 1 = 104 := ⟨by decide +kernel, rfl⟩
theorem eX5_weightOfFalls_104 : decode cX5_weightOfFalls 104 = .ok (.istore 5, 2) ∧ 104 + 2 = 106 := ⟨by decide +kernel, rfl⟩
theorem eX5_weightOfFalls_106 : decode cX5_weightOfFalls 106 = .ok (.iload 8, 2) ∧ 106 + 2 = 108 := ⟨by decide +kernel, rfl⟩
theorem eX5_weightOfFalls_108 : decode cX5_weightOfFalls 108 = .ok (.istore 6, 2) ∧ 108 + 2 = 110 := ⟨by decide +kernel, rfl⟩
theorem eX5_weightOfFalls_110 : decode cX5_weightOfFalls 110 = .ok (.iinc 7 1, 3) ∧ 110 + 3 = 113 := ⟨by decide +kernel, rfl⟩
theorem eX5_weightOfFalls_113 : decode cX5_weightOfFalls 113 = .ok (.goto (-98), 3) ∧ ((113 : Nat) : Int) + (-98) = ((15 : Nat) : Int) := ⟨by decide +kernel, by decide⟩
theorem eX5_weightOfFalls_116 : decode cX5_weightOfFalls 116 = .ok (.iload 5, 2) ∧ 116 + 2 = 118 := ⟨by decide +kernel, rfl⟩
theorem eX5_weightOfFalls_118 : decode cX5_weightOfFalls 118 = .ok (.ireturn, 1) := by decide +kernel
theorem eX5_holdsWithFalls_0 : decode cX5_holdsWithFalls 0 = .ok (.aload_n 0, 1) ∧ 0 + 1 = 1 := ⟨by decide +kernel, rfl⟩
theorem eX5_holdsWithFalls_1 : decode cX5_holdsWithFalls 1 = .ok (.getfield 30, 3) ∧ 1 + 3 = 4 := ⟨by decide +kernel, rfl⟩
theorem eX5_holdsWithFalls_4 : decode cX5_holdsWithFalls 4 = .ok (.aload_n 0, 1) ∧ 4 + 1 = 5 := ⟨by decide +kernel, rfl⟩
theorem eX5_holdsWithFalls_5 : decode cX5_holdsWithFalls 5 = .ok (.getfield 26, 3) ∧ 5 + 3 = 8 := ⟨by decide +kernel, rfl⟩
theorem eX5_holdsWithFalls_8 : decode cX5_holdsWithFalls 8 = .ok (.invokevirtual 165, 3) ∧ 8 + 3 = 11 := ⟨by decide +kernel, rfl⟩
theorem eX5_holdsWithFalls_11 : decode cX5_holdsWithFalls 11 = .ok (.iconst 0, 1) ∧ 11 + 1 = 12 := ⟨by decide +kernel, rfl⟩
theorem eX5_holdsWithFalls_12 : decode cX5_holdsWithFalls 12 = .ok (.istore 4, 2) ∧ 12 + 2 = 14 := ⟨by decide +kernel, rfl⟩
theorem eX5_holdsWithFalls_14 : decode cX5_holdsWithFalls 14 = .ok (.iload 4, 2) ∧ 14 + 2 = 16 := ⟨by decide +kernel, rfl⟩
theorem eX5_holdsWithFalls_16 : decode cX5_holdsWithFalls 16 = .ok (.iload_n 1, 1) ∧ 16 + 1 = 17 := ⟨by decide +kernel, rfl⟩
theorem eX5_holdsWithFalls_17 : decode cX5_holdsWithFalls 17 = .ok (.if_icmp .ge 50, 3) ∧ ((17 : Nat) : Int) + 50 = ((67 : Nat) : Int) ∧ 17 + 3 = 20 := ⟨by decide +kernel, by decide, rfl⟩
theorem eX5_holdsWithFalls_20 : decode cX5_holdsWithFalls 20 = .ok (.aload_n 0, 1) ∧ 20 + 1 = 21 := ⟨by decide +kernel, rfl⟩
theorem eX5_holdsWithFalls_21 : decode cX5_holdsWithFalls 21 = .ok (.getfield 30, 3) ∧ 21 + 3 = 24 := ⟨by decide +kernel, rfl⟩
theorem eX5_holdsWithFalls_24 : decode cX5_holdsWithFalls 24 = .ok (.dup, 1) ∧ 24 + 1 = 25 := ⟨by decide +kernel, rfl⟩
theorem eX5_holdsWithFalls_25 : decode cX5_holdsWithFalls 25 = .ok (.getfield 133, 3) ∧ 25 + 3 = 28 := ⟨by decide +kernel, rfl⟩
theorem eX5_holdsWithFalls_28 : decode cX5_holdsWithFalls 28 = .ok (.iload_n 3, 1) ∧ 28 + 1 = 29 := ⟨by decide +kernel, rfl⟩
theorem eX5_holdsWithFalls_29 : decode cX5_holdsWithFalls 29 = .ok (.iload 4, 2) ∧ 29 + 2 = 31 := ⟨by decide +kernel, rfl⟩
theorem eX5_holdsWithFalls_31 : decode cX5_holdsWithFalls 31 = .ok (.ishr, 1) ∧ 31 + 1 = 32 := ⟨by decide +kernel, rfl⟩
theorem eX5_holdsWithFalls_32 : decode cX5_holdsWithFalls 32 = .ok (.iconst 1, 1) ∧ 32 + 1 = 33 := ⟨by decide +kernel, rfl⟩
theorem eX5_holdsWithFalls_33 : decode cX5_holdsWithFalls 33 = .ok (.iand, 1) ∧ 33 + 1 = 34 := ⟨by decide +kernel, rfl⟩
theorem eX5_holdsWithFalls_34 : decode cX5_holdsWithFalls 34 = .ok (.iadd, 1) ∧ 34 + 1 = 35 := ⟨by decide +kernel, rfl⟩
theorem eX5_holdsWithFalls_35 : decode cX5_holdsWithFalls 35 = .ok (.putfield 133, 3) ∧ 35 + 3 = 38 := ⟨by decide +kernel, rfl⟩
theorem eX5_holdsWithFalls_38 : decode cX5_holdsWithFalls 38 = .ok (.aload_n 0, 1) ∧ 38 + 1 = 39 := ⟨by decide +kernel, rfl⟩
theorem eX5_holdsWithFalls_39 : decode cX5_holdsWithFalls 39 = .ok (.getfield 19, 3) ∧ 39 + 3 = 42 := ⟨by decide +kernel, rfl⟩
theorem eX5_holdsWithFalls_42 : decode cX5_holdsWithFalls 42 = .ok (.aload_n 0, 1) ∧ 42 + 1 = 43 := ⟨by decide +kernel, rfl⟩
theorem eX5_holdsWithFalls_43 : decode cX5_holdsWithFalls 43 = .ok (.getfield 30, 3) ∧ 43 + 3 = 46 := ⟨by decide +kernel, rfl⟩
theorem eX5_holdsWithFalls_46 : decode cX5_holdsWithFalls 46 = .ok (.iload_n 1, 1) ∧ 46 + 1 = 47 := ⟨by decide +kernel, rfl⟩
theorem eX5_holdsWithFalls_47 : decode cX5_holdsWithFalls 47 = .ok (.iload_n 2, 1) ∧ 47 + 1 = 48 := ⟨by decide +kernel, rfl⟩
theorem eX5_holdsWithFalls_48 : decode cX5_holdsWithFalls 48 = .ok (.iload 4, 2) ∧ 48 + 2 = 50 := ⟨by decide +kernel, rfl⟩
theorem eX5_holdsWithFalls_50 : decode cX5_holdsWithFalls 50 = .ok (.invokestatic 172, 3) ∧ 50 + 3 = 53 := ⟨by decide +kernel, rfl⟩
theorem eX5_holdsWithFalls_53 : decode cX5_holdsWithFalls 53 = .ok (.invokevirtual 129, 3) ∧ 53 + 3 = 56 := ⟨by decide +kernel, rfl⟩
theorem eX5_holdsWithFalls_56 : decode cX5_holdsWithFalls 56 = .ok (.ifCond .ne 5, 3) ∧ ((56 : Nat) : Int) + 5 = ((61 : Nat) : Int) ∧ 56 + 3 = 59 := ⟨by decide +kernel, by decide, rfl⟩
theorem eX5_holdsWithFalls_59 : decode cX5_holdsWithFalls 59 = .ok (.iconst 0, 1) ∧ 59 + 1 = 60 := ⟨by decide +kernel, rfl⟩
theorem eX5_holdsWithFalls_60 : decode cX5_holdsWithFalls 60 = .ok (.ireturn, 1) := by decide +kernel
theorem eX5_holdsWithFalls_61 : decode cX5_holdsWithFalls 61 = .ok (.iinc 4 1, 3) ∧ 61 + 3 = 64 := ⟨by decide +kernel, rfl⟩
theorem eX5_holdsWithFalls_64 : decode cX5_holdsWithFalls 64 = .ok (.goto (-50), 3) ∧ ((64 : Nat) : Int) + (-50) = ((14 : Nat) : Int) := ⟨by decide +kernel, by decide⟩
theorem eX5_holdsWithFalls_67 : decode cX5_holdsWithFalls 67 = .ok (.iconst 1, 1) ∧ 67 + 1 = 68 := ⟨by decide +kernel, rfl⟩
theorem eX5_holdsWithFalls_68 : decode cX5_holdsWithFalls 68 = .ok (.ireturn, 1) := by decide +kernel
end
section
theorem eX6_init_0 : decode cX6_init 0 = .ok (.aload_n 0, 1) ∧ 0 + 1 = 1 := ⟨by decide +kernel, rfl⟩
theorem eX6_init_1 : decode cX6_init 1 = .ok (.invokespecial 1, 3) ∧ 1 + 3 = 4 := ⟨by decide +kernel, rfl⟩
theorem eX6_init_4 : decode cX6_init 4 = .ok (.aload_n 0, 1) ∧ 4 + 1 = 5 := ⟨by decide +kernel, rfl⟩
theorem eX6_init_5 : decode cX6_init 5 = .ok (.bipush 6, 2) ∧ 5 + 2 = 7 := ⟨by decide +kernel, rfl⟩
theorem eX6_init_7 : decode cX6_init 7 = .ok (.newarray .int, 2) ∧ 7 + 2 = 9 := ⟨by decide +kernel, rfl⟩
theorem eX6_init_9 : decode cX6_init 9 = .ok (.putfield 7, 3) ∧ 9 + 3 = 12 := ⟨by decide +kernel, rfl⟩
theorem eX6_init_12 : decode cX6_init 12 = .ok (.aload_n 0, 1) ∧ 12 + 1 = 13 := ⟨by decide +kernel, rfl⟩
theorem eX6_init_13 : decode cX6_init 13 = .ok (.bipush 6, 2) ∧ 13 + 2 = 15 := ⟨by decide +kernel, rfl⟩
theorem eX6_init_15 : decode cX6_init 15 = .ok (.newarray .int, 2) ∧ 15 + 2 = 17 := ⟨by decide +kernel, rfl⟩
theorem eX6_init_17 : decode cX6_init 17 = .ok (.putfield 13, 3) ∧ 17 + 3 = 20 := ⟨by decide +kernel, rfl⟩
theorem eX6_init_20 : decode cX6_init 20 = .ok (.aload_n 0, 1) ∧ 20 + 1 = 21 := ⟨by decide +kernel, rfl⟩
theorem eX6_init_21 : decode cX6_init 21 = .ok (.bipush 6, 2) ∧ 21 + 2 = 23 := ⟨by decide +kernel, rfl⟩
theorem eX6_init_23 : decode cX6_init 23 = .ok (.newarray .int, 2) ∧ 23 + 2 = 25 := ⟨by decide +kernel, rfl⟩
theorem eX6_init_25 : decode cX6_init 25 = .ok (.putfield 16, 3) ∧ 25 + 3 = 28 := ⟨by decide +kernel, rfl⟩
theorem eX6_init_28 : decode cX6_init 28 = .ok (.aload_n 0, 1) ∧ 28 + 1 = 29 := ⟨by decide +kernel, rfl⟩
theorem eX6_init_29 : decode cX6_init 29 = .ok (.bipush 6, 2) ∧ 29 + 2 = 31 := ⟨by decide +kernel, rfl⟩
theorem eX6_init_31 : decode cX6_init 31 = .ok (.newarray .int, 2) ∧ 31 + 2 = 33 := ⟨by decide +kernel, rfl⟩
theorem eX6_init_33 : decode cX6_init 33 = .ok (.putfield 19, 3) ∧ 33 + 3 = 36 := ⟨by decide +kernel, rfl⟩
theorem eX6_init_36 : decode cX6_init 36 = .ok (.aload_n 0, 1) ∧ 36 + 1 = 37 := ⟨by decide +kernel, rfl⟩
theorem eX6_init_37 : decode cX6_init 37 = .ok (.bipush 6, 2) ∧ 37 + 2 = 39 := ⟨by decide +kernel, rfl⟩
theorem eX6_init_39 : decode cX6_init 39 = .ok (.newarray .int, 2) ∧ 39 + 2 = 41 := ⟨by decide +kernel, rfl⟩
theorem eX6_init_41 : decode cX6_init 41 = .ok (.putfield 22, 3) ∧ 41 + 3 = 44 := ⟨by decide +kernel, rfl⟩
theorem eX6_init_44 : decode cX6_init 44 = .ok (.aload_n 0, 1) ∧ 44 + 1 = 45 := ⟨by decide +kernel, rfl⟩
theorem eX6_init_45 : decode cX6_init 45 = .ok (.bipush 16, 2) ∧ 45 + 2 = 47 := ⟨by decide +kernel, rfl⟩
theorem eX6_init_47 : decode cX6_init 47 = .ok (.newarray .int, 2) ∧ 47 + 2 = 49 := ⟨by decide +kernel, rfl⟩
theorem eX6_init_49 : decode cX6_init 49 = .ok (.putfield 25, 3) ∧ 49 + 3 = 52 := ⟨by decide +kernel, rfl⟩
theorem eX6_init_52 : decode cX6_init 52 = .ok (.aload_n 0, 1) ∧ 52 + 1 = 53 := ⟨by decide +kernel, rfl⟩
theorem eX6_init_53 : decode cX6_init 53 = .ok (.bipush 48, 2) ∧ 53 + 2 = 55 := ⟨by decide +kernel, rfl⟩
theorem eX6_init_55 : decode cX6_init 55 = .ok (.newarray .int, 2) ∧ 55 + 2 = 57 := ⟨by decide +kernel, rfl⟩
theorem eX6_init_57 : decode cX6_init 57 = .ok (.putfield 28, 3) ∧ 57 + 3 = 60 := ⟨by decide +kernel, rfl⟩
theorem eX6_init_60 : decode cX6_init 60 = .ok (.aload_n 0, 1) ∧ 60 + 1 = 61 := ⟨by decide +kernel, rfl⟩
theorem eX6_init_61 : decode cX6_init 61 = .ok (.bipush 112, 2) ∧ 61 + 2 = 63 := ⟨by decide +kernel, rfl⟩
theorem eX6_init_63 : decode cX6_init 63 = .ok (.newarray .int, 2) ∧ 63 + 2 = 65 := ⟨by decide +kernel, rfl⟩
theorem eX6_init_65 : decode cX6_init 65 = .ok (.putfield 31, 3) ∧ 65 + 3 = 68 := ⟨by decide +kernel, rfl⟩
theorem eX6_init_68 : decode cX6_init 68 = .ok (.aload_n 0, 1) ∧ 68 + 1 = 69 := ⟨by decide +kernel, rfl⟩
theorem eX6_init_69 : decode cX6_init 69 = .ok (.sipush 384, 3) ∧ 69 + 3 = 72 := ⟨by decide +kernel, rfl⟩
theorem eX6_init_72 : decode cX6_init 72 = .ok (.newarray .int, 2) ∧ 72 + 2 = 74 := ⟨by decide +kernel, rfl⟩
theorem eX6_init_74 : decode cX6_init 74 = .ok (.putfield 34, 3) ∧ 74 + 3 = 77 := ⟨by decide +kernel, rfl⟩
theorem eX6_init_77 : decode cX6_init 77 = .ok (.aload_n 0, 1) ∧ 77 + 1 = 78 := ⟨by decide +kernel, rfl⟩
theorem eX6_init_78 : decode cX6_init 78 = .ok (.bipush 6, 2) ∧ 78 + 2 = 80 := ⟨by decide +kernel, rfl⟩
theorem eX6_init_80 : decode cX6_init 80 = .ok (.newarray .int, 2) ∧ 80 + 2 = 82 := ⟨by decide +kernel, rfl⟩
theorem eX6_init_82 : decode cX6_init 82 = .ok (.putfield 37, 3) ∧ 82 + 3 = 85 := ⟨by decide +kernel, rfl⟩
theorem eX6_init_85 : decode cX6_init 85 = .ok (.aload_n 0, 1) ∧ 85 + 1 = 86 := ⟨by decide +kernel, rfl⟩
theorem eX6_init_86 : decode cX6_init 86 = .ok (.bipush 6, 2) ∧ 86 + 2 = 88 := ⟨by decide +kernel, rfl⟩
theorem eX6_init_88 : decode cX6_init 88 = .ok (.newarray .int, 2) ∧ 88 + 2 = 90 := ⟨by decide +kernel, rfl⟩
theorem eX6_init_90 : decode cX6_init 90 = .ok (.putfield 40, 3) ∧ 90 + 3 = 93 := ⟨by decide +kernel, rfl⟩
theorem eX6_init_93 : decode cX6_init 93 = .ok (.aload_n 0, 1) ∧ 93 + 1 = 94 := ⟨by decide +kernel, rfl⟩
theorem eX6_init_94 : decode cX6_init 94 = .ok (.bipush 64, 2) ∧ 94 + 2 = 96 := ⟨by decide +kernel, rfl⟩
theorem eX6_init_96 : decode cX6_init 96 = .ok (.newarray .int, 2) ∧ 96 + 2 = 98 := ⟨by decide +kernel, rfl⟩
theorem eX6_init_98 : decode cX6_init 98 = .ok (.putfield 43, 3) ∧ 98 + 3 = 101 := ⟨by decide +kernel, rfl⟩
theorem eX6_init_101 : decode cX6_init 101 = .ok (.aload_n 0, 1) ∧ 101 + 1 = 102 := ⟨by decide +kernel, rfl⟩
theorem eX6_init_102 : decode cX6_init 102 = .ok (.iconst 2, 1) ∧ 102 + 1 = 103 := ⟨by decide +kernel, rfl⟩
theorem eX6_init_103 : decode cX6_init 103 = .ok (.newarray .boolean, 2) ∧ 103 + 2 = 105 := ⟨by decide +kernel, rfl⟩
theorem eX6_init_105 : decode cX6_init 105 = .ok (.putfield 46, 3) ∧ 105 + 3 = 108 := ⟨by decide +kernel, rfl⟩
theorem eX6_init_108 : decode cX6_init 108 = .ok (.aload_n 0, 1) ∧ 108 + 1 = 109 := ⟨by decide +kernel, rfl⟩
theorem eX6_init_109 : decode cX6_init 109 = .ok (.bipush 16, 2) ∧ 109 + 2 = 111 := ⟨by decide +kernel, rfl⟩
theorem eX6_init_111 : decode cX6_init 111 = .ok (.newarray .int, 2) ∧ 111 + 2 = 113 := ⟨by decide +kernel, rfl⟩
theorem eX6_init_113 : decode cX6_init 113 = .ok (.putfield 50, 3) ∧ 113 + 3 = 116 := ⟨by decide +kernel, rfl⟩
theorem eX6_init_116 : decode cX6_init 116 = .ok (.aload_n 0, 1) ∧ 116 + 1 = 117 := ⟨by decide +kernel, rfl⟩
theorem eX6_init_117 : decode cX6_init 117 = .ok (.bipush 9, 2) ∧ 117 + 2 = 119 := ⟨by decide +kernel, rfl⟩
theorem eX6_init_119 : decode cX6_init 119 = .ok (.putfield 53, 3) ∧ 119 + 3 = 122 := ⟨by decide +kernel, rfl⟩
theorem eX6_init_122 : decode cX6_init 122 = .ok (.iconst 0, 1) ∧ 122 + 1 = 123 := ⟨by decide +kernel, rfl⟩
theorem eX6_init_123 : decode cX6_init 123 = .ok (.istore_n 1, 1) ∧ 123 + 1 = 124 := ⟨by decide +kernel, rfl⟩
theorem eX6_init_124 : decode cX6_init 124 = .ok (.iload_n 1, 1) ∧ 124 + 1 = 125 := ⟨by decide +kernel, rfl⟩
theorem eX6_init_125 : decode cX6_init 125 = .ok (.iconst 5, 1) ∧ 125 + 1 = 126 := ⟨by decide +kernel, rfl⟩
theorem eX6_init_126 : decode cX6_init 126 = .ok (.if_icmp .ge 18, 3) ∧ ((126 : Nat) : Int) + 18 = ((144 : Nat) : Int) ∧ 126 + 3 = 129 := ⟨by decide +kernel, by decide, rfl⟩
theorem eX6_init_129 : decode cX6_init 129 = .ok (.aload_n 0, 1) ∧ 129 + 1 = 130 := ⟨by decide +kernel, rfl⟩
theorem eX6_init_130 : decode cX6_init 130 = .ok (.getfield 25, 3) ∧ 130 + 3 = 133 := ⟨by decide +kernel, rfl⟩
theorem eX6_init_133 : decode cX6_init 133 = .ok (.iconst 3, 1) ∧ 133 + 1 = 134 := ⟨by decide +kernel, rfl⟩
theorem eX6_init_134 : decode cX6_init 134 = .ok (.iload_n 1, 1) ∧ 134 + 1 = 135 := ⟨by decide +kernel, rfl⟩
theorem eX6_init_135 : decode cX6_init 135 = .ok (.iadd, 1) ∧ 135 + 1 = 136 := ⟨by decide +kernel, rfl⟩
theorem eX6_init_136 : decode cX6_init 136 = .ok (.iconst 1, 1) ∧ 136 + 1 = 137 := ⟨by decide +kernel, rfl⟩
theorem eX6_init_137 : decode cX6_init 137 = .ok (.iastore, 1) ∧ 137 + 1 = 138 := ⟨by decide +kernel, rfl⟩
theorem eX6_init_138 : decode cX6_init 138 = .ok (.iinc 1 1, 3) ∧ 138 + 3 = 141 := ⟨by decide +kernel, rfl⟩
theorem eX6_init_141 : decode cX6_init 141 = .ok (.goto (-17), 3) ∧ ((141 : Nat) : Int) + (-17) = ((124 : Nat) : Int) := ⟨by decide +kernel, by decide⟩
theorem eX6_init_144 : decode cX6_init 144 = .ok (.return_, 1) := by decide +kernel
theorem eX6_in_0 : decode cX6_in 0 = .ok (.lload_n 0, 1) ∧ 0 + 1 = 1 := ⟨by decide +kernel, rfl⟩
theorem eX6_in_1 : decode cX6_in 1 = .ok (.lload_n 2, 1) ∧ 1 + 1 = 2 := ⟨by decide +kernel, rfl⟩
theorem eX6_in_2 : decode cX6_in 2 = .ok (.lcmp, 1) ∧ 2 + 1 = 3 := ⟨by decide +kernel, rfl⟩
theorem eX6_in_3 : decode cX6_in 3 = .ok (.ifCond .lt 14, 3) ∧ ((3 : Nat) : Int) + 14 = ((17 : Nat) : Int) ∧ 3 + 3 = 6 := ⟨by decide +kernel, by decide, rfl⟩
theorem eX6_in_6 : decode cX6_in 6 = .ok (.lload_n 0, 1) ∧ 6 + 1 = 7 := ⟨by decide +kernel, rfl⟩
theorem eX6_in_7 : decode cX6_in 7 = .ok (.lload 4, 2) ∧ 7 + 2 = 9 := ⟨by decide +kernel, rfl⟩
theorem eX6_in_9 : decode cX6_in 9 = .ok (.lcmp, 1) ∧ 9 + 1 = 10 := ⟨by decide +kernel, rfl⟩
theorem eX6_in_10 : decode cX6_in 10 = .ok (.ifCond .gt 7, 3) ∧ ((10 : Nat) : Int) + 7 = ((17 : Nat) : Int) ∧ 10 + 3 = 13 := ⟨by decide +kernel, by decide, rfl⟩
theorem eX6_in_13 : decode cX6_in 13 = .ok (.iconst 1, 1) ∧ 13 + 1 = 14 := ⟨by decide +kernel, rfl⟩
theorem eX6_in_14 : decode cX6_in 14 = .ok (.goto 4, 3) ∧ ((14 : Nat) : Int) + 4 = ((18 : Nat) : Int) := ⟨by decide +kernel, by decide⟩
theorem eX6_in_17 : decode cX6_in 17 = .ok (.iconst 0, 1) ∧ 17 + 1 = 18 := ⟨by decide +kernel, rfl⟩
theorem eX6_in_18 : decode cX6_in 18 = .ok (.ireturn, 1) := by decide +kernel
theorem eX6_has_0 : decode cX6_has 0 = .ok (.iload_n 0, 1) ∧ 0 + 1 = 1 := ⟨by decide +kernel, rfl⟩
theorem eX6_has_1 : decode cX6_has 1 = .ok (.iload_n 1, 1) ∧ 1 + 1 = 2 := ⟨by decide +kernel, rfl⟩
theorem eX6_has_2 : decode cX6_has 2 = .ok (.ishr, 1) ∧ 2 + 1 = 3 := ⟨by decide +kernel, rfl⟩
theorem eX6_has_3 : decode cX6_has 3 = .ok (.iconst 1, 1) ∧ 3 + 1 = 4 := ⟨by decide +kernel, rfl⟩
theorem eX6_has_4 : decode cX6_has 4 = .ok (.iand, 1) ∧ 4 + 1 = 5 := ⟨by decide +kernel, rfl⟩
theorem eX6_has_5 : decode cX6_has 5 = .ok (.iconst 1, 1) ∧ 5 + 1 = 6 := ⟨by decide +kernel, rfl⟩
theorem eX6_has_6 : decode cX6_has 6 = .ok (.if_icmp .ne 7, 3) ∧ ((6 : Nat) : Int) + 7 = ((13 : Nat) : Int) ∧ 6 + 3 = 9 := ⟨by decide +kernel, by decide, rfl⟩
theorem eX6_has_9 : decode cX6_has 9 = .ok (.iconst 1, 1) ∧ 9 + 1 = 10 := ⟨by decide +kernel, rfl⟩
theorem eX6_has_10 : decode cX6_has 10 = .ok (.goto 4, 3) ∧ ((10 : Nat) : Int) + 4 = ((14 : Nat) : Int) := ⟨by decide +kernel, by decide⟩
theorem eX6_has_13 : decode cX6_has 13 = .ok (.iconst 0, 1) ∧ 13 + 1 = 14 := ⟨by decide +kernel, rfl⟩
theorem eX6_has_14 : decode cX6_has 14 = .ok (.ireturn, 1) := by decide +kernel
theorem eX6_ones_0 : decode cX6_ones 0 = .ok (.iconst 0, 1) ∧ 0 + 1 = 1 := ⟨by decide +kernel, rfl⟩
theorem eX6_ones_1 : decode cX6_ones 1 = .ok (.istore_n 1, 1) ∧ 1 + 1 = 2 := ⟨by decide +kernel, rfl⟩
theorem eX6_ones_2 : decode cX6_ones 2 = .ok (.iconst 0, 1) ∧ 2 + 1 = 3 := ⟨by decide +kernel, rfl⟩
theorem eX6_ones_3 : decode cX6_ones 3 = .ok (.istore_n 2, 1) ∧ 3 + 1 = 4 := ⟨by decide +kernel, rfl⟩
theorem eX6_ones_4 : decode cX6_ones 4 = .ok (.iload_n 2, 1) ∧ 4 + 1 = 5 := ⟨by decide +kernel, rfl⟩
theorem eX6_ones_5 : decode cX6_ones 5 = .ok (.bipush 6, 2) ∧ 5 + 2 = 7 := ⟨by decide +kernel, rfl⟩
theorem eX6_ones_7 : decode cX6_ones 7 = .ok (.if_icmp .ge 17, 3) ∧ ((7 : Nat) : Int) + 17 = ((24 : Nat) : Int) ∧ 7 + 3 = 10 := ⟨by decide +kernel, by decide, rfl⟩
theorem eX6_ones_10 : decode cX6_ones 10 = .ok (.iload_n 1, 1) ∧ 10 + 1 = 11 := ⟨by decide +kernel, rfl⟩
theorem eX6_ones_11 : decode cX6_ones 11 = .ok (.iload_n 0, 1) ∧ 11 + 1 = 12 := ⟨by decide +kernel, rfl⟩
theorem eX6_ones_12 : decode cX6_ones 12 = .ok (.iload_n 2, 1) ∧ 12 + 1 = 13 := ⟨by decide +kernel, rfl⟩
theorem eX6_ones_13 : decode cX6_ones 13 = .ok (.ishr, 1) ∧ 13 + 1 = 14 := ⟨by decide +kernel, rfl⟩
theorem eX6_ones_14 : decode cX6_ones 14 = .ok (.iconst 1, 1) ∧ 14 + 1 = 15 := ⟨by decide +kernel, rfl⟩
theorem eX6_ones_15 : decode cX6_ones 15 = .ok (.iand, 1) ∧ 15 + 1 = 16 := ⟨by decide +kernel, rfl⟩
theorem eX6_ones_16 : decode cX6_ones 16 = .ok (.iadd, 1) ∧ 16 + 1 = 17 := ⟨by decide +kernel, rfl⟩
theorem eX6_ones_17 : decode cX6_ones 17 = .ok (.istore_n 1, 1) ∧ 17 + 1 = 18 := ⟨by decide +kernel, rfl⟩
theorem eX6_ones_18 : decode cX6_ones 18 = .ok (.iinc 2 1, 3) ∧ 18 + 3 = 21 := ⟨by decide +kernel, rfl⟩
theorem eX6_ones_21 : decode cX6_ones 21 = .ok (.goto (-17), 3) ∧ ((21 : Nat) : Int) + (-17) = ((4 : Nat) : Int) := ⟨by decide +kernel, by decide⟩
theorem eX6_ones_24 : decode cX6_ones 24 = .ok (.iload_n 1, 1) ∧ 24 + 1 = 25 := ⟨by decide +kernel, rfl⟩
theorem eX6_ones_25 : decode cX6_ones 25 = .ok (.ireturn, 1) := by decide +kernel
theorem eX6_write_0 : decode cX6_write 0 = .ok (.iload_n 1, 1) ∧ 0 + 1 = 1 := ⟨by decide +kernel, rfl⟩
theorem eX6_write_1 : decode cX6_write 1 = .ok (.i2l, 1) ∧ 1 + 1 = 2 := ⟨by decide +kernel, rfl⟩
theorem eX6_write_2 : decode cX6_write 2 = .ok (.lconst 0, 1) ∧ 2 + 1 = 3 := ⟨by decide +kernel, rfl⟩
theorem eX6_write_3 : decode cX6_write 3 = .ok (.ldc2_w 57, 3) ∧ 3 + 3 = 6 := ⟨by decide +kernel, rfl⟩
theorem eX6_write_6 : decode cX6_write 6 = .ok (.invokestatic 59, 3) ∧ 6 + 3 = 9 := ⟨by decide +kernel, rfl⟩
theorem eX6_write_9 : decode cX6_write 9 = .ok (.ifCond .ne 6, 3) ∧ ((9 : Nat) : Int) + 6 = ((15 : Nat) : Int) ∧ 9 + 3 = 12 := ⟨by decide +kernel, by decide, rfl⟩
theorem eX6_write_12 : decode cX6_write 12 = .ok (.bipush (-2), 2) ∧ 12 + 2 = 14 := ⟨by decide +kernel, rfl⟩
theorem eX6_write_14 : decode cX6_write 14 = .ok (.ireturn, 1) := by decide +kernel
theorem eX6_write_15 : decode cX6_write 15 = .ok (.aload_n 0, 1) ∧ 15 + 1 = 16 := ⟨by decide +kernel, rfl⟩
theorem eX6_write_16 : decode cX6_write 16 = .ok (.getfield 63, 3) ∧ 16 + 3 = 19 := ⟨by decide +kernel, rfl⟩
theorem eX6_write_19 : decode cX6_write 19 = .ok (.bipush 48, 2) ∧ 19 + 2 = 21 := ⟨by decide +kernel, rfl⟩
theorem eX6_write_21 : decode cX6_write 21 = .ok (.if_icmp .ne 6, 3) ∧ ((21 : Nat) : Int) + 6 = ((27 : Nat) : Int) ∧ 21 + 3 = 24 := ⟨by decide +kernel, by decide, rfl⟩
theorem eX6_write_24 : decode cX6_write 24 = .ok (.bipush (-4), 2) ∧ 24 + 2 = 26 := ⟨by decide +kernel, rfl⟩
theorem eX6_write_26 : decode cX6_write 26 = .ok (.ireturn, 1) := by decide +kernel
theorem eX6_write_27 : decode cX6_write 27 = .ok (.aload_n 0, 1) ∧ 27 + 1 = 28 := ⟨by decide +kernel, rfl⟩
theorem eX6_write_28 : decode cX6_write 28 = .ok (.getfield 28, 3) ∧ 28 + 3 = 31 := ⟨by decide +kernel, rfl⟩
theorem eX6_write_31 : decode cX6_write 31 = .ok (.aload_n 0, 1) ∧ 31 + 1 = 32 := ⟨by decide +kernel, rfl⟩
theorem eX6_write_32 : decode cX6_write 32 = .ok (.getfield 63, 3) ∧ 32 + 3 = 35 := ⟨by decide +kernel, rfl⟩
theorem eX6_write_35 : decode cX6_write 35 = .ok (.iload_n 1, 1) ∧ 35 + 1 = 36 := ⟨by decide +kernel, rfl⟩
theorem eX6_write_36 : decode cX6_write 36 = .ok (.iastore, 1) ∧ 36 + 1 = 37 := ⟨by decide +kernel, rfl⟩
theorem eX6_write_37 : decode cX6_write 37 = .ok (.aload_n 0, 1) ∧ 37 + 1 = 38 := ⟨by decide +kernel, rfl⟩
theorem eX6_write_38 : decode cX6_write 38 = .ok (.dup, 1) ∧ 38 + 1 = 39 := ⟨by decide +kernel, rfl⟩
theorem eX6_write_39 : decode cX6_write 39 = .ok (.getfield 63, 3) ∧ 39 + 3 = 42 := ⟨by decide +kernel, rfl⟩
theorem eX6_write_42 : decode cX6_write 42 = .ok (.iconst 1, 1) ∧ 42 + 1 = 43 := ⟨by decide +kernel, rfl⟩
theorem eX6_write_43 : decode cX6_write 43 = .ok (.iadd, 1) ∧ 43 + 1 = 44 := ⟨by decide +kernel, rfl⟩
theorem eX6_write_44 : decode cX6_write 44 = .ok (.putfield 63, 3) ∧ 44 + 3 = 47 := ⟨by decide +kernel, rfl⟩
theorem eX6_write_47 : decode cX6_write 47 = .ok (.aload_n 0, 1) ∧ 47 + 1 = 48 := ⟨by decide +kernel, rfl⟩
theorem eX6_write_48 : decode cX6_write 48 = .ok (.getfield 63, 3) ∧ 48 + 3 = 51 := ⟨by decide +kernel, rfl⟩
theorem eX6_write_51 : decode cX6_write 51 = .ok (.ireturn, 1) := by decide +kernel
theorem eX6_wipe_0 : decode cX6_wipe 0 = .ok (.aload_n 0, 1) ∧ 0 + 1 = 1 := ⟨by decide +kernel, rfl⟩
theorem eX6_wipe_1 : decode cX6_wipe 1 = .ok (.getfield 63, 3) ∧ 1 + 3 = 4 := ⟨by decide +kernel, rfl⟩
theorem eX6_wipe_4 : decode cX6_wipe 4 = .ok (.istore_n 1, 1) ∧ 4 + 1 = 5 := ⟨by decide +kernel, rfl⟩
theorem eX6_wipe_5 : decode cX6_wipe 5 = .ok (.aload_n 0, 1) ∧ 5 + 1 = 6 := ⟨by decide +kernel, rfl⟩
theorem eX6_wipe_6 : decode cX6_wipe 6 = .ok (.iconst 0, 1) ∧ 6 + 1 = 7 := ⟨by decide +kernel, rfl⟩
theorem eX6_wipe_7 : decode cX6_wipe 7 = .ok (.putfield 63, 3) ∧ 7 + 3 = 10 := ⟨by decide +kernel, rfl⟩
theorem eX6_wipe_10 : decode cX6_wipe 10 = .ok (.iload_n 1, 1) ∧ 10 + 1 = 11 := ⟨by decide +kernel, rfl⟩
theorem eX6_wipe_11 : decode cX6_wipe 11 = .ok (.ireturn, 1) := by decide +kernel
theorem eX6_mayBe_0 : decode cX6_mayBe 0 = .ok (.aload_n 0, 1) ∧ 0 + 1 = 1 := ⟨by decide +kernel, rfl⟩
theorem eX6_mayBe_1 : decode cX6_mayBe 1 = .ok (.getfield 28, 3) ∧ 1 + 3 = 4 := ⟨by decide +kernel, rfl⟩
theorem eX6_mayBe_4 : decode cX6_mayBe 4 = .ok (.iload_n 1, 1) ∧ 4 + 1 = 5 := ⟨by decide +kernel, rfl⟩
theorem eX6_mayBe_5 : decode cX6_mayBe 5 = .ok (.iaload, 1) ∧ 5 + 1 = 6 := ⟨by decide +kernel, rfl⟩
theorem eX6_mayBe_6 : decode cX6_mayBe 6 = .ok (.bipush 48, 2) ∧ 6 + 2 = 8 := ⟨by decide +kernel, rfl⟩
theorem eX6_mayBe_8 : decode cX6_mayBe 8 = .ok (.isub, 1) ∧ 8 + 1 = 9 := ⟨by decide +kernel, rfl⟩
theorem eX6_mayBe_9 : decode cX6_mayBe 9 = .ok (.istore_n 2, 1) ∧ 9 + 1 = 10 := ⟨by decide +kernel, rfl⟩
theorem eX6_mayBe_10 : decode cX6_mayBe 10 = .ok (.iload_n 1, 1) ∧ 10 + 1 = 11 := ⟨by decide +kernel, rfl⟩
theorem eX6_mayBe_11 : decode cX6_mayBe 11 = .ok (.bipush 8, 2) ∧ 11 + 2 = 13 := ⟨by decide +kernel, rfl⟩
theorem eX6_mayBe_13 : decode cX6_mayBe 13 = .ok (.if_icmp .ge 64, 3) ∧ ((13 : Nat) : Int) + 64 = ((77 : Nat) : Int) ∧ 13 + 3 = 16 := ⟨by decide +kernel, by decide, rfl⟩
theorem eX6_mayBe_16 : decode cX6_mayBe 16 = .ok (.iload_n 1, 1) ∧ 16 + 1 = 17 := ⟨by decide +kernel, rfl⟩
theorem eX6_mayBe_17 : decode cX6_mayBe 17 = .ok (.ifCond .ne 22, 3) ∧ ((17 : Nat) : Int) + 22 = ((39 : Nat) : Int) ∧ 17 + 3 = 20 := ⟨by decide +kernel, by decide, rfl⟩
theorem eX6_mayBe_20 : decode cX6_mayBe 20 = .ok (.aload_n 0, 1) ∧ 20 + 1 = 21 := ⟨by decide +kernel, rfl⟩
theorem eX6_mayBe_21 : decode cX6_mayBe 21 = .ok (.getfield 28, 3) ∧ 21 + 3 = 24 := ⟨by decide +kernel, rfl⟩
theorem eX6_mayBe_24 : decode cX6_mayBe 24 = .ok (.iconst 0, 1) ∧ 24 + 1 = 25 := ⟨by decide +kernel, rfl⟩
theorem eX6_mayBe_25 : decode cX6_mayBe 25 = .ok (.iaload, 1) ∧ 25 + 1 = 26 := ⟨by decide +kernel, rfl⟩
theorem eX6_mayBe_26 : decode cX6_mayBe 26 = .ok (.bipush 78, 2) ∧ 26 + 2 = 28 := ⟨by decide +kernel, rfl⟩
theorem eX6_mayBe_28 : decode cX6_mayBe 28 = .ok (.if_icmp .ne 7, 3) ∧ ((28 : Nat) : Int) + 7 = ((35 : Nat) : Int) ∧ 28 + 3 = 31 := ⟨by decide +kernel, by decide, rfl⟩
theorem eX6_mayBe_31 : decode cX6_mayBe 31 = .ok (.iconst 1, 1) ∧ 31 + 1 = 32 := ⟨by decide +kernel, rfl⟩
theorem eX6_mayBe_32 : decode cX6_mayBe 32 = .ok (.goto 44, 3) ∧ ((32 : Nat) : Int) + 44 = ((76 : Nat) : Int) := ⟨by decide +kernel, by decide⟩
theorem eX6_mayBe_35 : decode cX6_mayBe 35 = .ok (.iconst 0, 1) ∧ 35 + 1 = 36 := ⟨by decide +kernel, rfl⟩
theorem eX6_mayBe_36 : decode cX6_mayBe 36 = .ok (.goto 40, 3) ∧ ((36 : Nat) : Int) + 40 = ((76 : Nat) : Int) := ⟨by decide +kernel, by decide⟩
theorem eX6_mayBe_39 : decode cX6_mayBe 39 = .ok (.iload_n 1, 1) ∧ 39 + 1 = 40 := ⟨by decide +kernel, rfl⟩
theorem eX6_mayBe_40 : decode cX6_mayBe 40 = .ok (.iconst 1, 1) ∧ 40 + 1 = 41 := ⟨by decide +kernel, rfl⟩
theorem eX6_mayBe_41 : decode cX6_mayBe 41 = .ok (.if_icmp .ne 15, 3) ∧ ((41 : Nat) : Int) + 15 = ((56 : Nat) : Int) ∧ 41 + 3 = 44 := ⟨by decide +kernel, by decide, rfl⟩
theorem eX6_mayBe_44 : decode cX6_mayBe 44 = .ok (.iload_n 2, 1) ∧ 44 + 1 = 45 := ⟨by decide +kernel, rfl⟩
theorem eX6_mayBe_45 : decode cX6_mayBe 45 = .ok (.i2l, 1) ∧ 45 + 1 = 46 := ⟨by decide +kernel, rfl⟩
theorem eX6_mayBe_46 : decode cX6_mayBe 46 = .ok (.lconst 1, 1) ∧ 46 + 1 = 47 := ⟨by decide +kernel, rfl⟩
theorem eX6_mayBe_47 : decode cX6_mayBe 47 = .ok (.ldc2_w 66, 3) ∧ 47 + 3 = 50 := ⟨by decide +kernel, rfl⟩
theorem eX6_mayBe_50 : decode cX6_mayBe 50 = .ok (.invokestatic 59, 3) ∧ 50 + 3 = 53 := ⟨by decide +kernel, rfl⟩
theorem eX6_mayBe_53 : decode cX6_mayBe 53 = .ok (.goto 23, 3) ∧ ((53 : Nat) : Int) + 23 = ((76 : Nat) : Int) := ⟨by decide +kernel, by decide⟩
theorem eX6_mayBe_56 : decode cX6_mayBe 56 = .ok (.iload_n 2, 1) ∧ 56 + 1 = 57 := ⟨by decide +kernel, rfl⟩
theorem eX6_mayBe_57 : decode cX6_mayBe 57 = .ok (.i2l, 1) ∧ 57 + 1 = 58 := ⟨by decide +kernel, rfl⟩
theorem eX6_mayBe_58 : decode cX6_mayBe 58 = .ok (.lconst 0, 1) ∧ 58 + 1 = 59 := ⟨by decide +kernel, rfl⟩
theorem eX6_mayBe_59 : decode cX6_mayBe 59 = .ok (.iload_n 1, 1) ∧ 59 + 1 = 60 := ⟨by decide +kernel, rfl⟩
theorem eX6_mayBe_60 : decode cX6_mayBe 60 = .ok (.iconst 2, 1) ∧ 60 + 1 = 61 := ⟨by decide +kernel, rfl⟩
theorem eX6_mayBe_61 : decode cX6_mayBe 61 = .ok (.if_icmp .ne 9, 3) ∧ ((61 : Nat) : Int) + 9 = ((70 : Nat) : Int) ∧ 61 + 3 = 64 := ⟨by decide +kernel, by decide, rfl⟩
theorem eX6_mayBe_64 : decode cX6_mayBe 64 = .ok (.ldc2_w 68, 3) ∧ 64 + 3 = 67 := ⟨by decide +kernel, rfl⟩
theorem eX6_mayBe_67 : decode cX6_mayBe 67 = .ok (.goto 6, 3) ∧ ((67 : Nat) : Int) + 6 = ((73 : Nat) : Int) := ⟨by decide +kernel, by decide⟩
theorem eX6_mayBe_70 : decode cX6_mayBe 70 = .ok (.ldc2_w 70, 3) ∧ 70 + 3 = 73 := ⟨by decide +kernel, rfl⟩
theorem eX6_mayBe_73 : decode cX6_mayBe 73 = .ok (.invokestatic 59, 3) ∧ 73 + 3 = 76 := ⟨by decide +kernel, rfl⟩
theorem eX6_mayBe_76 : decode cX6_mayBe 76 = .ok (.ireturn, 1) := by decide +kernel
theorem eX6_mayBe_77 : decode cX6_mayBe 77 = .ok (.iload_n 1, 1) ∧ 77 + 1 = 78 := ⟨by decide +kernel, rfl⟩
theorem eX6_mayBe_78 : decode cX6_mayBe 78 = .ok (.bipush 8, 2) ∧ 78 + 2 = 80 := ⟨by decide +kernel, rfl⟩
theorem eX6_mayBe_80 : decode cX6_mayBe 80 = .ok (.isub, 1) ∧ 80 + 1 = 81 := ⟨by decide +kernel, rfl⟩
theorem eX6_mayBe_81 : decode cX6_mayBe 81 = .ok (.bipush 6, 2) ∧ 81 + 2 = 83 := ⟨by decide +kernel, rfl⟩
theorem eX6_mayBe_83 : decode cX6_mayBe 83 = .ok (.irem, 1) ∧ 83 + 1 = 84 := ⟨by decide +kernel, rfl⟩
theorem eX6_mayBe_84 : decode cX6_mayBe 84 = .ok (.tableswitch 110 0 4 #[36, 59, 69, 79, 100], 36) := by decide +kernel
theorem eX6_mayBe_120 : decode cX6_mayBe 120 = .ok (.iload_n 1, 1) ∧ 120 + 1 = 121 := ⟨by decide +kernel, rfl⟩
theorem eX6_mayBe_121 : decode cX6_mayBe 121 = .ok (.bipush 44, 2) ∧ 121 + 2 = 123 := ⟨by decide +kernel, rfl⟩
theorem eX6_mayBe_123 : decode cX6_mayBe 123 = .ok (.if_icmp .ge 18, 3) ∧ ((123 : Nat) : Int) + 18 = ((141 : Nat) : Int) ∧ 123 + 3 = 126 := ⟨by decide +kernel, by decide, rfl⟩
theorem eX6_mayBe_126 : decode cX6_mayBe 126 = .ok (.aload_n 0, 1) ∧ 126 + 1 = 127 := ⟨by decide +kernel, rfl⟩
theorem eX6_mayBe_127 : decode cX6_mayBe 127 = .ok (.getfield 28, 3) ∧ 127 + 3 = 130 := ⟨by decide +kernel, rfl⟩
theorem eX6_mayBe_130 : decode cX6_mayBe 130 = .ok (.iload_n 1, 1) ∧ 130 + 1 = 131 := ⟨by decide +kernel, rfl⟩
theorem eX6_mayBe_131 : decode cX6_mayBe 131 = .ok (.iaload, 1) ∧ 131 + 1 = 132 := ⟨by decide +kernel, rfl⟩
theorem eX6_mayBe_132 : decode cX6_mayBe 132 = .ok (.bipush 87, 2) ∧ 132 + 2 = 134 := ⟨by decide +kernel, rfl⟩
theorem eX6_mayBe_134 : decode cX6_mayBe 134 = .ok (.if_icmp .ne 7, 3) ∧ ((134 : Nat) : Int) + 7 = ((141 : Nat) : Int) ∧ 134 + 3 = 137 := ⟨by decide +kernel, by decide, rfl⟩
theorem eX6_mayBe_137 : decode cX6_mayBe 137 = .ok (.iconst 1, 1) ∧ 137 + 1 = 138 := ⟨by decide +kernel, rfl⟩
theorem eX6_mayBe_138 : decode cX6_mayBe 138 = .ok (.goto 4, 3) ∧ ((138 : Nat) : Int) + 4 = ((142 : Nat) : Int) := ⟨by decide +kernel, by decide⟩
theorem eX6_mayBe_141 : decode cX6_mayBe 141 = .ok (.iconst 0, 1) ∧ 141 + 1 = 142 := ⟨by decide +kernel, rfl⟩
theorem eX6_mayBe_142 : decode cX6_mayBe 142 = .ok (.ireturn, 1) := by decide +kernel
theorem eX6_mayBe_143 : decode cX6_mayBe 143 = .ok (.iload_n 2, 1) ∧ 143 + 1 = 144 := ⟨by decide +kernel, rfl⟩
theorem eX6_mayBe_144 : decode cX6_mayBe 144 = .ok (.i2l, 1) ∧ 144 + 1 = 145 := ⟨by decide +kernel, rfl⟩
theorem eX6_mayBe_145 : decode cX6_mayBe 145 = .ok (.lconst 0, 1) ∧ 145 + 1 = 146 := ⟨by decide +kernel, rfl⟩
theorem eX6_mayBe_146 : decode cX6_mayBe 146 = .ok (.ldc2_w 68, 3) ∧ 146 + 3 = 149 := ⟨by decide +kernel, rfl⟩
theorem eX6_mayBe_149 : decode cX6_mayBe 149 = .ok (.invokestatic 59, 3) ∧ 149 + 3 = 152 := ⟨by decide +kernel, rfl⟩
theorem eX6_mayBe_152 : decode cX6_mayBe 152 = .ok (.ireturn, 1) := by decide +kernel
theorem eX6_mayBe_153 : decode cX6_mayBe 153 = .ok (.iload_n 2, 1) ∧ 153 + 1 = 154 := ⟨by decide +kernel, rfl⟩
theorem eX6_mayBe_154 : decode cX6_mayBe 154 = .ok (.i2l, 1) ∧ 154 + 1 = 155 := ⟨by decide +kernel, rfl⟩
theorem eX6_mayBe_155 : decode cX6_mayBe 155 = .ok (.lconst 0, 1) ∧ 155 + 1 = 156 := ⟨by decide +kernel, rfl⟩
theorem eX6_mayBe_156 : decode cX6_mayBe 156 = .ok (.ldc2_w 66, 3) ∧ 156 + 3 = 159 := ⟨by decide +kernel, rfl⟩
theorem eX6_mayBe_159 : decode cX6_mayBe 159 = .ok (.invokestatic 59, 3) ∧ 159 + 3 = 162 := ⟨by decide +kernel, rfl⟩
theorem eX6_mayBe_162 : decode cX6_mayBe 162 = .ok (.ireturn, 1) := by decide +kernel
theorem eX6_mayBe_163 : decode cX6_mayBe 163 = .ok (.iload_n 2, 1) ∧ 163 + 1 = 164 := ⟨by decide +kernel, rfl⟩
theorem eX6_mayBe_164 : decode cX6_mayBe 164 = .ok (.i2l, 1) ∧ 164 + 1 = 165 := ⟨by decide +kernel, rfl⟩
theorem eX6_mayBe_165 : decode cX6_mayBe 165 = .ok (.aload_n 0, 1) ∧ 165 + 1 = 166 := ⟨by decide +kernel, rfl⟩
theorem eX6_mayBe_166 : decode cX6_mayBe 166 = .ok (.getfield 28, 3) ∧ 166 + 3 = 169 := ⟨by decide +kernel, rfl⟩
theorem eX6_mayBe_169 : decode cX6_mayBe 169 = .ok (.iload_n 1, 1) ∧ 169 + 1 = 170 := ⟨by decide +kernel, rfl⟩
theorem eX6_mayBe_170 : decode cX6_mayBe 170 = .ok (.iconst 1, 1) ∧ 170 + 1 = 171 := ⟨by decide +kernel, rfl⟩
theorem eX6_mayBe_171 : decode cX6_mayBe 171 = .ok (.isub, 1) ∧ 171 + 1 = 172 := ⟨by decide +kernel, rfl⟩
theorem eX6_mayBe_172 : decode cX6_mayBe 172 = .ok (.iaload, 1) ∧ 172 + 1 = 173 := ⟨by decide +kernel, rfl⟩
theorem eX6_mayBe_173 : decode cX6_mayBe 173 = .ok (.bipush 48, 2) ∧ 173 + 2 = 175 := ⟨by decide +kernel, rfl⟩
theorem eX6_mayBe_175 : decode cX6_mayBe 175 = .ok (.isub, 1) ∧ 175 + 1 = 176 := ⟨by decide +kernel, rfl⟩
theorem eX6_mayBe_176 : decode cX6_mayBe 176 = .ok (.i2l, 1) ∧ 176 + 1 = 177 := ⟨by decide +kernel, rfl⟩
theorem eX6_mayBe_177 : decode cX6_mayBe 177 = .ok (.ldc2_w 66, 3) ∧ 177 + 3 = 180 := ⟨by decide +kernel, rfl⟩
theorem eX6_mayBe_180 : decode cX6_mayBe 180 = .ok (.invokestatic 59, 3) ∧ 180 + 3 = 183 := ⟨by decide +kernel, rfl⟩
theorem eX6_mayBe_183 : decode cX6_mayBe 183 = .ok (.ireturn, 1) := by decide +kernel
theorem eX6_mayBe_184 : decode cX6_mayBe 184 = .ok (.iload_n 2, 1) ∧ 184 + 1 = 185 := ⟨by decide +kernel, rfl⟩
theorem eX6_mayBe_185 : decode cX6_mayBe 185 = .ok (.i2l, 1) ∧ 185 + 1 = 186 := ⟨by decide +kernel, rfl⟩
theorem eX6_mayBe_186 : decode cX6_mayBe 186 = .ok (.lconst 1, 1) ∧ 186 + 1 = 187 := ⟨by decide +kernel, rfl⟩
theorem eX6_mayBe_187 : decode cX6_mayBe 187 = .ok (.ldc2_w 70, 3) ∧ 187 + 3 = 190 := ⟨by decide +kernel, rfl⟩
theorem eX6_mayBe_190 : decode cX6_mayBe 190 = .ok (.invokestatic 59, 3) ∧ 190 + 3 = 193 := ⟨by decide +kernel, rfl⟩
theorem eX6_mayBe_193 : decode cX6_mayBe 193 = .ok (.ireturn, 1) := by decide +kernel
theorem eX6_mayBe_194 : decode cX6_mayBe 194 = .ok (.iload_n 2, 1) ∧ 194 + 1 = 195 := ⟨by decide +kernel, rfl⟩
theorem eX6_mayBe_195 : decode cX6_mayBe 195 = .ok (.i2l, 1) ∧ 195 + 1 = 196 := ⟨by decide +kernel, rfl⟩
theorem eX6_mayBe_196 : decode cX6_mayBe 196 = .ok (.lconst 0, 1) ∧ 196 + 1 = 197 := ⟨by decide +kernel, rfl⟩
theorem eX6_mayBe_197 : decode cX6_mayBe 197 = .ok (.ldc2_w 70, 3) ∧ 197 + 3 = 200 := ⟨by decide +kernel, rfl⟩
theorem eX6_mayBe_200 : decode cX6_mayBe 200 = .ok (.invokestatic 59, 3) ∧ 200 + 3 = 203 := ⟨by decide +kernel, rfl⟩
theorem eX6_mayBe_203 : decode cX6_mayBe 203 = .ok (.ireturn, 1) := by decide +kernel
theorem eX6_fault_0 : decode cX6_fault 0 = .ok (.iconst 0, 1) ∧ 0 + 1 = 1 := ⟨by decide +kernel, rfl⟩
theorem eX6_fault_1 : decode cX6_fault 1 = .ok (.istore_n 1, 1) ∧ 1 + 1 = 2 := ⟨by decide +kernel, rfl⟩
theorem eX6_fault_2 : decode cX6_fault 2 = .ok (.iload_n 1, 1) ∧ 2 + 1 = 3 := ⟨by decide +kernel, rfl⟩
theorem eX6_fault_3 : decode cX6_fault 3 = .ok (.aload_n 0, 1) ∧ 3 + 1 = 4 := ⟨by decide +kernel, rfl⟩
theorem eX6_fault_4 : decode cX6_fault 4 = .ok (.getfield 63, 3) ∧ 4 + 3 = 7 := ⟨by decide +kernel, rfl⟩
theorem eX6_fault_7 : decode cX6_fault 7 = .ok (.if_icmp .ge 19, 3) ∧ ((7 : Nat) : Int) + 19 = ((26 : Nat) : Int) ∧ 7 + 3 = 10 := ⟨by decide +kernel, by decide, rfl⟩
theorem eX6_fault_10 : decode cX6_fault 10 = .ok (.aload_n 0, 1) ∧ 10 + 1 = 11 := ⟨by decide +kernel, rfl⟩
theorem eX6_fault_11 : decode cX6_fault 11 = .ok (.iload_n 1, 1) ∧ 11 + 1 = 12 := ⟨by decide +kernel, rfl⟩
theorem eX6_fault_12 : decode cX6_fault 12 = .ok (.invokevirtual 72, 3) ∧ 12 + 3 = 15 := ⟨by decide +kernel, rfl⟩
theorem eX6_fault_15 : decode cX6_fault 15 = .ok (.ifCond .ne 5, 3) ∧ ((15 : Nat) : Int) + 5 = ((20 : Nat) : Int) ∧ 15 + 3 = 18 := ⟨by decide +kernel, by decide, rfl⟩
theorem eX6_fault_18 : decode cX6_fault 18 = .ok (.iload_n 1, 1) ∧ 18 + 1 = 19 := ⟨by decide +kernel, rfl⟩
theorem eX6_fault_19 : decode cX6_fault 19 = .ok (.ireturn, 1) := by decide +kernel
theorem eX6_fault_20 : decode cX6_fault 20 = .ok (.iinc 1 1, 3) ∧ 20 + 3 = 23 := ⟨by decide +kernel, rfl⟩
theorem eX6_fault_23 : decode cX6_fault 23 = .ok (.goto (-21), 3) ∧ ((23 : Nat) : Int) + (-21) = ((2 : Nat) : Int) := ⟨by decide +kernel, by decide⟩
theorem eX6_fault_26 : decode cX6_fault 26 = .ok (.aload_n 0, 1) ∧ 26 + 1 = 27 := ⟨by decide +kernel, rfl⟩
theorem eX6_fault_27 : decode cX6_fault 27 = .ok (.getfield 63, 3) ∧ 27 + 3 = 30 := ⟨by decide +kernel, rfl⟩
theorem eX6_fault_30 : decode cX6_fault 30 = .ok (.bipush 7, 2) ∧ 30 + 2 = 32 := ⟨by decide +kernel, rfl⟩
theorem eX6_fault_32 : decode cX6_fault 32 = .ok (.if_icmp .le 21, 3) ∧ ((32 : Nat) : Int) + 21 = ((53 : Nat) : Int) ∧ 32 + 3 = 35 := ⟨by decide +kernel, by decide, rfl⟩
theorem eX6_fault_35 : decode cX6_fault 35 = .ok (.aload_n 0, 1) ∧ 35 + 1 = 36 := ⟨by decide +kernel, rfl⟩
theorem eX6_fault_36 : decode cX6_fault 36 = .ok (.getfield 63, 3) ∧ 36 + 3 = 39 := ⟨by decide +kernel, rfl⟩
theorem eX6_fault_39 : decode cX6_fault 39 = .ok (.bipush 8, 2) ∧ 39 + 2 = 41 := ⟨by decide +kernel, rfl⟩
theorem eX6_fault_41 : decode cX6_fault 41 = .ok (.isub, 1) ∧ 41 + 1 = 42 := ⟨by decide +kernel, rfl⟩
theorem eX6_fault_42 : decode cX6_fault 42 = .ok (.bipush 6, 2) ∧ 42 + 2 = 44 := ⟨by decide +kernel, rfl⟩
theorem eX6_fault_44 : decode cX6_fault 44 = .ok (.irem, 1) ∧ 44 + 1 = 45 := ⟨by decide +kernel, rfl⟩
theorem eX6_fault_45 : decode cX6_fault 45 = .ok (.ifCond .ne 8, 3) ∧ ((45 : Nat) : Int) + 8 = ((53 : Nat) : Int) ∧ 45 + 3 = 48 := ⟨by decide +kernel, by decide, rfl⟩
theorem eX6_fault_48 : decode cX6_fault 48 = .ok (.bipush (-9), 2) ∧ 48 + 2 = 50 := ⟨by decide +kernel, rfl⟩
theorem eX6_fault_50 : decode cX6_fault 50 = .ok (.goto 7, 3) ∧ ((50 : Nat) : Int) + 7 = ((57 : Nat) : Int) := ⟨by decide +kernel, by decide⟩
theorem eX6_fault_53 : decode cX6_fault 53 = .ok (.aload_n 0, 1) ∧ 53 + 1 = 54 := ⟨by decide +kernel, rfl⟩
theorem eX6_fault_54 : decode cX6_fault 54 = .ok (.getfield 63, 3) ∧ 54 + 3 = 57 := ⟨by decide +kernel, rfl⟩
theorem eX6_fault_57 : decode cX6_fault 57 = .ok (.ireturn, 1) := by decide +kernel
theorem eX6_parish_0 : decode cX6_parish 0 = .ok (.aload_n 0, 1) ∧ 0 + 1 = 1 := ⟨by decide +kernel, rfl⟩
theorem eX6_parish_1 : decode cX6_parish 1 = .ok (.invokevirtual 76, 3) ∧ 1 + 3 = 4 := ⟨by decide +kernel, rfl⟩
theorem eX6_parish_4 : decode cX6_parish 4 = .ok (.bipush (-9), 2) ∧ 4 + 2 = 6 := ⟨by decide +kernel, rfl⟩
theorem eX6_parish_6 : decode cX6_parish 6 = .ok (.if_icmp .eq 6, 3) ∧ ((6 : Nat) : Int) + 6 = ((12 : Nat) : Int) ∧ 6 + 3 = 9 := ⟨by decide +kernel, by decide, rfl⟩
theorem eX6_parish_9 : decode cX6_parish 9 = .ok (.bipush (-3), 2) ∧ 9 + 2 = 11 := ⟨by decide +kernel, rfl⟩
theorem eX6_parish_11 : decode cX6_parish 11 = .ok (.ireturn, 1) := by decide +kernel
theorem eX6_parish_12 : decode cX6_parish 12 = .ok (.aload_n 0, 1) ∧ 12 + 1 = 13 := ⟨by decide +kernel, rfl⟩
theorem eX6_parish_13 : decode cX6_parish 13 = .ok (.aload_n 0, 1) ∧ 13 + 1 = 14 := ⟨by decide +kernel, rfl⟩
theorem eX6_parish_14 : decode cX6_parish 14 = .ok (.getfield 63, 3) ∧ 14 + 3 = 17 := ⟨by decide +kernel, rfl⟩
theorem eX6_parish_17 : decode cX6_parish 17 = .ok (.bipush 8, 2) ∧ 17 + 2 = 19 := ⟨by decide +kernel, rfl⟩
theorem eX6_parish_19 : decode cX6_parish 19 = .ok (.isub, 1) ∧ 19 + 1 = 20 := ⟨by decide +kernel, rfl⟩
theorem eX6_parish_20 : decode cX6_parish 20 = .ok (.bipush 6, 2) ∧ 20 + 2 = 22 := ⟨by decide +kernel, rfl⟩
theorem eX6_parish_22 : decode cX6_parish 22 = .ok (.idiv, 1) ∧ 22 + 1 = 23 := ⟨by decide +kernel, rfl⟩
theorem eX6_parish_23 : decode cX6_parish 23 = .ok (.putfield 80, 3) ∧ 23 + 3 = 26 := ⟨by decide +kernel, rfl⟩
theorem eX6_parish_26 : decode cX6_parish 26 = .ok (.aload_n 0, 1) ∧ 26 + 1 = 27 := ⟨by decide +kernel, rfl⟩
theorem eX6_parish_27 : decode cX6_parish 27 = .ok (.aload_n 0, 1) ∧ 27 + 1 = 28 := ⟨by decide +kernel, rfl⟩
theorem eX6_parish_28 : decode cX6_parish 28 = .ok (.getfield 28, 3) ∧ 28 + 3 = 31 := ⟨by decide +kernel, rfl⟩
theorem eX6_parish_31 : decode cX6_parish 31 = .ok (.iconst 1, 1) ∧ 31 + 1 = 32 := ⟨by decide +kernel, rfl⟩
theorem eX6_parish_32 : decode cX6_parish 32 = .ok (.iaload, 1) ∧ 32 + 1 = 33 := ⟨by decide +kernel, rfl⟩
theorem eX6_parish_33 : decode cX6_parish 33 = .ok (.bipush 48, 2) ∧ 33 + 2 = 35 := ⟨by decide +kernel, rfl⟩
theorem eX6_parish_35 : decode cX6_parish 35 = .ok (.isub, 1) ∧ 35 + 1 = 36 := ⟨by decide +kernel, rfl⟩
theorem eX6_parish_36 : decode cX6_parish 36 = .ok (.putfield 53, 3) ∧ 36 + 3 = 39 := ⟨by decide +kernel, rfl⟩
theorem eX6_parish_39 : decode cX6_parish 39 = .ok (.aload_n 0, 1) ∧ 39 + 1 = 40 := ⟨by decide +kernel, rfl⟩
theorem eX6_parish_40 : decode cX6_parish 40 = .ok (.getfield 25, 3) ∧ 40 + 3 = 43 := ⟨by decide +kernel, rfl⟩
theorem eX6_parish_43 : decode cX6_parish 43 = .ok (.iconst 0, 1) ∧ 43 + 1 = 44 := ⟨by decide +kernel, rfl⟩
theorem eX6_parish_44 : decode cX6_parish 44 = .ok (.iconst 0, 1) ∧ 44 + 1 = 45 := ⟨by decide +kernel, rfl⟩
theorem eX6_parish_45 : decode cX6_parish 45 = .ok (.iastore, 1) ∧ 45 + 1 = 46 := ⟨by decide +kernel, rfl⟩
theorem eX6_parish_46 : decode cX6_parish 46 = .ok (.aload_n 0, 1) ∧ 46 + 1 = 47 := ⟨by decide +kernel, rfl⟩
theorem eX6_parish_47 : decode cX6_parish 47 = .ok (.getfield 25, 3) ∧ 47 + 3 = 50 := ⟨by decide +kernel, rfl⟩
theorem eX6_parish_50 : decode cX6_parish 50 = .ok (.iconst 1, 1) ∧ 50 + 1 = 51 := ⟨by decide +kernel, rfl⟩
theorem eX6_parish_51 : decode cX6_parish 51 = .ok (.aload_n 0, 1) ∧ 51 + 1 = 52 := ⟨by decide +kernel, rfl⟩
theorem eX6_parish_52 : decode cX6_parish 52 = .ok (.getfield 28, 3) ∧ 52 + 3 = 55 := ⟨by decide +kernel, rfl⟩
theorem eX6_parish_55 : decode cX6_parish 55 = .ok (.iconst 2, 1) ∧ 55 + 1 = 56 := ⟨by decide +kernel, rfl⟩
theorem eX6_parish_56 : decode cX6_parish 56 = .ok (.iaload, 1) ∧ 56 + 1 = 57 := ⟨by decide +kernel, rfl⟩
theorem eX6_parish_57 : decode cX6_parish 57 = .ok (.bipush 48, 2) ∧ 57 + 2 = 59 := ⟨by decide +kernel, rfl⟩
theorem eX6_parish_59 : decode cX6_parish 59 = .ok (.isub, 1) ∧ 59 + 1 = 60 := ⟨by decide +kernel, rfl⟩
theorem eX6_parish_60 : decode cX6_parish 60 = .ok (.iastore, 1) ∧ 60 + 1 = 61 := ⟨by decide +kernel, rfl⟩
theorem eX6_parish_61 : decode cX6_parish 61 = .ok (.aload_n 0, 1) ∧ 61 + 1 = 62 := ⟨by decide +kernel, rfl⟩
theorem eX6_parish_62 : decode cX6_parish 62 = .ok (.getfield 25, 3) ∧ 62 + 3 = 65 := ⟨by decide +kernel, rfl⟩
theorem eX6_parish_65 : decode cX6_parish 65 = .ok (.iconst 2, 1) ∧ 65 + 1 = 66 := ⟨by decide +kernel, rfl⟩
theorem eX6_parish_66 : decode cX6_parish 66 = .ok (.iconst 0, 1) ∧ 66 + 1 = 67 := ⟨by decide +kernel, rfl⟩
theorem eX6_parish_67 : decode cX6_parish 67 = .ok (.iastore, 1) ∧ 67 + 1 = 68 := ⟨by decide +kernel, rfl⟩
theorem eX6_parish_68 : decode cX6_parish 68 = .ok (.iconst 0, 1) ∧ 68 + 1 = 69 := ⟨by decide +kernel, rfl⟩
theorem eX6_parish_69 : decode cX6_parish 69 = .ok (.istore_n 1, 1) ∧ 69 + 1 = 70 := ⟨by decide +kernel, rfl⟩
theorem eX6_parish_70 : decode cX6_parish 70 = .ok (.iload_n 1, 1) ∧ 70 + 1 = 71 := ⟨by decide +kernel, rfl⟩
theorem eX6_parish_71 : decode cX6_parish 71 = .ok (.iconst 5, 1) ∧ 71 + 1 = 72 := ⟨by decide +kernel, rfl⟩
theorem eX6_parish_72 : decode cX6_parish 72 = .ok (.if_icmp .ge 28, 3) ∧ ((72 : Nat) : Int) + 28 = ((100 : Nat) : Int) ∧ 72 + 3 = 75 := ⟨by decide +kernel, by decide, rfl⟩
theorem eX6_parish_75 : decode cX6_parish 75 = .ok (.aload_n 0, 1) ∧ 75 + 1 = 76 := ⟨by decide +kernel, rfl⟩
theorem eX6_parish_76 : decode cX6_parish 76 = .ok (.getfield 25, 3) ∧ 76 + 3 = 79 := ⟨by decide +kernel, rfl⟩
theorem eX6_parish_79 : decode cX6_parish 79 = .ok (.iconst 3, 1) ∧ 79 + 1 = 80 := ⟨by decide +kernel, rfl⟩
theorem eX6_parish_80 : decode cX6_parish 80 = .ok (.iload_n 1, 1) ∧ 80 + 1 = 81 := ⟨by decide +kernel, rfl⟩
theorem eX6_parish_81 : decode cX6_parish 81 = .ok (.iadd, 1) ∧ 81 + 1 = 82 := ⟨by decide +kernel, rfl⟩
theorem eX6_parish_82 : decode cX6_parish 82 = .ok (.aload_n 0, 1) ∧ 82 + 1 = 83 := ⟨by decide +kernel, rfl⟩
theorem eX6_parish_83 : decode cX6_parish 83 = .ok (.getfield 28, 3) ∧ 83 + 3 = 86 := ⟨by decide +kernel, rfl⟩
theorem eX6_parish_86 : decode cX6_parish 86 = .ok (.iconst 3, 1) ∧ 86 + 1 = 87 := ⟨by decide +kernel, rfl⟩
theorem eX6_parish_87 : decode cX6_parish 87 = .ok (.iload_n 1, 1) ∧ 87 + 1 = 88 := ⟨by decide +kernel, rfl⟩
theorem eX6_parish_88 : decode cX6_parish 88 = .ok (.iadd, 1) ∧ 88 + 1 = 89 := ⟨by decide +kernel, rfl⟩
theorem eX6_parish_89 : decode cX6_parish 89 = .ok (.iaload, 1) ∧ 89 + 1 = 90 := ⟨by decide +kernel, rfl⟩
theorem eX6_parish_90 : decode cX6_parish 90 = .ok (.bipush 48, 2) ∧ 90 + 2 = 92 := ⟨by decide +kernel, rfl⟩
theorem eX6_parish_92 : decode cX6_parish 92 = .ok (.isub, 1) ∧ 92 + 1 = 93 := ⟨by decide +kernel, rfl⟩
theorem eX6_parish_93 : decode cX6_parish 93 = .ok (.iastore, 1) ∧ 93 + 1 = 94 := ⟨by decide +kernel, rfl⟩
theorem eX6_parish_94 : decode cX6_parish 94 = .ok (.iinc 1 1, 3) ∧ 94 + 3 = 97 := ⟨by decide +kernel, rfl⟩
theorem eX6_parish_97 : decode cX6_parish 97 = .ok (.goto (-27), 3) ∧ ((97 : Nat) : Int) + (-27) = ((70 : Nat) : Int) := ⟨by decide +kernel, by decide⟩
theorem eX6_parish_100 : decode cX6_parish 100 = .ok (.iconst 0, 1) ∧ 100 + 1 = 101 := ⟨by decide +kernel, rfl⟩
theorem eX6_parish_101 : decode cX6_parish 101 = .ok (.istore_n 1, 1) ∧ 101 + 1 = 102 := ⟨by decide +kernel, rfl⟩
theorem eX6_parish_102 : decode cX6_parish 102 = .ok (.iload_n 1, 1) ∧ 102 + 1 = 103 := ⟨by decide +kernel, rfl⟩
theorem eX6_parish_103 : decode cX6_parish 103 = .ok (.aload_n 0, 1) ∧ 103 + 1 = 104 := ⟨by decide +kernel, rfl⟩
theorem eX6_parish_104 : decode cX6_parish 104 = .ok (.getfield 80, 3) ∧ 104 + 3 = 107 := ⟨by decide +kernel, rfl⟩
theorem eX6_parish_107 : decode cX6_parish 107 = .ok (.if_icmp .ge 102, 3) ∧ ((107 : Nat) : Int) + 102 = ((209 : Nat) : Int) ∧ 107 + 3 = 110 := ⟨by decide +kernel, by decide, rfl⟩
theorem eX6_parish_110 : decode cX6_parish 110 = .ok (.bipush 8, 2) ∧ 110 + 2 = 112 := ⟨by decide +kernel, rfl⟩
theorem eX6_parish_112 : decode cX6_parish 112 = .ok (.bipush 6, 2) ∧ 112 + 2 = 114 := ⟨by decide +kernel, rfl⟩
theorem eX6_parish_114 : decode cX6_parish 114 = .ok (.iload_n 1, 1) ∧ 114 + 1 = 115 := ⟨by decide +kernel, rfl⟩
theorem eX6_parish_115 : decode cX6_parish 115 = .ok (.imul, 1) ∧ 115 + 1 = 116 := ⟨by decide +kernel, rfl⟩
theorem eX6_parish_116 : decode cX6_parish 116 = .ok (.iadd, 1) ∧ 116 + 1 = 117 := ⟨by decide +kernel, rfl⟩
theorem eX6_parish_117 : decode cX6_parish 117 = .ok (.istore_n 2, 1) ∧ 117 + 1 = 118 := ⟨by decide +kernel, rfl⟩
theorem eX6_parish_118 : decode cX6_parish 118 = .ok (.aload_n 0, 1) ∧ 118 + 1 = 119 := ⟨by decide +kernel, rfl⟩
theorem eX6_parish_119 : decode cX6_parish 119 = .ok (.getfield 7, 3) ∧ 119 + 3 = 122 := ⟨by decide +kernel, rfl⟩
theorem eX6_parish_122 : decode cX6_parish 122 = .ok (.iload_n 1, 1) ∧ 122 + 1 = 123 := ⟨by decide +kernel, rfl⟩
theorem eX6_parish_123 : decode cX6_parish 123 = .ok (.aload_n 0, 1) ∧ 123 + 1 = 124 := ⟨by decide +kernel, rfl⟩
theorem eX6_parish_124 : decode cX6_parish 124 = .ok (.getfield 28, 3) ∧ 124 + 3 = 127 := ⟨by decide +kernel, rfl⟩
theorem eX6_parish_127 : decode cX6_parish 127 = .ok (.iload_n 2, 1) ∧ 127 + 1 = 128 := ⟨by decide +kernel, rfl⟩
theorem eX6_parish_128 : decode cX6_parish 128 = .ok (.iconst 1, 1) ∧ 128 + 1 = 129 := ⟨by decide +kernel, rfl⟩
theorem eX6_parish_129 : decode cX6_parish 129 = .ok (.iadd, 1) ∧ 129 + 1 = 130 := ⟨by decide +kernel, rfl⟩
theorem eX6_parish_130 : decode cX6_parish 130 = .ok (.iaload, 1) ∧ 130 + 1 = 131 := ⟨by decide +kernel, rfl⟩
theorem eX6_parish_131 : decode cX6_parish 131 = .ok (.bipush 48, 2) ∧ 131 + 2 = 133 := ⟨by decide +kernel, rfl⟩
theorem eX6_parish_133 : decode cX6_parish 133 = .ok (.isub, 1) ∧ 133 + 1 = 134 := ⟨by decide +kernel, rfl⟩
theorem eX6_parish_134 : decode cX6_parish 134 = .ok (.iastore, 1) ∧ 134 + 1 = 135 := ⟨by decide +kernel, rfl⟩
theorem eX6_parish_135 : decode cX6_parish 135 = .ok (.aload_n 0, 1) ∧ 135 + 1 = 136 := ⟨by decide +kernel, rfl⟩
theorem eX6_parish_136 : decode cX6_parish 136 = .ok (.getfield 13, 3) ∧ 136 + 3 = 139 := ⟨by decide +kernel, rfl⟩
theorem eX6_parish_139 : decode cX6_parish 139 = .ok (.iload_n 1, 1) ∧ 139 + 1 = 140 := ⟨by decide +kernel, rfl⟩
theorem eX6_parish_140 : decode cX6_parish 140 = .ok (.aload_n 0, 1) ∧ 140 + 1 = 141 := ⟨by decide +kernel, rfl⟩
theorem eX6_parish_141 : decode cX6_parish 141 = .ok (.getfield 28, 3) ∧ 141 + 3 = 144 := ⟨by decide +kernel, rfl⟩
theorem eX6_parish_144 : decode cX6_parish 144 = .ok (.iload_n 2, 1) ∧ 144 + 1 = 145 := ⟨by decide +kernel, rfl⟩
theorem eX6_parish_145 : decode cX6_parish 145 = .ok (.iconst 2, 1) ∧ 145 + 1 = 146 := ⟨by decide +kernel, rfl⟩
theorem eX6_parish_146 : decode cX6_parish 146 = .ok (.iadd, 1) ∧ 146 + 1 = 147 := ⟨by decide +kernel, rfl⟩
theorem eX6_parish_147 : decode cX6_parish 147 = .ok (.iaload, 1) ∧ 147 + 1 = 148 := ⟨by decide +kernel, rfl⟩
theorem eX6_parish_148 : decode cX6_parish 148 = .ok (.bipush 48, 2) ∧ 148 + 2 = 150 := ⟨by decide +kernel, rfl⟩
theorem eX6_parish_150 : decode cX6_parish 150 = .ok (.isub, 1) ∧ 150 + 1 = 151 := ⟨by decide +kernel, rfl⟩
theorem eX6_parish_151 : decode cX6_parish 151 = .ok (.iastore, 1) ∧ 151 + 1 = 152 := ⟨by decide +kernel, rfl⟩
theorem eX6_parish_152 : decode cX6_parish 152 = .ok (.aload_n 0, 1) ∧ 152 + 1 = 153 := ⟨by decide +kernel, rfl⟩
theorem eX6_parish_153 : decode cX6_parish 153 = .ok (.getfield 16, 3) ∧ 153 + 3 = 156 := ⟨by decide +kernel, rfl⟩
theorem eX6_parish_156 : decode cX6_parish 156 = .ok (.iload_n 1, 1) ∧ 156 + 1 = 157 := ⟨by decide +kernel, rfl⟩
theorem eX6_parish_157 : decode cX6_parish 157 = .ok (.aload_n 0, 1) ∧ 157 + 1 = 158 := ⟨by decide +kernel, rfl⟩
theorem eX6_parish_158 : decode cX6_parish 158 = .ok (.getfield 28, 3) ∧ 158 + 3 = 161 := ⟨by decide +kernel, rfl⟩
theorem eX6_parish_161 : decode cX6_parish 161 = .ok (.iload_n 2, 1) ∧ 161 + 1 = 162 := ⟨by decide +kernel, rfl⟩
theorem eX6_parish_162 : decode cX6_parish 162 = .ok (.iconst 3, 1) ∧ 162 + 1 = 163 := ⟨by decide +kernel, rfl⟩
theorem eX6_parish_163 : decode cX6_parish 163 = .ok (.iadd, 1) ∧ 163 + 1 = 164 := ⟨by decide +kernel, rfl⟩
theorem eX6_parish_164 : decode cX6_parish 164 = .ok (.iaload, 1) ∧ 164 + 1 = 165 := ⟨by decide +kernel, rfl⟩
theorem eX6_parish_165 : decode cX6_parish 165 = .ok (.bipush 48, 2) ∧ 165 + 2 = 167 := ⟨by decide +kernel, rfl⟩
theorem eX6_parish_167 : decode cX6_parish 167 = .ok (.isub, 1) ∧ 167 + 1 = 168 := ⟨by decide +kernel, rfl⟩
theorem eX6_parish_168 : decode cX6_parish 168 = .ok (.iastore, 1) ∧ 168 + 1 = 169 := ⟨by decide +kernel, rfl⟩
theorem eX6_parish_169 : decode cX6_parish 169 = .ok (.aload_n 0, 1) ∧ 169 + 1 = 170 := ⟨by decide +kernel, rfl⟩
theorem eX6_parish_170 : decode cX6_parish 170 = .ok (.getfield 19, 3) ∧ 170 + 3 = 173 := ⟨by decide +kernel, rfl⟩
theorem eX6_parish_173 : decode cX6_parish 173 = .ok (.iload_n 1, 1) ∧ 173 + 1 = 174 := ⟨by decide +kernel, rfl⟩
theorem eX6_parish_174 : decode cX6_parish 174 = .ok (.aload_n 0, 1) ∧ 174 + 1 = 175 := ⟨by decide +kernel, rfl⟩
theorem eX6_parish_175 : decode cX6_parish 175 = .ok (.getfield 28, 3) ∧ 175 + 3 = 178 := ⟨by decide +kernel, rfl⟩
theorem eX6_parish_178 : decode cX6_parish 178 = .ok (.iload_n 2, 1) ∧ 178 + 1 = 179 := ⟨by decide +kernel, rfl⟩
theorem eX6_parish_179 : decode cX6_parish 179 = .ok (.iconst 4, 1) ∧ 179 + 1 = 180 := ⟨by decide +kernel, rfl⟩
theorem eX6_parish_180 : decode cX6_parish 180 = .ok (.iadd, 1) ∧ 180 + 1 = 181 := ⟨by decide +kernel, rfl⟩
theorem eX6_parish_181 : decode cX6_parish 181 = .ok (.iaload, 1) ∧ 181 + 1 = 182 := ⟨by decide +kernel, rfl⟩
theorem eX6_parish_182 : decode cX6_parish 182 = .ok (.bipush 48, 2) ∧ 182 + 2 = 184 := ⟨by decide +kernel, rfl⟩
theorem eX6_parish_184 : decode cX6_parish 184 = .ok (.isub, 1) ∧ 184 + 1 = 185 := ⟨by decide +kernel, rfl⟩
theorem eX6_parish_185 : decode cX6_parish 185 = .ok (.iastore, 1) ∧ 185 + 1 = 186 := ⟨by decide +kernel, rfl⟩
theorem eX6_parish_186 : decode cX6_parish 186 = .ok (.aload_n 0, 1) ∧ 186 + 1 = 187 := ⟨by decide +kernel, rfl⟩
theorem eX6_parish_187 : decode cX6_parish 187 = .ok (.getfield 22, 3) ∧ 187 + 3 = 190 := ⟨by decide +kernel, rfl⟩
theorem eX6_parish_190 : decode cX6_parish 190 = .ok (.iload_n 1, 1) ∧ 190 + 1 = 191 := ⟨by decide +kernel, rfl⟩
theorem eX6_parish_191 : decode cX6_parish 191 = .ok (.aload_n 0, 1) ∧ 191 + 1 = 192 := ⟨by decide +kernel, rfl⟩
theorem eX6_parish_192 : decode cX6_parish 192 = .ok (.getfield 28, 3) ∧ 192 + 3 = 195 := ⟨by decide +kernel, rfl⟩
theorem eX6_parish_195 : decode cX6_parish 195 = .ok (.iload_n 2, 1) ∧ 195 + 1 = 196 := ⟨by decide +kernel, rfl⟩
theorem eX6_parish_196 : decode cX6_parish 196 = .ok (.iconst 5, 1) ∧ 196 + 1 = 197 := ⟨by decide +kernel, rfl⟩
theorem eX6_parish_197 : decode cX6_parish 197 = .ok (.iadd, 1) ∧ 197 + 1 = 198 := ⟨by decide +kernel, rfl⟩
theorem eX6_parish_198 : decode cX6_parish 198 = .ok (.iaload, 1) ∧ 198 + 1 = 199 := ⟨by decide +kernel, rfl⟩
theorem eX6_parish_199 : decode cX6_parish 199 = .ok (.bipush 48, 2) ∧ 199 + 2 = 201 := ⟨by decide +kernel, rfl⟩
theorem eX6_parish_201 : decode cX6_parish 201 = .ok (.isub, 1) ∧ 201 + 1 = 202 := ⟨by decide +kernel, rfl⟩
theorem eX6_parish_202 : decode cX6_parish 202 = .ok (.iastore, 1) ∧ 202 + 1 = 203 := ⟨by decide +kernel, rfl⟩
theorem eX6_parish_203 : decode cX6_parish 203 = .ok (.iinc 1 1, 3) ∧ 203 + 3 = 206 := ⟨by decide +kernel, rfl⟩
theorem eX6_parish_206 : decode cX6_parish 206 = .ok (.goto (-104), 3) ∧ ((206 : Nat) : Int) + (-104) = ((102 : Nat) : Int) := ⟨by decide +kernel, by decide⟩
theorem eX6_parish_209 : decode cX6_parish 209 = .ok (.aload_n 0, 1) ∧ 209 + 1 = 210 := ⟨by decide +kernel, rfl⟩
theorem eX6_parish_210 : decode cX6_parish 210 = .ok (.iconst 0, 1) ∧ 210 + 1 = 211 := ⟨by decide +kernel, rfl⟩
theorem eX6_parish_211 : decode cX6_parish 211 = .ok (.putfield 83, 3) ∧ 211 + 3 = 214 := ⟨by decide +kernel, rfl⟩
theorem eX6_parish_214 : decode cX6_parish 214 = .ok (.aload_n 0, 1) ∧ 214 + 1 = 215 := ⟨by decide +kernel, rfl⟩
theorem eX6_parish_215 : decode cX6_parish 215 = .ok (.getfield 46, 3) ∧ 215 + 3 = 218 := ⟨by decide +kernel, rfl⟩
theorem eX6_parish_218 : decode cX6_parish 218 = .ok (.iconst 0, 1) ∧ 218 + 1 = 219 := ⟨by decide +kernel, rfl⟩
theorem eX6_parish_219 : decode cX6_parish 219 = .ok (.iconst 0, 1) ∧ 219 + 1 = 220 := ⟨by decide +kernel, rfl⟩
theorem eX6_parish_220 : decode cX6_parish 220 = .ok (.bastore, 1) ∧ 220 + 1 = 221 := ⟨by decide +kernel, rfl⟩
theorem eX6_parish_221 : decode cX6_parish 221 = .ok (.aload_n 0, 1) ∧ 221 + 1 = 222 := ⟨by decide +kernel, rfl⟩
theorem eX6_parish_222 : decode cX6_parish 222 = .ok (.getfield 46, 3) ∧ 222 + 3 = 225 := ⟨by decide +kernel, rfl⟩
theorem eX6_parish_225 : decode cX6_parish 225 = .ok (.iconst 1, 1) ∧ 225 + 1 = 226 := ⟨by decide +kernel, rfl⟩
theorem eX6_parish_226 : decode cX6_parish 226 = .ok (.iconst 0, 1) ∧ 226 + 1 = 227 := ⟨by decide +kernel, rfl⟩
theorem eX6_parish_227 : decode cX6_parish 227 = .ok (.bastore, 1) ∧ 227 + 1 = 228 := ⟨by decide +kernel, rfl⟩
theorem eX6_parish_228 : decode cX6_parish 228 = .ok (.aload_n 0, 1) ∧ 228 + 1 = 229 := ⟨by decide +kernel, rfl⟩
theorem eX6_parish_229 : decode cX6_parish 229 = .ok (.getfield 80, 3) ∧ 229 + 3 = 232 := ⟨by decide +kernel, rfl⟩
theorem eX6_parish_232 : decode cX6_parish 232 = .ok (.ireturn, 1) := by decide +kernel
theorem eX6_isWedding_0 : decode cX6_isWedding 0 = .ok (.iload_n 1, 1) ∧ 0 + 1 = 1 := ⟨by decide +kernel, rfl⟩
theorem eX6_isWedding_1 : decode cX6_isWedding 1 = .ok (.i2l, 1) ∧ 1 + 1 = 2 := ⟨by decide +kernel, rfl⟩
theorem eX6_isWedding_2 : decode cX6_isWedding 2 = .ok (.lconst 0, 1) ∧ 2 + 1 = 3 := ⟨by decide +kernel, rfl⟩
theorem eX6_isWedding_3 : decode cX6_isWedding 3 = .ok (.aload_n 0, 1) ∧ 3 + 1 = 4 := ⟨by decide +kernel, rfl⟩
theorem eX6_isWedding_4 : decode cX6_isWedding 4 = .ok (.getfield 80, 3) ∧ 4 + 3 = 7 := ⟨by decide +kernel, rfl⟩
theorem eX6_isWedding_7 : decode cX6_isWedding 7 = .ok (.iconst 1, 1) ∧ 7 + 1 = 8 := ⟨by decide +kernel, rfl⟩
theorem eX6_isWedding_8 : decode cX6_isWedding 8 = .ok (.isub, 1) ∧ 8 + 1 = 9 := ⟨by decide +kernel, rfl⟩
theorem eX6_isWedding_9 : decode cX6_isWedding 9 = .ok (.i2l, 1) ∧ 9 + 1 = 10 := ⟨by decide +kernel, rfl⟩
theorem eX6_isWedding_10 : decode cX6_isWedding 10 = .ok (.invokestatic 59, 3) ∧ 10 + 3 = 13 := ⟨by decide +kernel, rfl⟩
theorem eX6_isWedding_13 : decode cX6_isWedding 13 = .ok (.ireturn, 1) := by decide +kernel
theorem eX6_isChurch_0 : decode cX6_isChurch 0 = .ok (.iload_n 0, 1) ∧ 0 + 1 = 1 := ⟨by decide +kernel, rfl⟩
theorem eX6_isChurch_1 : decode cX6_isChurch 1 = .ok (.i2l, 1) ∧ 1 + 1 = 2 := ⟨by decide +kernel, rfl⟩
theorem eX6_isChurch_2 : decode cX6_isChurch 2 = .ok (.lconst 0, 1) ∧ 2 + 1 = 3 := ⟨by decide +kernel, rfl⟩
theorem eX6_isChurch_3 : decode cX6_isChurch 3 = .ok (.ldc2_w 68, 3) ∧ 3 + 3 = 6 := ⟨by decide +kernel, rfl⟩
theorem eX6_isChurch_6 : decode cX6_isChurch 6 = .ok (.invokestatic 59, 3) ∧ 6 + 3 = 9 := ⟨by decide +kernel, rfl⟩
theorem eX6_isChurch_9 : decode cX6_isChurch 9 = .ok (.ireturn, 1) := by decide +kernel
theorem eX6_every_0 : decode cX6_every 0 = .ok (.iconst 1, 1) ∧ 0 + 1 = 1 := ⟨by decide +kernel, rfl⟩
theorem eX6_every_1 : decode cX6_every 1 = .ok (.aload_n 0, 1) ∧ 1 + 1 = 2 := ⟨by decide +kernel, rfl⟩
theorem eX6_every_2 : decode cX6_every 2 = .ok (.getfield 80, 3) ∧ 2 + 3 = 5 := ⟨by decide +kernel, rfl⟩
theorem eX6_every_5 : decode cX6_every 5 = .ok (.ishl, 1) ∧ 5 + 1 = 6 := ⟨by decide +kernel, rfl⟩
theorem eX6_every_6 : decode cX6_every 6 = .ok (.iconst 1, 1) ∧ 6 + 1 = 7 := ⟨by decide +kernel, rfl⟩
theorem eX6_every_7 : decode cX6_every 7 = .ok (.isub, 1) ∧ 7 + 1 = 8 := ⟨by decide +kernel, rfl⟩
theorem eX6_every_8 : decode cX6_every 8 = .ok (.ireturn, 1) := by decide +kernel
theorem eX6_wayOn_0 : decode cX6_wayOn 0 = .ok (.iconst 0, 1) ∧ 0 + 1 = 1 := ⟨by decide +kernel, rfl⟩
theorem eX6_wayOn_1 : decode cX6_wayOn 1 = .ok (.istore 4, 2) ∧ 1 + 2 = 3 := ⟨by decide +kernel, rfl⟩
theorem eX6_wayOn_3 : decode cX6_wayOn 3 = .ok (.iconst 0, 1) ∧ 3 + 1 = 4 := ⟨by decide +kernel, rfl⟩
theorem eX6_wayOn_4 : decode cX6_wayOn 4 = .ok (.istore 5, 2) ∧ 4 + 2 = 6 := ⟨by decide +kernel, rfl⟩
theorem eX6_wayOn_6 : decode cX6_wayOn 6 = .ok (.iload 5, 2) ∧ 6 + 2 = 8 := ⟨by decide +kernel, rfl⟩
theorem eX6_wayOn_8 : decode cX6_wayOn 8 = .ok (.iconst 5, 1) ∧ 8 + 1 = 9 := ⟨by decide +kernel, rfl⟩
theorem eX6_wayOn_9 : decode cX6_wayOn 9 = .ok (.if_icmp .ge 68, 3) ∧ ((9 : Nat) : Int) + 68 = ((77 : Nat) : Int) ∧ 9 + 3 = 12 := ⟨by decide +kernel, by decide, rfl⟩
theorem eX6_wayOn_12 : decode cX6_wayOn 12 = .ok (.iload 5, 2) ∧ 12 + 2 = 14 := ⟨by decide +kernel, rfl⟩
theorem eX6_wayOn_14 : decode cX6_wayOn 14 = .ok (.iload_n 2, 1) ∧ 14 + 1 = 15 := ⟨by decide +kernel, rfl⟩
theorem eX6_wayOn_15 : decode cX6_wayOn 15 = .ok (.if_icmp .lt 9, 3) ∧ ((15 : Nat) : Int) + 9 = ((24 : Nat) : Int) ∧ 15 + 3 = 18 := ⟨by decide +kernel, by decide, rfl⟩
theorem eX6_wayOn_18 : decode cX6_wayOn 18 = .ok (.iload 5, 2) ∧ 18 + 2 = 20 := ⟨by decide +kernel, rfl⟩
theorem eX6_wayOn_20 : decode cX6_wayOn 20 = .ok (.iload_n 3, 1) ∧ 20 + 1 = 21 := ⟨by decide +kernel, rfl⟩
theorem eX6_wayOn_21 : decode cX6_wayOn 21 = .ok (.if_icmp .lt 15, 3) ∧ ((21 : Nat) : Int) + 15 = ((36 : Nat) : Int) ∧ 21 + 3 = 24 := ⟨by decide +kernel, by decide, rfl⟩
theorem eX6_wayOn_24 : decode cX6_wayOn 24 = .ok (.iload 5, 2) ∧ 24 + 2 = 26 := ⟨by decide +kernel, rfl⟩
theorem eX6_wayOn_26 : decode cX6_wayOn 26 = .ok (.iload_n 3, 1) ∧ 26 + 1 = 27 := ⟨by decide +kernel, rfl⟩
theorem eX6_wayOn_27 : decode cX6_wayOn 27 = .ok (.if_icmp .lt 13, 3) ∧ ((27 : Nat) : Int) + 13 = ((40 : Nat) : Int) ∧ 27 + 3 = 30 := ⟨by decide +kernel, by decide, rfl⟩
theorem eX6_wayOn_30 : decode cX6_wayOn 30 = .ok (.iload 5, 2) ∧ 30 + 2 = 32 := ⟨by decide +kernel, rfl⟩
theorem eX6_wayOn_32 : decode cX6_wayOn 32 = .ok (.iload_n 2, 1) ∧ 32 + 1 = 33 := ⟨by decide +kernel, rfl⟩
theorem eX6_wayOn_33 : decode cX6_wayOn 33 = .ok (.if_icmp .ge 7, 3) ∧ ((33 : Nat) : Int) + 7 = ((40 : Nat) : Int) ∧ 33 + 3 = 36 := ⟨by decide +kernel, by decide, rfl⟩
theorem eX6_wayOn_36 : decode cX6_wayOn 36 = .ok (.iconst 1, 1) ∧ 36 + 1 = 37 := ⟨by decide +kernel, rfl⟩
theorem eX6_wayOn_37 : decode cX6_wayOn 37 = .ok (.goto 4, 3) ∧ ((37 : Nat) : Int) + 4 = ((41 : Nat) : Int) := ⟨by decide +kernel, by decide⟩
theorem eX6_wayOn_40 : decode cX6_wayOn 40 = .ok (.iconst 0, 1) ∧ 40 + 1 = 41 := ⟨by decide +kernel, rfl⟩
theorem eX6_wayOn_41 : decode cX6_wayOn 41 = .ok (.istore 6, 2) ∧ 41 + 2 = 43 := ⟨by decide +kernel, rfl⟩
theorem eX6_wayOn_43 : decode cX6_wayOn 43 = .ok (.iload 4, 2) ∧ 43 + 2 = 45 := ⟨by decide +kernel, rfl⟩
theorem eX6_wayOn_45 : decode cX6_wayOn 45 = .ok (.iload 6, 2) ∧ 45 + 2 = 47 := ⟨by decide +kernel, rfl⟩
theorem eX6_wayOn_47 : decode cX6_wayOn 47 = .ok (.ifCond .eq 20, 3) ∧ ((47 : Nat) : Int) + 20 = ((67 : Nat) : Int) ∧ 47 + 3 = 50 := ⟨by decide +kernel, by decide, rfl⟩
theorem eX6_wayOn_50 : decode cX6_wayOn 50 = .ok (.aload_n 0, 1) ∧ 50 + 1 = 51 := ⟨by decide +kernel, rfl⟩
theorem eX6_wayOn_51 : decode cX6_wayOn 51 = .ok (.getfield 25, 3) ∧ 51 + 3 = 54 := ⟨by decide +kernel, rfl⟩
theorem eX6_wayOn_54 : decode cX6_wayOn 54 = .ok (.bipush 8, 2) ∧ 54 + 2 = 56 := ⟨by decide +kernel, rfl⟩
theorem eX6_wayOn_56 : decode cX6_wayOn 56 = .ok (.iload_n 1, 1) ∧ 56 + 1 = 57 := ⟨by decide +kernel, rfl⟩
theorem eX6_wayOn_57 : decode cX6_wayOn 57 = .ok (.imul, 1) ∧ 57 + 1 = 58 := ⟨by decide +kernel, rfl⟩
theorem eX6_wayOn_58 : decode cX6_wayOn 58 = .ok (.iconst 3, 1) ∧ 58 + 1 = 59 := ⟨by decide +kernel, rfl⟩
theorem eX6_wayOn_59 : decode cX6_wayOn 59 = .ok (.iadd, 1) ∧ 59 + 1 = 60 := ⟨by decide +kernel, rfl⟩
theorem eX6_wayOn_60 : decode cX6_wayOn 60 = .ok (.iload 5, 2) ∧ 60 + 2 = 62 := ⟨by decide +kernel, rfl⟩
theorem eX6_wayOn_62 : decode cX6_wayOn 62 = .ok (.iadd, 1) ∧ 62 + 1 = 63 := ⟨by decide +kernel, rfl⟩
theorem eX6_wayOn_63 : decode cX6_wayOn 63 = .ok (.iaload, 1) ∧ 63 + 1 = 64 := ⟨by decide +kernel, rfl⟩
theorem eX6_wayOn_64 : decode cX6_wayOn 64 = .ok (.goto 4, 3) ∧ ((64 : Nat) : Int) + 4 = ((68 : Nat) : Int) := ⟨by decide +kernel, by decide⟩
theorem eX6_wayOn_67 : decode cX6_wayOn 67 = .ok (.iconst 0, 1) ∧ 67 + 1 = 68 := ⟨by decide +kernel, rfl⟩
theorem eX6_wayOn_68 : decode cX6_wayOn 68 = .ok (.iadd, 1) ∧ 68 + 1 = 69 := ⟨by decide +kernel, rfl⟩
theorem eX6_wayOn_69 : decode cX6_wayOn 69 = .ok (.istore 4, 2) ∧ 69 + 2 = 71 := ⟨by decide +kernel, rfl⟩
theorem eX6_wayOn_71 : decode cX6_wayOn 71 = .ok (.iinc 5 1, 3) ∧ 71 + 3 = 74 := ⟨by decide +kernel, rfl⟩
theorem eX6_wayOn_74 : decode cX6_wayOn 74 = .ok (.goto (-68), 3) ∧ ((74 : Nat) : Int) + (-68) = ((6 : Nat) : Int) := ⟨by decide +kernel, by decide⟩
theorem eX6_wayOn_77 : decode cX6_wayOn 77 = .ok (.iload 4, 2) ∧ 77 + 2 = 79 := ⟨by decide +kernel, rfl⟩
theorem eX6_wayOn_79 : decode cX6_wayOn 79 = .ok (.ireturn, 1) := by decide +kernel
theorem eX6_begins_0 : decode cX6_begins 0 = .ok (.iload 4, 2) ∧ 0 + 2 = 2 := ⟨by decide +kernel, rfl⟩
theorem eX6_begins_2 : decode cX6_begins 2 = .ok (.aload_n 0, 1) ∧ 2 + 1 = 3 := ⟨by decide +kernel, rfl⟩
theorem eX6_begins_3 : decode cX6_begins 3 = .ok (.iload_n 1, 1) ∧ 3 + 1 = 4 := ⟨by decide +kernel, rfl⟩
theorem eX6_begins_4 : decode cX6_begins 4 = .ok (.iload_n 3, 1) ∧ 4 + 1 = 5 := ⟨by decide +kernel, rfl⟩
theorem eX6_begins_5 : decode cX6_begins 5 = .ok (.aload_n 0, 1) ∧ 5 + 1 = 6 := ⟨by decide +kernel, rfl⟩
theorem eX6_begins_6 : decode cX6_begins 6 = .ok (.getfield 7, 3) ∧ 6 + 3 = 9 := ⟨by decide +kernel, rfl⟩
theorem eX6_begins_9 : decode cX6_begins 9 = .ok (.iload_n 2, 1) ∧ 9 + 1 = 10 := ⟨by decide +kernel, rfl⟩
theorem eX6_begins_10 : decode cX6_begins 10 = .ok (.iaload, 1) ∧ 10 + 1 = 11 := ⟨by decide +kernel, rfl⟩
theorem eX6_begins_11 : decode cX6_begins 11 = .ok (.invokevirtual 86, 3) ∧ 11 + 3 = 14 := ⟨by decide +kernel, rfl⟩
theorem eX6_begins_14 : decode cX6_begins 14 = .ok (.iadd, 1) ∧ 14 + 1 = 15 := ⟨by decide +kernel, rfl⟩
theorem eX6_begins_15 : decode cX6_begins 15 = .ok (.iload 5, 2) ∧ 15 + 2 = 17 := ⟨by decide +kernel, rfl⟩
theorem eX6_begins_17 : decode cX6_begins 17 = .ok (.iadd, 1) ∧ 17 + 1 = 18 := ⟨by decide +kernel, rfl⟩
theorem eX6_begins_18 : decode cX6_begins 18 = .ok (.aload_n 0, 1) ∧ 18 + 1 = 19 := ⟨by decide +kernel, rfl⟩
theorem eX6_begins_19 : decode cX6_begins 19 = .ok (.getfield 22, 3) ∧ 19 + 3 = 22 := ⟨by decide +kernel, rfl⟩
theorem eX6_begins_22 : decode cX6_begins 22 = .ok (.iload_n 2, 1) ∧ 22 + 1 = 23 := ⟨by decide +kernel, rfl⟩
theorem eX6_begins_23 : decode cX6_begins 23 = .ok (.iaload, 1) ∧ 23 + 1 = 24 := ⟨by decide +kernel, rfl⟩
theorem eX6_begins_24 : decode cX6_begins 24 = .ok (.iconst 2, 1) ∧ 24 + 1 = 25 := ⟨by decide +kernel, rfl⟩
theorem eX6_begins_25 : decode cX6_begins 25 = .ok (.if_icmp .ne 7, 3) ∧ ((25 : Nat) : Int) + 7 = ((32 : Nat) : Int) ∧ 25 + 3 = 28 := ⟨by decide +kernel, by decide, rfl⟩
theorem eX6_begins_28 : decode cX6_begins 28 = .ok (.iconst 1, 1) ∧ 28 + 1 = 29 := ⟨by decide +kernel, rfl⟩
theorem eX6_begins_29 : decode cX6_begins 29 = .ok (.goto 4, 3) ∧ ((29 : Nat) : Int) + 4 = ((33 : Nat) : Int) := ⟨by decide +kernel, by decide⟩
theorem eX6_begins_32 : decode cX6_begins 32 = .ok (.iconst 0, 1) ∧ 32 + 1 = 33 := ⟨by decide +kernel, rfl⟩
theorem eX6_begins_33 : decode cX6_begins 33 = .ok (.iadd, 1) ∧ 33 + 1 = 34 := ⟨by decide +kernel, rfl⟩
theorem eX6_begins_34 : decode cX6_begins 34 = .ok (.istore 6, 2) ∧ 34 + 2 = 36 := ⟨by decide +kernel, rfl⟩
theorem eX6_begins_36 : decode cX6_begins 36 = .ok (.iload 6, 2) ∧ 36 + 2 = 38 := ⟨by decide +kernel, rfl⟩
theorem eX6_begins_38 : decode cX6_begins 38 = .ok (.aload_n 0, 1) ∧ 38 + 1 = 39 := ⟨by decide +kernel, rfl⟩
theorem eX6_begins_39 : decode cX6_begins 39 = .ok (.getfield 13, 3) ∧ 39 + 3 = 42 := ⟨by decide +kernel, rfl⟩
theorem eX6_begins_42 : decode cX6_begins 42 = .ok (.iload_n 2, 1) ∧ 42 + 1 = 43 := ⟨by decide +kernel, rfl⟩
theorem eX6_begins_43 : decode cX6_begins 43 = .ok (.iaload, 1) ∧ 43 + 1 = 44 := ⟨by decide +kernel, rfl⟩
theorem eX6_begins_44 : decode cX6_begins 44 = .ok (.if_icmp .ge 12, 3) ∧ ((44 : Nat) : Int) + 12 = ((56 : Nat) : Int) ∧ 44 + 3 = 47 := ⟨by decide +kernel, by decide, rfl⟩
theorem eX6_begins_47 : decode cX6_begins 47 = .ok (.aload_n 0, 1) ∧ 47 + 1 = 48 := ⟨by decide +kernel, rfl⟩
theorem eX6_begins_48 : decode cX6_begins 48 = .ok (.getfield 13, 3) ∧ 48 + 3 = 51 := ⟨by decide +kernel, rfl⟩
theorem eX6_begins_51 : decode cX6_begins 51 = .ok (.iload_n 2, 1) ∧ 51 + 1 = 52 := ⟨by decide +kernel, rfl⟩
theorem eX6_begins_52 : decode cX6_begins 52 = .ok (.iaload, 1) ∧ 52 + 1 = 53 := ⟨by decide +kernel, rfl⟩
theorem eX6_begins_53 : decode cX6_begins 53 = .ok (.goto 5, 3) ∧ ((53 : Nat) : Int) + 5 = ((58 : Nat) : Int) := ⟨by decide +kernel, by decide⟩
theorem eX6_begins_56 : decode cX6_begins 56 = .ok (.iload 6, 2) ∧ 56 + 2 = 58 := ⟨by decide +kernel, rfl⟩
theorem eX6_begins_58 : decode cX6_begins 58 = .ok (.istore 7, 2) ∧ 58 + 2 = 60 := ⟨by decide +kernel, rfl⟩
theorem eX6_begins_60 : decode cX6_begins 60 = .ok (.iload 7, 2) ∧ 60 + 2 = 62 := ⟨by decide +kernel, rfl⟩
theorem eX6_begins_62 : decode cX6_begins 62 = .ok (.aload_n 0, 1) ∧ 62 + 1 = 63 := ⟨by decide +kernel, rfl⟩
theorem eX6_begins_63 : decode cX6_begins 63 = .ok (.getfield 16, 3) ∧ 63 + 3 = 66 := ⟨by decide +kernel, rfl⟩
theorem eX6_begins_66 : decode cX6_begins 66 = .ok (.iload_n 2, 1) ∧ 66 + 1 = 67 := ⟨by decide +kernel, rfl⟩
theorem eX6_begins_67 : decode cX6_begins 67 = .ok (.iaload, 1) ∧ 67 + 1 = 68 := ⟨by decide +kernel, rfl⟩
theorem eX6_begins_68 : decode cX6_begins 68 = .ok (.if_icmp .gt 23, 3) ∧ ((68 : Nat) : Int) + 23 = ((91 : Nat) : Int) ∧ 68 + 3 = 71 := ⟨by decide +kernel, by decide, rfl⟩
theorem eX6_begins_71 : decode cX6_begins 71 = .ok (.iload 7, 2) ∧ 71 + 2 = 73 := ⟨by decide +kernel, rfl⟩
theorem eX6_begins_73 : decode cX6_begins 73 = .ok (.aload_n 0, 1) ∧ 73 + 1 = 74 := ⟨by decide +kernel, rfl⟩
theorem eX6_begins_74 : decode cX6_begins 74 = .ok (.iload_n 2, 1) ∧ 74 + 1 = 75 := ⟨by decide +kernel, rfl⟩
theorem eX6_begins_75 : decode cX6_begins 75 = .ok (.invokevirtual 90, 3) ∧ 75 + 3 = 78 := ⟨by decide +kernel, rfl⟩
theorem eX6_begins_78 : decode cX6_begins 78 = .ok (.iadd, 1) ∧ 78 + 1 = 79 := ⟨by decide +kernel, rfl⟩
theorem eX6_begins_79 : decode cX6_begins 79 = .ok (.aload_n 0, 1) ∧ 79 + 1 = 80 := ⟨by decide +kernel, rfl⟩
theorem eX6_begins_80 : decode cX6_begins 80 = .ok (.getfield 53, 3) ∧ 80 + 3 = 83 := ⟨by decide +kernel, rfl⟩
theorem eX6_begins_83 : decode cX6_begins 83 = .ok (.if_icmp .gt 8, 3) ∧ ((83 : Nat) : Int) + 8 = ((91 : Nat) : Int) ∧ 83 + 3 = 86 := ⟨by decide +kernel, by decide, rfl⟩
theorem eX6_begins_86 : decode cX6_begins 86 = .ok (.iload 7, 2) ∧ 86 + 2 = 88 := ⟨by decide +kernel, rfl⟩
theorem eX6_begins_88 : decode cX6_begins 88 = .ok (.goto 5, 3) ∧ ((88 : Nat) : Int) + 5 = ((93 : Nat) : Int) := ⟨by decide +kernel, by decide⟩
theorem eX6_begins_91 : decode cX6_begins 91 = .ok (.bipush (-9), 2) ∧ 91 + 2 = 93 := ⟨by decide +kernel, rfl⟩
theorem eX6_begins_93 : decode cX6_begins 93 = .ok (.ireturn, 1) := by decide +kernel
theorem eX6_lasts_0 : decode cX6_lasts 0 = .ok (.aload_n 0, 1) ∧ 0 + 1 = 1 := ⟨by decide +kernel, rfl⟩
theorem eX6_lasts_1 : decode cX6_lasts 1 = .ok (.getfield 22, 3) ∧ 1 + 3 = 4 := ⟨by decide +kernel, rfl⟩
theorem eX6_lasts_4 : decode cX6_lasts 4 = .ok (.iload_n 1, 1) ∧ 4 + 1 = 5 := ⟨by decide +kernel, rfl⟩
theorem eX6_lasts_5 : decode cX6_lasts 5 = .ok (.iaload, 1) ∧ 5 + 1 = 6 := ⟨by decide +kernel, rfl⟩
theorem eX6_lasts_6 : decode cX6_lasts 6 = .ok (.iconst 3, 1) ∧ 6 + 1 = 7 := ⟨by decide +kernel, rfl⟩
theorem eX6_lasts_7 : decode cX6_lasts 7 = .ok (.if_icmp .ne 24, 3) ∧ ((7 : Nat) : Int) + 24 = ((31 : Nat) : Int) ∧ 7 + 3 = 10 := ⟨by decide +kernel, by decide, rfl⟩
theorem eX6_lasts_10 : decode cX6_lasts 10 = .ok (.aload_n 0, 1) ∧ 10 + 1 = 11 := ⟨by decide +kernel, rfl⟩
theorem eX6_lasts_11 : decode cX6_lasts 11 = .ok (.getfield 19, 3) ∧ 11 + 3 = 14 := ⟨by decide +kernel, rfl⟩
theorem eX6_lasts_14 : decode cX6_lasts 14 = .ok (.iload_n 1, 1) ∧ 14 + 1 = 15 := ⟨by decide +kernel, rfl⟩
theorem eX6_lasts_15 : decode cX6_lasts 15 = .ok (.iaload, 1) ∧ 15 + 1 = 16 := ⟨by decide +kernel, rfl⟩
theorem eX6_lasts_16 : decode cX6_lasts 16 = .ok (.iconst 1, 1) ∧ 16 + 1 = 17 := ⟨by decide +kernel, rfl⟩
theorem eX6_lasts_17 : decode cX6_lasts 17 = .ok (.if_icmp .le 14, 3) ∧ ((17 : Nat) : Int) + 14 = ((31 : Nat) : Int) ∧ 17 + 3 = 20 := ⟨by decide +kernel, by decide, rfl⟩
theorem eX6_lasts_20 : decode cX6_lasts 20 = .ok (.aload_n 0, 1) ∧ 20 + 1 = 21 := ⟨by decide +kernel, rfl⟩
theorem eX6_lasts_21 : decode cX6_lasts 21 = .ok (.getfield 19, 3) ∧ 21 + 3 = 24 := ⟨by decide +kernel, rfl⟩
theorem eX6_lasts_24 : decode cX6_lasts 24 = .ok (.iload_n 1, 1) ∧ 24 + 1 = 25 := ⟨by decide +kernel, rfl⟩
theorem eX6_lasts_25 : decode cX6_lasts 25 = .ok (.iaload, 1) ∧ 25 + 1 = 26 := ⟨by decide +kernel, rfl⟩
theorem eX6_lasts_26 : decode cX6_lasts 26 = .ok (.iconst 1, 1) ∧ 26 + 1 = 27 := ⟨by decide +kernel, rfl⟩
theorem eX6_lasts_27 : decode cX6_lasts 27 = .ok (.isub, 1) ∧ 27 + 1 = 28 := ⟨by decide +kernel, rfl⟩
theorem eX6_lasts_28 : decode cX6_lasts 28 = .ok (.goto 9, 3) ∧ ((28 : Nat) : Int) + 9 = ((37 : Nat) : Int) := ⟨by decide +kernel, by decide⟩
theorem eX6_lasts_31 : decode cX6_lasts 31 = .ok (.aload_n 0, 1) ∧ 31 + 1 = 32 := ⟨by decide +kernel, rfl⟩
theorem eX6_lasts_32 : decode cX6_lasts 32 = .ok (.getfield 19, 3) ∧ 32 + 3 = 35 := ⟨by decide +kernel, rfl⟩
theorem eX6_lasts_35 : decode cX6_lasts 35 = .ok (.iload_n 1, 1) ∧ 35 + 1 = 36 := ⟨by decide +kernel, rfl⟩
theorem eX6_lasts_36 : decode cX6_lasts 36 = .ok (.iaload, 1) ∧ 36 + 1 = 37 := ⟨by decide +kernel, rfl⟩
theorem eX6_lasts_37 : decode cX6_lasts 37 = .ok (.ireturn, 1) := by decide +kernel
theorem eX6_behind_0 : decode cX6_behind 0 = .ok (.iload_n 2, 1) ∧ 0 + 1 = 1 := ⟨by decide +kernel, rfl⟩
theorem eX6_behind_1 : decode cX6_behind 1 = .ok (.aload_n 0, 1) ∧ 1 + 1 = 2 := ⟨by decide +kernel, rfl⟩
theorem eX6_behind_2 : decode cX6_behind 2 = .ok (.iload_n 1, 1) ∧ 2 + 1 = 3 := ⟨by decide +kernel, rfl⟩
theorem eX6_behind_3 : decode cX6_behind 3 = .ok (.invokevirtual 90, 3) ∧ 3 + 3 = 6 := ⟨by decide +kernel, rfl⟩
theorem eX6_behind_6 : decode cX6_behind 6 = .ok (.iadd, 1) ∧ 6 + 1 = 7 := ⟨by decide +kernel, rfl⟩
theorem eX6_behind_7 : decode cX6_behind 7 = .ok (.aload_n 0, 1) ∧ 7 + 1 = 8 := ⟨by decide +kernel, rfl⟩
theorem eX6_behind_8 : decode cX6_behind 8 = .ok (.getfield 22, 3) ∧ 8 + 3 = 11 := ⟨by decide +kernel, rfl⟩
theorem eX6_behind_11 : decode cX6_behind 11 = .ok (.iload_n 1, 1) ∧ 11 + 1 = 12 := ⟨by decide +kernel, rfl⟩
theorem eX6_behind_12 : decode cX6_behind 12 = .ok (.iaload, 1) ∧ 12 + 1 = 13 := ⟨by decide +kernel, rfl⟩
theorem eX6_behind_13 : decode cX6_behind 13 = .ok (.iconst 1, 1) ∧ 13 + 1 = 14 := ⟨by decide +kernel, rfl⟩
theorem eX6_behind_14 : decode cX6_behind 14 = .ok (.if_icmp .ne 7, 3) ∧ ((14 : Nat) : Int) + 7 = ((21 : Nat) : Int) ∧ 14 + 3 = 17 := ⟨by decide +kernel, by decide, rfl⟩
theorem eX6_behind_17 : decode cX6_behind 17 = .ok (.iconst 1, 1) ∧ 17 + 1 = 18 := ⟨by decide +kernel, rfl⟩
theorem eX6_behind_18 : decode cX6_behind 18 = .ok (.goto 4, 3) ∧ ((18 : Nat) : Int) + 4 = ((22 : Nat) : Int) := ⟨by decide +kernel, by decide⟩
theorem eX6_behind_21 : decode cX6_behind 21 = .ok (.iconst 0, 1) ∧ 21 + 1 = 22 := ⟨by decide +kernel, rfl⟩
theorem eX6_behind_22 : decode cX6_behind 22 = .ok (.iadd, 1) ∧ 22 + 1 = 23 := ⟨by decide +kernel, rfl⟩
theorem eX6_behind_23 : decode cX6_behind 23 = .ok (.ireturn, 1) := by decide +kernel
theorem eX6_beginsNow_0 : decode cX6_beginsNow 0 = .ok (.bipush 8, 2) ∧ 0 + 2 = 2 := ⟨by decide +kernel, rfl⟩
theorem eX6_beginsNow_2 : decode cX6_beginsNow 2 = .ok (.iload_n 1, 1) ∧ 2 + 1 = 3 := ⟨by decide +kernel, rfl⟩
theorem eX6_beginsNow_3 : decode cX6_beginsNow 3 = .ok (.imul, 1) ∧ 3 + 1 = 4 := ⟨by decide +kernel, rfl⟩
theorem eX6_beginsNow_4 : decode cX6_beginsNow 4 = .ok (.istore_n 3, 1) ∧ 4 + 1 = 5 := ⟨by decide +kernel, rfl⟩
theorem eX6_beginsNow_5 : decode cX6_beginsNow 5 = .ok (.aload_n 0, 1) ∧ 5 + 1 = 6 := ⟨by decide +kernel, rfl⟩
theorem eX6_beginsNow_6 : decode cX6_beginsNow 6 = .ok (.getfield 25, 3) ∧ 6 + 3 = 9 := ⟨by decide +kernel, rfl⟩
theorem eX6_beginsNow_9 : decode cX6_beginsNow 9 = .ok (.iload_n 3, 1) ∧ 9 + 1 = 10 := ⟨by decide +kernel, rfl⟩
theorem eX6_beginsNow_10 : decode cX6_beginsNow 10 = .ok (.iconst 2, 1) ∧ 10 + 1 = 11 := ⟨by decide +kernel, rfl⟩
theorem eX6_beginsNow_11 : decode cX6_beginsNow 11 = .ok (.iadd, 1) ∧ 11 + 1 = 12 := ⟨by decide +kernel, rfl⟩
theorem eX6_beginsNow_12 : decode cX6_beginsNow 12 = .ok (.iaload, 1) ∧ 12 + 1 = 13 := ⟨by decide +kernel, rfl⟩
theorem eX6_beginsNow_13 : decode cX6_beginsNow 13 = .ok (.iload_n 2, 1) ∧ 13 + 1 = 14 := ⟨by decide +kernel, rfl⟩
theorem eX6_beginsNow_14 : decode cX6_beginsNow 14 = .ok (.invokestatic 94, 3) ∧ 14 + 3 = 17 := ⟨by decide +kernel, rfl⟩
theorem eX6_beginsNow_17 : decode cX6_beginsNow 17 = .ok (.ifCond .eq 8, 3) ∧ ((17 : Nat) : Int) + 8 = ((25 : Nat) : Int) ∧ 17 + 3 = 20 := ⟨by decide +kernel, by decide, rfl⟩
theorem eX6_beginsNow_20 : decode cX6_beginsNow 20 = .ok (.bipush (-9), 2) ∧ 20 + 2 = 22 := ⟨by decide +kernel, rfl⟩
theorem eX6_beginsNow_22 : decode cX6_beginsNow 22 = .ok (.goto 24, 3) ∧ ((22 : Nat) : Int) + 24 = ((46 : Nat) : Int) := ⟨by decide +kernel, by decide⟩
theorem eX6_beginsNow_25 : decode cX6_beginsNow 25 = .ok (.aload_n 0, 1) ∧ 25 + 1 = 26 := ⟨by decide +kernel, rfl⟩
theorem eX6_beginsNow_26 : decode cX6_beginsNow 26 = .ok (.iload_n 1, 1) ∧ 26 + 1 = 27 := ⟨by decide +kernel, rfl⟩
theorem eX6_beginsNow_27 : decode cX6_beginsNow 27 = .ok (.iload_n 2, 1) ∧ 27 + 1 = 28 := ⟨by decide +kernel, rfl⟩
theorem eX6_beginsNow_28 : decode cX6_beginsNow 28 = .ok (.aload_n 0, 1) ∧ 28 + 1 = 29 := ⟨by decide +kernel, rfl⟩
theorem eX6_beginsNow_29 : decode cX6_beginsNow 29 = .ok (.getfield 25, 3) ∧ 29 + 3 = 32 := ⟨by decide +kernel, rfl⟩
theorem eX6_beginsNow_32 : decode cX6_beginsNow 32 = .ok (.iload_n 3, 1) ∧ 32 + 1 = 33 := ⟨by decide +kernel, rfl⟩
theorem eX6_beginsNow_33 : decode cX6_beginsNow 33 = .ok (.iconst 1, 1) ∧ 33 + 1 = 34 := ⟨by decide +kernel, rfl⟩
theorem eX6_beginsNow_34 : decode cX6_beginsNow 34 = .ok (.iadd, 1) ∧ 34 + 1 = 35 := ⟨by decide +kernel, rfl⟩
theorem eX6_beginsNow_35 : decode cX6_beginsNow 35 = .ok (.iaload, 1) ∧ 35 + 1 = 36 := ⟨by decide +kernel, rfl⟩
theorem eX6_beginsNow_36 : decode cX6_beginsNow 36 = .ok (.aload_n 0, 1) ∧ 36 + 1 = 37 := ⟨by decide +kernel, rfl⟩
theorem eX6_beginsNow_37 : decode cX6_beginsNow 37 = .ok (.getfield 25, 3) ∧ 37 + 3 = 40 := ⟨by decide +kernel, rfl⟩
theorem eX6_beginsNow_40 : decode cX6_beginsNow 40 = .ok (.iload_n 3, 1) ∧ 40 + 1 = 41 := ⟨by decide +kernel, rfl⟩
theorem eX6_beginsNow_41 : decode cX6_beginsNow 41 = .ok (.iaload, 1) ∧ 41 + 1 = 42 := ⟨by decide +kernel, rfl⟩
theorem eX6_beginsNow_42 : decode cX6_beginsNow 42 = .ok (.iconst 0, 1) ∧ 42 + 1 = 43 := ⟨by decide +kernel, rfl⟩
theorem eX6_beginsNow_43 : decode cX6_beginsNow 43 = .ok (.invokevirtual 98, 3) ∧ 43 + 3 = 46 := ⟨by decide +kernel, rfl⟩
theorem eX6_beginsNow_46 : decode cX6_beginsNow 46 = .ok (.ireturn, 1) := by decide +kernel
theorem eX6_wedOn_0 : decode cX6_wedOn 0 = .ok (.bipush 8, 2) ∧ 0 + 2 = 2 := ⟨by decide +kernel, rfl⟩
theorem eX6_wedOn_2 : decode cX6_wedOn 2 = .ok (.iload_n 1, 1) ∧ 2 + 1 = 3 := ⟨by decide +kernel, rfl⟩
theorem eX6_wedOn_3 : decode cX6_wedOn 3 = .ok (.imul, 1) ∧ 3 + 1 = 4 := ⟨by decide +kernel, rfl⟩
theorem eX6_wedOn_4 : decode cX6_wedOn 4 = .ok (.istore_n 3, 1) ∧ 4 + 1 = 5 := ⟨by decide +kernel, rfl⟩
theorem eX6_wedOn_5 : decode cX6_wedOn 5 = .ok (.aload_n 0, 1) ∧ 5 + 1 = 6 := ⟨by decide +kernel, rfl⟩
theorem eX6_wedOn_6 : decode cX6_wedOn 6 = .ok (.iload_n 1, 1) ∧ 6 + 1 = 7 := ⟨by decide +kernel, rfl⟩
theorem eX6_wedOn_7 : decode cX6_wedOn 7 = .ok (.iload_n 2, 1) ∧ 7 + 1 = 8 := ⟨by decide +kernel, rfl⟩
theorem eX6_wedOn_8 : decode cX6_wedOn 8 = .ok (.invokevirtual 102, 3) ∧ 8 + 3 = 11 := ⟨by decide +kernel, rfl⟩
theorem eX6_wedOn_11 : decode cX6_wedOn 11 = .ok (.istore 4, 2) ∧ 11 + 2 = 13 := ⟨by decide +kernel, rfl⟩
theorem eX6_wedOn_13 : decode cX6_wedOn 13 = .ok (.iload 4, 2) ∧ 13 + 2 = 15 := ⟨by decide +kernel, rfl⟩
theorem eX6_wedOn_15 : decode cX6_wedOn 15 = .ok (.bipush (-9), 2) ∧ 15 + 2 = 17 := ⟨by decide +kernel, rfl⟩
theorem eX6_wedOn_17 : decode cX6_wedOn 17 = .ok (.if_icmp .ne 5, 3) ∧ ((17 : Nat) : Int) + 5 = ((22 : Nat) : Int) ∧ 17 + 3 = 20 := ⟨by decide +kernel, by decide, rfl⟩
theorem eX6_wedOn_20 : decode cX6_wedOn 20 = .ok (.iconst 0, 1) ∧ 20 + 1 = 21 := ⟨by decide +kernel, rfl⟩
theorem eX6_wedOn_21 : decode cX6_wedOn 21 = .ok (.ireturn, 1) := by decide +kernel
theorem eX6_wedOn_22 : decode cX6_wedOn 22 = .ok (.aload_n 0, 1) ∧ 22 + 1 = 23 := ⟨by decide +kernel, rfl⟩
theorem eX6_wedOn_23 : decode cX6_wedOn 23 = .ok (.getfield 25, 3) ∧ 23 + 3 = 26 := ⟨by decide +kernel, rfl⟩
theorem eX6_wedOn_26 : decode cX6_wedOn 26 = .ok (.iload_n 3, 1) ∧ 26 + 1 = 27 := ⟨by decide +kernel, rfl⟩
theorem eX6_wedOn_27 : decode cX6_wedOn 27 = .ok (.aload_n 0, 1) ∧ 27 + 1 = 28 := ⟨by decide +kernel, rfl⟩
theorem eX6_wedOn_28 : decode cX6_wedOn 28 = .ok (.iload_n 2, 1) ∧ 28 + 1 = 29 := ⟨by decide +kernel, rfl⟩
theorem eX6_wedOn_29 : decode cX6_wedOn 29 = .ok (.iload 4, 2) ∧ 29 + 2 = 31 := ⟨by decide +kernel, rfl⟩
theorem eX6_wedOn_31 : decode cX6_wedOn 31 = .ok (.invokevirtual 106, 3) ∧ 31 + 3 = 34 := ⟨by decide +kernel, rfl⟩
theorem eX6_wedOn_34 : decode cX6_wedOn 34 = .ok (.iastore, 1) ∧ 34 + 1 = 35 := ⟨by decide +kernel, rfl⟩
theorem eX6_wedOn_35 : decode cX6_wedOn 35 = .ok (.aload_n 0, 1) ∧ 35 + 1 = 36 := ⟨by decide +kernel, rfl⟩
theorem eX6_wedOn_36 : decode cX6_wedOn 36 = .ok (.getfield 25, 3) ∧ 36 + 3 = 39 := ⟨by decide +kernel, rfl⟩
theorem eX6_wedOn_39 : decode cX6_wedOn 39 = .ok (.iload_n 3, 1) ∧ 39 + 1 = 40 := ⟨by decide +kernel, rfl⟩
theorem eX6_wedOn_40 : decode cX6_wedOn 40 = .ok (.iconst 1, 1) ∧ 40 + 1 = 41 := ⟨by decide +kernel, rfl⟩
theorem eX6_wedOn_41 : decode cX6_wedOn 41 = .ok (.iadd, 1) ∧ 41 + 1 = 42 := ⟨by decide +kernel, rfl⟩
theorem eX6_wedOn_42 : decode cX6_wedOn 42 = .ok (.aload_n 0, 1) ∧ 42 + 1 = 43 := ⟨by decide +kernel, rfl⟩
theorem eX6_wedOn_43 : decode cX6_wedOn 43 = .ok (.getfield 7, 3) ∧ 43 + 3 = 46 := ⟨by decide +kernel, rfl⟩
theorem eX6_wedOn_46 : decode cX6_wedOn 46 = .ok (.iload_n 2, 1) ∧ 46 + 1 = 47 := ⟨by decide +kernel, rfl⟩
theorem eX6_wedOn_47 : decode cX6_wedOn 47 = .ok (.iaload, 1) ∧ 47 + 1 = 48 := ⟨by decide +kernel, rfl⟩
theorem eX6_wedOn_48 : decode cX6_wedOn 48 = .ok (.iastore, 1) ∧ 48 + 1 = 49 := ⟨by decide +kernel, rfl⟩
theorem eX6_wedOn_49 : decode cX6_wedOn 49 = .ok (.aload_n 0, 1) ∧ 49 + 1 = 50 := ⟨by decide +kernel, rfl⟩
theorem eX6_wedOn_50 : decode cX6_wedOn 50 = .ok (.getfield 25, 3) ∧ 50 + 3 = 53 := ⟨by decide +kernel, rfl⟩
theorem eX6_wedOn_53 : decode cX6_wedOn 53 = .ok (.iload_n 3, 1) ∧ 53 + 1 = 54 := ⟨by decide +kernel, rfl⟩
theorem eX6_wedOn_54 : decode cX6_wedOn 54 = .ok (.iconst 2, 1) ∧ 54 + 1 = 55 := ⟨by decide +kernel, rfl⟩
theorem eX6_wedOn_55 : decode cX6_wedOn 55 = .ok (.iadd, 1) ∧ 55 + 1 = 56 := ⟨by decide +kernel, rfl⟩
theorem eX6_wedOn_56 : decode cX6_wedOn 56 = .ok (.dup2, 1) ∧ 56 + 1 = 57 := ⟨by decide +kernel, rfl⟩
theorem eX6_wedOn_57 : decode cX6_wedOn 57 = .ok (.iaload, 1) ∧ 57 + 1 = 58 := ⟨by decide +kernel, rfl⟩
theorem eX6_wedOn_58 : decode cX6_wedOn 58 = .ok (.iconst 1, 1) ∧ 58 + 1 = 59 := ⟨by decide +kernel, rfl⟩
theorem eX6_wedOn_59 : decode cX6_wedOn 59 = .ok (.iload_n 2, 1) ∧ 59 + 1 = 60 := ⟨by decide +kernel, rfl⟩
theorem eX6_wedOn_60 : decode cX6_wedOn 60 = .ok (.ishl, 1) ∧ 60 + 1 = 61 := ⟨by decide +kernel, rfl⟩
theorem eX6_wedOn_61 : decode cX6_wedOn 61 = .ok (.ior, 1) ∧ 61 + 1 = 62 := ⟨by decide +kernel, rfl⟩
theorem eX6_wedOn_62 : decode cX6_wedOn 62 = .ok (.iastore, 1) ∧ 62 + 1 = 63 := ⟨by decide +kernel, rfl⟩
theorem eX6_wedOn_63 : decode cX6_wedOn 63 = .ok (.iconst 1, 1) ∧ 63 + 1 = 64 := ⟨by decide +kernel, rfl⟩
theorem eX6_wedOn_64 : decode cX6_wedOn 64 = .ok (.ireturn, 1) := by decide +kernel
theorem eX6_wedding_0 : decode cX6_wedding 0 = .ok (.aload_n 0, 1) ∧ 0 + 1 = 1 := ⟨by decide +kernel, rfl⟩
theorem eX6_wedding_1 : decode cX6_wedding 1 = .ok (.iload_n 1, 1) ∧ 1 + 1 = 2 := ⟨by decide +kernel, rfl⟩
theorem eX6_wedding_2 : decode cX6_wedding 2 = .ok (.invokevirtual 109, 3) ∧ 2 + 3 = 5 := ⟨by decide +kernel, rfl⟩
theorem eX6_wedding_5 : decode cX6_wedding 5 = .ok (.ifCond .ne 5, 3) ∧ ((5 : Nat) : Int) + 5 = ((10 : Nat) : Int) ∧ 5 + 3 = 8 := ⟨by decide +kernel, by decide, rfl⟩
theorem eX6_wedding_8 : decode cX6_wedding 8 = .ok (.iconst (-1), 1) ∧ 8 + 1 = 9 := ⟨by decide +kernel, rfl⟩
theorem eX6_wedding_9 : decode cX6_wedding 9 = .ok (.ireturn, 1) := by decide +kernel
theorem eX6_wedding_10 : decode cX6_wedding 10 = .ok (.iload_n 2, 1) ∧ 10 + 1 = 11 := ⟨by decide +kernel, rfl⟩
theorem eX6_wedding_11 : decode cX6_wedding 11 = .ok (.tableswitch 94 0 6 #[41, 48, 55, 62, 69, 76, 87], 41) := by decide +kernel
theorem eX6_wedding_52 : decode cX6_wedding 52 = .ok (.aload_n 0, 1) ∧ 52 + 1 = 53 := ⟨by decide +kernel, rfl⟩
theorem eX6_wedding_53 : decode cX6_wedding 53 = .ok (.getfield 7, 3) ∧ 53 + 3 = 56 := ⟨by decide +kernel, rfl⟩
theorem eX6_wedding_56 : decode cX6_wedding 56 = .ok (.iload_n 1, 1) ∧ 56 + 1 = 57 := ⟨by decide +kernel, rfl⟩
theorem eX6_wedding_57 : decode cX6_wedding 57 = .ok (.iaload, 1) ∧ 57 + 1 = 58 := ⟨by decide +kernel, rfl⟩
theorem eX6_wedding_58 : decode cX6_wedding 58 = .ok (.ireturn, 1) := by decide +kernel
theorem eX6_wedding_59 : decode cX6_wedding 59 = .ok (.aload_n 0, 1) ∧ 59 + 1 = 60 := ⟨by decide +kernel, rfl⟩
theorem eX6_wedding_60 : decode cX6_wedding 60 = .ok (.getfield 13, 3) ∧ 60 + 3 = 63 := ⟨by decide +kernel, rfl⟩
theorem eX6_wedding_63 : decode cX6_wedding 63 = .ok (.iload_n 1, 1) ∧ 63 + 1 = 64 := ⟨by decide +kernel, rfl⟩
theorem eX6_wedding_64 : decode cX6_wedding 64 = .ok (.iaload, 1) ∧ 64 + 1 = 65 := ⟨by decide +kernel, rfl⟩
theorem eX6_wedding_65 : decode cX6_wedding 65 = .ok (.ireturn, 1) := by decide +kernel
theorem eX6_wedding_66 : decode cX6_wedding 66 = .ok (.aload_n 0, 1) ∧ 66 + 1 = 67 := ⟨by decide +kernel, rfl⟩
theorem eX6_wedding_67 : decode cX6_wedding 67 = .ok (.getfield 16, 3) ∧ 67 + 3 = 70 := ⟨by decide +kernel, rfl⟩
theorem eX6_wedding_70 : decode cX6_wedding 70 = .ok (.iload_n 1, 1) ∧ 70 + 1 = 71 := ⟨by decide +kernel, rfl⟩
theorem eX6_wedding_71 : decode cX6_wedding 71 = .ok (.iaload, 1) ∧ 71 + 1 = 72 := ⟨by decide +kernel, rfl⟩
theorem eX6_wedding_72 : decode cX6_wedding 72 = .ok (.ireturn, 1) := by decide +kernel
theorem eX6_wedding_73 : decode cX6_wedding 73 = .ok (.aload_n 0, 1) ∧ 73 + 1 = 74 := ⟨by decide +kernel, rfl⟩
theorem eX6_wedding_74 : decode cX6_wedding 74 = .ok (.getfield 19, 3) ∧ 74 + 3 = 77 := ⟨by decide +kernel, rfl⟩
theorem eX6_wedding_77 : decode cX6_wedding 77 = .ok (.iload_n 1, 1) ∧ 77 + 1 = 78 := ⟨by decide +kernel, rfl⟩
theorem eX6_wedding_78 : decode cX6_wedding 78 = .ok (.iaload, 1) ∧ 78 + 1 = 79 := ⟨by decide +kernel, rfl⟩
theorem eX6_wedding_79 : decode cX6_wedding 79 = .ok (.ireturn, 1) := by decide +kernel
theorem eX6_wedding_80 : decode cX6_wedding 80 = .ok (.aload_n 0, 1) ∧ 80 + 1 = 81 := ⟨by decide +kernel, rfl⟩
theorem eX6_wedding_81 : decode cX6_wedding 81 = .ok (.getfield 22, 3) ∧ 81 + 3 = 84 := ⟨by decide +kernel, rfl⟩
theorem eX6_wedding_84 : decode cX6_wedding 84 = .ok (.iload_n 1, 1) ∧ 84 + 1 = 85 := ⟨by decide +kernel, rfl⟩
theorem eX6_wedding_85 : decode cX6_wedding 85 = .ok (.iaload, 1) ∧ 85 + 1 = 86 := ⟨by decide +kernel, rfl⟩
theorem eX6_wedding_86 : decode cX6_wedding 86 = .ok (.ireturn, 1) := by decide +kernel
theorem eX6_wedding_87 : decode cX6_wedding 87 = .ok (.aload_n 0, 1) ∧ 87 + 1 = 88 := ⟨by decide +kernel, rfl⟩
theorem eX6_wedding_88 : decode cX6_wedding 88 = .ok (.getfield 25, 3) ∧ 88 + 3 = 91 := ⟨by decide +kernel, rfl⟩
theorem eX6_wedding_91 : decode cX6_wedding 91 = .ok (.iconst 2, 1) ∧ 91 + 1 = 92 := ⟨by decide +kernel, rfl⟩
theorem eX6_wedding_92 : decode cX6_wedding 92 = .ok (.iaload, 1) ∧ 92 + 1 = 93 := ⟨by decide +kernel, rfl⟩
theorem eX6_wedding_93 : decode cX6_wedding 93 = .ok (.iload_n 1, 1) ∧ 93 + 1 = 94 := ⟨by decide +kernel, rfl⟩
theorem eX6_wedding_94 : decode cX6_wedding 94 = .ok (.ishr, 1) ∧ 94 + 1 = 95 := ⟨by decide +kernel, rfl⟩
theorem eX6_wedding_95 : decode cX6_wedding 95 = .ok (.iconst 1, 1) ∧ 95 + 1 = 96 := ⟨by decide +kernel, rfl⟩
theorem eX6_wedding_96 : decode cX6_wedding 96 = .ok (.iand, 1) ∧ 96 + 1 = 97 := ⟨by decide +kernel, rfl⟩
theorem eX6_wedding_97 : decode cX6_wedding 97 = .ok (.ireturn, 1) := by decide +kernel
theorem eX6_wedding_98 : decode cX6_wedding 98 = .ok (.aload_n 0, 1) ∧ 98 + 1 = 99 := ⟨by decide +kernel, rfl⟩
theorem eX6_wedding_99 : decode cX6_wedding 99 = .ok (.iconst 0, 1) ∧ 99 + 1 = 100 := ⟨by decide +kernel, rfl⟩
theorem eX6_wedding_100 : decode cX6_wedding 100 = .ok (.iload_n 1, 1) ∧ 100 + 1 = 101 := ⟨by decide +kernel, rfl⟩
theorem eX6_wedding_101 : decode cX6_wedding 101 = .ok (.invokevirtual 102, 3) ∧ 101 + 3 = 104 := ⟨by decide +kernel, rfl⟩
theorem eX6_wedding_104 : decode cX6_wedding 104 = .ok (.ireturn, 1) := by decide +kernel
theorem eX6_wedding_105 : decode cX6_wedding 105 = .ok (.bipush (-2), 2) ∧ 105 + 2 = 107 := ⟨by decide +kernel, rfl⟩
theorem eX6_wedding_107 : decode cX6_wedding 107 = .ok (.ireturn, 1) := by decide +kernel
theorem eX6_road_0 : decode cX6_road 0 = .ok (.iload_n 1, 1) ∧ 0 + 1 = 1 := ⟨by decide +kernel, rfl⟩
theorem eX6_road_1 : decode cX6_road 1 = .ok (.i2l, 1) ∧ 1 + 1 = 2 := ⟨by decide +kernel, rfl⟩
theorem eX6_road_2 : decode cX6_road 2 = .ok (.lconst 0, 1) ∧ 2 + 1 = 3 := ⟨by decide +kernel, rfl⟩
theorem eX6_road_3 : decode cX6_road 3 = .ok (.ldc2_w 112, 3) ∧ 3 + 3 = 6 := ⟨by decide +kernel, rfl⟩
theorem eX6_road_6 : decode cX6_road 6 = .ok (.invokestatic 59, 3) ∧ 6 + 3 = 9 := ⟨by decide +kernel, rfl⟩
theorem eX6_road_9 : decode cX6_road 9 = .ok (.ifCond .eq 14, 3) ∧ ((9 : Nat) : Int) + 14 = ((23 : Nat) : Int) ∧ 9 + 3 = 12 := ⟨by decide +kernel, by decide, rfl⟩
theorem eX6_road_12 : decode cX6_road 12 = .ok (.aload_n 0, 1) ∧ 12 + 1 = 13 := ⟨by decide +kernel, rfl⟩
theorem eX6_road_13 : decode cX6_road 13 = .ok (.getfield 25, 3) ∧ 13 + 3 = 16 := ⟨by decide +kernel, rfl⟩
theorem eX6_road_16 : decode cX6_road 16 = .ok (.iconst 3, 1) ∧ 16 + 1 = 17 := ⟨by decide +kernel, rfl⟩
theorem eX6_road_17 : decode cX6_road 17 = .ok (.iload_n 1, 1) ∧ 17 + 1 = 18 := ⟨by decide +kernel, rfl⟩
theorem eX6_road_18 : decode cX6_road 18 = .ok (.iadd, 1) ∧ 18 + 1 = 19 := ⟨by decide +kernel, rfl⟩
theorem eX6_road_19 : decode cX6_road 19 = .ok (.iaload, 1) ∧ 19 + 1 = 20 := ⟨by decide +kernel, rfl⟩
theorem eX6_road_20 : decode cX6_road 20 = .ok (.goto 4, 3) ∧ ((20 : Nat) : Int) + 4 = ((24 : Nat) : Int) := ⟨by decide +kernel, by decide⟩
theorem eX6_road_23 : decode cX6_road 23 = .ok (.iconst (-1), 1) ∧ 23 + 1 = 24 := ⟨by decide +kernel, rfl⟩
theorem eX6_road_24 : decode cX6_road 24 = .ok (.ireturn, 1) := by decide +kernel
theorem eX6_way_0 : decode cX6_way 0 = .ok (.iload_n 1, 1) ∧ 0 + 1 = 1 := ⟨by decide +kernel, rfl⟩
theorem eX6_way_1 : decode cX6_way 1 = .ok (.invokestatic 114, 3) ∧ 1 + 3 = 4 := ⟨by decide +kernel, rfl⟩
theorem eX6_way_4 : decode cX6_way 4 = .ok (.ifCond .eq 20, 3) ∧ ((4 : Nat) : Int) + 20 = ((24 : Nat) : Int) ∧ 4 + 3 = 7 := ⟨by decide +kernel, by decide, rfl⟩
theorem eX6_way_7 : decode cX6_way 7 = .ok (.iload_n 2, 1) ∧ 7 + 1 = 8 := ⟨by decide +kernel, rfl⟩
theorem eX6_way_8 : decode cX6_way 8 = .ok (.invokestatic 114, 3) ∧ 8 + 3 = 11 := ⟨by decide +kernel, rfl⟩
theorem eX6_way_11 : decode cX6_way 11 = .ok (.ifCond .eq 13, 3) ∧ ((11 : Nat) : Int) + 13 = ((24 : Nat) : Int) ∧ 11 + 3 = 14 := ⟨by decide +kernel, by decide, rfl⟩
theorem eX6_way_14 : decode cX6_way 14 = .ok (.aload_n 0, 1) ∧ 14 + 1 = 15 := ⟨by decide +kernel, rfl⟩
theorem eX6_way_15 : decode cX6_way 15 = .ok (.iconst 0, 1) ∧ 15 + 1 = 16 := ⟨by decide +kernel, rfl⟩
theorem eX6_way_16 : decode cX6_way 16 = .ok (.iload_n 1, 1) ∧ 16 + 1 = 17 := ⟨by decide +kernel, rfl⟩
theorem eX6_way_17 : decode cX6_way 17 = .ok (.iload_n 2, 1) ∧ 17 + 1 = 18 := ⟨by decide +kernel, rfl⟩
theorem eX6_way_18 : decode cX6_way 18 = .ok (.invokevirtual 86, 3) ∧ 18 + 3 = 21 := ⟨by decide +kernel, rfl⟩
theorem eX6_way_21 : decode cX6_way 21 = .ok (.goto 4, 3) ∧ ((21 : Nat) : Int) + 4 = ((25 : Nat) : Int) := ⟨by decide +kernel, by decide⟩
theorem eX6_way_24 : decode cX6_way 24 = .ok (.iconst (-1), 1) ∧ 24 + 1 = 25 := ⟨by decide +kernel, rfl⟩
theorem eX6_way_25 : decode cX6_way 25 = .ok (.ireturn, 1) := by decide +kernel
theorem eX6_keepAct_0 : decode cX6_keepAct 0 = .ok (.iconst 0, 1) ∧ 0 + 1 = 1 := ⟨by decide +kernel, rfl⟩
theorem eX6_keepAct_1 : decode cX6_keepAct 1 = .ok (.istore_n 1, 1) ∧ 1 + 1 = 2 := ⟨by decide +kernel, rfl⟩
theorem eX6_keepAct_2 : decode cX6_keepAct 2 = .ok (.iload_n 1, 1) ∧ 2 + 1 = 3 := ⟨by decide +kernel, rfl⟩
theorem eX6_keepAct_3 : decode cX6_keepAct 3 = .ok (.bipush 8, 2) ∧ 3 + 2 = 5 := ⟨by decide +kernel, rfl⟩
theorem eX6_keepAct_5 : decode cX6_keepAct 5 = .ok (.if_icmp .ge 29, 3) ∧ ((5 : Nat) : Int) + 29 = ((34 : Nat) : Int) ∧ 5 + 3 = 8 := ⟨by decide +kernel, by decide, rfl⟩
theorem eX6_keepAct_8 : decode cX6_keepAct 8 = .ok (.aload_n 0, 1) ∧ 8 + 1 = 9 := ⟨by decide +kernel, rfl⟩
theorem eX6_keepAct_9 : decode cX6_keepAct 9 = .ok (.getfield 31, 3) ∧ 9 + 3 = 12 := ⟨by decide +kernel, rfl⟩
theorem eX6_keepAct_12 : decode cX6_keepAct 12 = .ok (.bipush 8, 2) ∧ 12 + 2 = 14 := ⟨by decide +kernel, rfl⟩
theorem eX6_keepAct_14 : decode cX6_keepAct 14 = .ok (.aload_n 0, 1) ∧ 14 + 1 = 15 := ⟨by decide +kernel, rfl⟩
theorem eX6_keepAct_15 : decode cX6_keepAct 15 = .ok (.getfield 117, 3) ∧ 15 + 3 = 18 := ⟨by decide +kernel, rfl⟩
theorem eX6_keepAct_18 : decode cX6_keepAct 18 = .ok (.imul, 1) ∧ 18 + 1 = 19 := ⟨by decide +kernel, rfl⟩
theorem eX6_keepAct_19 : decode cX6_keepAct 19 = .ok (.iload_n 1, 1) ∧ 19 + 1 = 20 := ⟨by decide +kernel, rfl⟩
theorem eX6_keepAct_20 : decode cX6_keepAct 20 = .ok (.iadd, 1) ∧ 20 + 1 = 21 := ⟨by decide +kernel, rfl⟩
theorem eX6_keepAct_21 : decode cX6_keepAct 21 = .ok (.aload_n 0, 1) ∧ 21 + 1 = 22 := ⟨by decide +kernel, rfl⟩
theorem eX6_keepAct_22 : decode cX6_keepAct 22 = .ok (.getfield 25, 3) ∧ 22 + 3 = 25 := ⟨by decide +kernel, rfl⟩
theorem eX6_keepAct_25 : decode cX6_keepAct 25 = .ok (.iload_n 1, 1) ∧ 25 + 1 = 26 := ⟨by decide +kernel, rfl⟩
theorem eX6_keepAct_26 : decode cX6_keepAct 26 = .ok (.iaload, 1) ∧ 26 + 1 = 27 := ⟨by decide +kernel, rfl⟩
theorem eX6_keepAct_27 : decode cX6_keepAct 27 = .ok (.iastore, 1) ∧ 27 + 1 = 28 := ⟨by decide +kernel, rfl⟩
theorem eX6_keepAct_28 : decode cX6_keepAct 28 = .ok (.iinc 1 1, 3) ∧ 28 + 3 = 31 := ⟨by decide +kernel, rfl⟩
theorem eX6_keepAct_31 : decode cX6_keepAct 31 = .ok (.goto (-29), 3) ∧ ((31 : Nat) : Int) + (-29) = ((2 : Nat) : Int) := ⟨by decide +kernel, by decide⟩
theorem eX6_keepAct_34 : decode cX6_keepAct 34 = .ok (.aload_n 0, 1) ∧ 34 + 1 = 35 := ⟨by decide +kernel, rfl⟩
theorem eX6_keepAct_35 : decode cX6_keepAct 35 = .ok (.aload_n 0, 1) ∧ 35 + 1 = 36 := ⟨by decide +kernel, rfl⟩
theorem eX6_keepAct_36 : decode cX6_keepAct 36 = .ok (.getfield 117, 3) ∧ 36 + 3 = 39 := ⟨by decide +kernel, rfl⟩
theorem eX6_keepAct_39 : decode cX6_keepAct 39 = .ok (.iconst 1, 1) ∧ 39 + 1 = 40 := ⟨by decide +kernel, rfl⟩
theorem eX6_keepAct_40 : decode cX6_keepAct 40 = .ok (.iadd, 1) ∧ 40 + 1 = 41 := ⟨by decide +kernel, rfl⟩
theorem eX6_keepAct_41 : decode cX6_keepAct 41 = .ok (.bipush 14, 2) ∧ 41 + 2 = 43 := ⟨by decide +kernel, rfl⟩
theorem eX6_keepAct_43 : decode cX6_keepAct 43 = .ok (.irem, 1) ∧ 43 + 1 = 44 := ⟨by decide +kernel, rfl⟩
theorem eX6_keepAct_44 : decode cX6_keepAct 44 = .ok (.putfield 117, 3) ∧ 44 + 3 = 47 := ⟨by decide +kernel, rfl⟩
theorem eX6_keepAct_47 : decode cX6_keepAct 47 = .ok (.aload_n 0, 1) ∧ 47 + 1 = 48 := ⟨by decide +kernel, rfl⟩
theorem eX6_keepAct_48 : decode cX6_keepAct 48 = .ok (.aload_n 0, 1) ∧ 48 + 1 = 49 := ⟨by decide +kernel, rfl⟩
theorem eX6_keepAct_49 : decode cX6_keepAct 49 = .ok (.getfield 83, 3) ∧ 49 + 3 = 52 := ⟨by decide +kernel, rfl⟩
theorem eX6_keepAct_52 : decode cX6_keepAct 52 = .ok (.bipush 14, 2) ∧ 52 + 2 = 54 := ⟨by decide +kernel, rfl⟩
theorem eX6_keepAct_54 : decode cX6_keepAct 54 = .ok (.if_icmp .ge 12, 3) ∧ ((54 : Nat) : Int) + 12 = ((66 : Nat) : Int) ∧ 54 + 3 = 57 := ⟨by decide +kernel, by decide, rfl⟩
theorem eX6_keepAct_57 : decode cX6_keepAct 57 = .ok (.aload_n 0, 1) ∧ 57 + 1 = 58 := ⟨by decide +kernel, rfl⟩
theorem eX6_keepAct_58 : decode cX6_keepAct 58 = .ok (.getfield 83, 3) ∧ 58 + 3 = 61 := ⟨by decide +kernel, rfl⟩
theorem eX6_keepAct_61 : decode cX6_keepAct 61 = .ok (.iconst 1, 1) ∧ 61 + 1 = 62 := ⟨by decide +kernel, rfl⟩
theorem eX6_keepAct_62 : decode cX6_keepAct 62 = .ok (.iadd, 1) ∧ 62 + 1 = 63 := ⟨by decide +kernel, rfl⟩
theorem eX6_keepAct_63 : decode cX6_keepAct 63 = .ok (.goto 5, 3) ∧ ((63 : Nat) : Int) + 5 = ((68 : Nat) : Int) := ⟨by decide +kernel, by decide⟩
theorem eX6_keepAct_66 : decode cX6_keepAct 66 = .ok (.bipush 14, 2) ∧ 66 + 2 = 68 := ⟨by decide +kernel, rfl⟩
theorem eX6_keepAct_68 : decode cX6_keepAct 68 = .ok (.putfield 83, 3) ∧ 68 + 3 = 71 := ⟨by decide +kernel, rfl⟩
theorem eX6_keepAct_71 : decode cX6_keepAct 71 = .ok (.return_, 1) := by decide +kernel
theorem eX6_wed_0 : decode cX6_wed 0 = .ok (.aload_n 0, 1) ∧ 0 + 1 = 1 := ⟨by decide +kernel, rfl⟩
theorem eX6_wed_1 : decode cX6_wed 1 = .ok (.iload_n 1, 1) ∧ 1 + 1 = 2 := ⟨by decide +kernel, rfl⟩
theorem eX6_wed_2 : decode cX6_wed 2 = .ok (.invokevirtual 109, 3) ∧ 2 + 3 = 5 := ⟨by decide +kernel, rfl⟩
theorem eX6_wed_5 : decode cX6_wed 5 = .ok (.ifCond .ne 5, 3) ∧ ((5 : Nat) : Int) + 5 = ((10 : Nat) : Int) ∧ 5 + 3 = 8 := ⟨by decide +kernel, by decide, rfl⟩
theorem eX6_wed_8 : decode cX6_wed 8 = .ok (.iconst (-1), 1) ∧ 8 + 1 = 9 := ⟨by decide +kernel, rfl⟩
theorem eX6_wed_9 : decode cX6_wed 9 = .ok (.ireturn, 1) := by decide +kernel
theorem eX6_wed_10 : decode cX6_wed 10 = .ok (.aload_n 0, 1) ∧ 10 + 1 = 11 := ⟨by decide +kernel, rfl⟩
theorem eX6_wed_11 : decode cX6_wed 11 = .ok (.iconst 0, 1) ∧ 11 + 1 = 12 := ⟨by decide +kernel, rfl⟩
theorem eX6_wed_12 : decode cX6_wed 12 = .ok (.iload_n 1, 1) ∧ 12 + 1 = 13 := ⟨by decide +kernel, rfl⟩
theorem eX6_wed_13 : decode cX6_wed 13 = .ok (.invokevirtual 102, 3) ∧ 13 + 3 = 16 := ⟨by decide +kernel, rfl⟩
theorem eX6_wed_16 : decode cX6_wed 16 = .ok (.bipush (-9), 2) ∧ 16 + 2 = 18 := ⟨by decide +kernel, rfl⟩
theorem eX6_wed_18 : decode cX6_wed 18 = .ok (.if_icmp .ne 6, 3) ∧ ((18 : Nat) : Int) + 6 = ((24 : Nat) : Int) ∧ 18 + 3 = 21 := ⟨by decide +kernel, by decide, rfl⟩
theorem eX6_wed_21 : decode cX6_wed 21 = .ok (.bipush (-3), 2) ∧ 21 + 2 = 23 := ⟨by decide +kernel, rfl⟩
theorem eX6_wed_23 : decode cX6_wed 23 = .ok (.ireturn, 1) := by decide +kernel
theorem eX6_wed_24 : decode cX6_wed 24 = .ok (.aload_n 0, 1) ∧ 24 + 1 = 25 := ⟨by decide +kernel, rfl⟩
theorem eX6_wed_25 : decode cX6_wed 25 = .ok (.invokevirtual 120, 3) ∧ 25 + 3 = 28 := ⟨by decide +kernel, rfl⟩
theorem eX6_wed_28 : decode cX6_wed 28 = .ok (.aload_n 0, 1) ∧ 28 + 1 = 29 := ⟨by decide +kernel, rfl⟩
theorem eX6_wed_29 : decode cX6_wed 29 = .ok (.iconst 0, 1) ∧ 29 + 1 = 30 := ⟨by decide +kernel, rfl⟩
theorem eX6_wed_30 : decode cX6_wed 30 = .ok (.iload_n 1, 1) ∧ 30 + 1 = 31 := ⟨by decide +kernel, rfl⟩
theorem eX6_wed_31 : decode cX6_wed 31 = .ok (.invokevirtual 123, 3) ∧ 31 + 3 = 34 := ⟨by decide +kernel, rfl⟩
theorem eX6_wed_34 : decode cX6_wed 34 = .ok (.pop, 1) ∧ 34 + 1 = 35 := ⟨by decide +kernel, rfl⟩
theorem eX6_wed_35 : decode cX6_wed 35 = .ok (.aload_n 0, 1) ∧ 35 + 1 = 36 := ⟨by decide +kernel, rfl⟩
theorem eX6_wed_36 : decode cX6_wed 36 = .ok (.getfield 25, 3) ∧ 36 + 3 = 39 := ⟨by decide +kernel, rfl⟩
theorem eX6_wed_39 : decode cX6_wed 39 = .ok (.iconst 0, 1) ∧ 39 + 1 = 40 := ⟨by decide +kernel, rfl⟩
theorem eX6_wed_40 : decode cX6_wed 40 = .ok (.iaload, 1) ∧ 40 + 1 = 41 := ⟨by decide +kernel, rfl⟩
theorem eX6_wed_41 : decode cX6_wed 41 = .ok (.ireturn, 1) := by decide +kernel
theorem eX6_carry_0 : decode cX6_carry 0 = .ok (.iload_n 1, 1) ∧ 0 + 1 = 1 := ⟨by decide +kernel, rfl⟩
theorem eX6_carry_1 : decode cX6_carry 1 = .ok (.invokestatic 114, 3) ∧ 1 + 3 = 4 := ⟨by decide +kernel, rfl⟩
theorem eX6_carry_4 : decode cX6_carry 4 = .ok (.ifCond .ne 5, 3) ∧ ((4 : Nat) : Int) + 5 = ((9 : Nat) : Int) ∧ 4 + 3 = 7 := ⟨by decide +kernel, by decide, rfl⟩
theorem eX6_carry_7 : decode cX6_carry 7 = .ok (.iconst (-1), 1) ∧ 7 + 1 = 8 := ⟨by decide +kernel, rfl⟩
theorem eX6_carry_8 : decode cX6_carry 8 = .ok (.ireturn, 1) := by decide +kernel
theorem eX6_carry_9 : decode cX6_carry 9 = .ok (.aload_n 0, 1) ∧ 9 + 1 = 10 := ⟨by decide +kernel, rfl⟩
theorem eX6_carry_10 : decode cX6_carry 10 = .ok (.getfield 25, 3) ∧ 10 + 3 = 13 := ⟨by decide +kernel, rfl⟩
theorem eX6_carry_13 : decode cX6_carry 13 = .ok (.iconst 1, 1) ∧ 13 + 1 = 14 := ⟨by decide +kernel, rfl⟩
theorem eX6_carry_14 : decode cX6_carry 14 = .ok (.iaload, 1) ∧ 14 + 1 = 15 := ⟨by decide +kernel, rfl⟩
theorem eX6_carry_15 : decode cX6_carry 15 = .ok (.iload_n 1, 1) ∧ 15 + 1 = 16 := ⟨by decide +kernel, rfl⟩
theorem eX6_carry_16 : decode cX6_carry 16 = .ok (.if_icmp .ne 6, 3) ∧ ((16 : Nat) : Int) + 6 = ((22 : Nat) : Int) ∧ 16 + 3 = 19 := ⟨by decide +kernel, by decide, rfl⟩
theorem eX6_carry_19 : decode cX6_carry 19 = .ok (.bipush (-3), 2) ∧ 19 + 2 = 21 := ⟨by decide +kernel, rfl⟩
theorem eX6_carry_21 : decode cX6_carry 21 = .ok (.ireturn, 1) := by decide +kernel
theorem eX6_carry_22 : decode cX6_carry 22 = .ok (.aload_n 0, 1) ∧ 22 + 1 = 23 := ⟨by decide +kernel, rfl⟩
theorem eX6_carry_23 : decode cX6_carry 23 = .ok (.invokevirtual 120, 3) ∧ 23 + 3 = 26 := ⟨by decide +kernel, rfl⟩
theorem eX6_carry_26 : decode cX6_carry 26 = .ok (.aload_n 0, 1) ∧ 26 + 1 = 27 := ⟨by decide +kernel, rfl⟩
theorem eX6_carry_27 : decode cX6_carry 27 = .ok (.getfield 25, 3) ∧ 27 + 3 = 30 := ⟨by decide +kernel, rfl⟩
theorem eX6_carry_30 : decode cX6_carry 30 = .ok (.iconst 0, 1) ∧ 30 + 1 = 31 := ⟨by decide +kernel, rfl⟩
theorem eX6_carry_31 : decode cX6_carry 31 = .ok (.dup2, 1) ∧ 31 + 1 = 32 := ⟨by decide +kernel, rfl⟩
theorem eX6_carry_32 : decode cX6_carry 32 = .ok (.iaload, 1) ∧ 32 + 1 = 33 := ⟨by decide +kernel, rfl⟩
theorem eX6_carry_33 : decode cX6_carry 33 = .ok (.aload_n 0, 1) ∧ 33 + 1 = 34 := ⟨by decide +kernel, rfl⟩
theorem eX6_carry_34 : decode cX6_carry 34 = .ok (.iconst 0, 1) ∧ 34 + 1 = 35 := ⟨by decide +kernel, rfl⟩
theorem eX6_carry_35 : decode cX6_carry 35 = .ok (.aload_n 0, 1) ∧ 35 + 1 = 36 := ⟨by decide +kernel, rfl⟩
theorem eX6_carry_36 : decode cX6_carry 36 = .ok (.getfield 25, 3) ∧ 36 + 3 = 39 := ⟨by decide +kernel, rfl⟩
theorem eX6_carry_39 : decode cX6_carry 39 = .ok (.iconst 1, 1) ∧ 39 + 1 = 40 := ⟨by decide +kernel, rfl⟩
theorem eX6_carry_40 : decode cX6_carry 40 = .ok (.iaload, 1) ∧ 40 + 1 = 41 := ⟨by decide +kernel, rfl⟩
theorem eX6_carry_41 : decode cX6_carry 41 = .ok (.iload_n 1, 1) ∧ 41 + 1 = 42 := ⟨by decide +kernel, rfl⟩
theorem eX6_carry_42 : decode cX6_carry 42 = .ok (.invokevirtual 86, 3) ∧ 42 + 3 = 45 := ⟨by decide +kernel, rfl⟩
theorem eX6_carry_45 : decode cX6_carry 45 = .ok (.iadd, 1) ∧ 45 + 1 = 46 := ⟨by decide +kernel, rfl⟩
theorem eX6_carry_46 : decode cX6_carry 46 = .ok (.iastore, 1) ∧ 46 + 1 = 47 := ⟨by decide +kernel, rfl⟩
theorem eX6_carry_47 : decode cX6_carry 47 = .ok (.aload_n 0, 1) ∧ 47 + 1 = 48 := ⟨by decide +kernel, rfl⟩
theorem eX6_carry_48 : decode cX6_carry 48 = .ok (.getfield 25, 3) ∧ 48 + 3 = 51 := ⟨by decide +kernel, rfl⟩
theorem eX6_carry_51 : decode cX6_carry 51 = .ok (.iconst 1, 1) ∧ 51 + 1 = 52 := ⟨by decide +kernel, rfl⟩
theorem eX6_carry_52 : decode cX6_carry 52 = .ok (.iload_n 1, 1) ∧ 52 + 1 = 53 := ⟨by decide +kernel, rfl⟩
theorem eX6_carry_53 : decode cX6_carry 53 = .ok (.iastore, 1) ∧ 53 + 1 = 54 := ⟨by decide +kernel, rfl⟩
theorem eX6_carry_54 : decode cX6_carry 54 = .ok (.aload_n 0, 1) ∧ 54 + 1 = 55 := ⟨by decide +kernel, rfl⟩
theorem eX6_carry_55 : decode cX6_carry 55 = .ok (.getfield 25, 3) ∧ 55 + 3 = 58 := ⟨by decide +kernel, rfl⟩
theorem eX6_carry_58 : decode cX6_carry 58 = .ok (.iconst 0, 1) ∧ 58 + 1 = 59 := ⟨by decide +kernel, rfl⟩
theorem eX6_carry_59 : decode cX6_carry 59 = .ok (.iaload, 1) ∧ 59 + 1 = 60 := ⟨by decide +kernel, rfl⟩
theorem eX6_carry_60 : decode cX6_carry 60 = .ok (.ireturn, 1) := by decide +kernel
theorem eX6_linger_0 : decode cX6_linger 0 = .ok (.aload_n 0, 1) ∧ 0 + 1 = 1 := ⟨by decide +kernel, rfl⟩
theorem eX6_linger_1 : decode cX6_linger 1 = .ok (.invokevirtual 120, 3) ∧ 1 + 3 = 4 := ⟨by decide +kernel, rfl⟩
theorem eX6_linger_4 : decode cX6_linger 4 = .ok (.aload_n 0, 1) ∧ 4 + 1 = 5 := ⟨by decide +kernel, rfl⟩
theorem eX6_linger_5 : decode cX6_linger 5 = .ok (.getfield 25, 3) ∧ 5 + 3 = 8 := ⟨by decide +kernel, rfl⟩
theorem eX6_linger_8 : decode cX6_linger 8 = .ok (.iconst 0, 1) ∧ 8 + 1 = 9 := ⟨by decide +kernel, rfl⟩
theorem eX6_linger_9 : decode cX6_linger 9 = .ok (.dup2, 1) ∧ 9 + 1 = 10 := ⟨by decide +kernel, rfl⟩
theorem eX6_linger_10 : decode cX6_linger 10 = .ok (.iaload, 1) ∧ 10 + 1 = 11 := ⟨by decide +kernel, rfl⟩
theorem eX6_linger_11 : decode cX6_linger 11 = .ok (.iconst 1, 1) ∧ 11 + 1 = 12 := ⟨by decide +kernel, rfl⟩
theorem eX6_linger_12 : decode cX6_linger 12 = .ok (.iadd, 1) ∧ 12 + 1 = 13 := ⟨by decide +kernel, rfl⟩
theorem eX6_linger_13 : decode cX6_linger 13 = .ok (.iastore, 1) ∧ 13 + 1 = 14 := ⟨by decide +kernel, rfl⟩
theorem eX6_linger_14 : decode cX6_linger 14 = .ok (.aload_n 0, 1) ∧ 14 + 1 = 15 := ⟨by decide +kernel, rfl⟩
theorem eX6_linger_15 : decode cX6_linger 15 = .ok (.getfield 25, 3) ∧ 15 + 3 = 18 := ⟨by decide +kernel, rfl⟩
theorem eX6_linger_18 : decode cX6_linger 18 = .ok (.iconst 0, 1) ∧ 18 + 1 = 19 := ⟨by decide +kernel, rfl⟩
theorem eX6_linger_19 : decode cX6_linger 19 = .ok (.iaload, 1) ∧ 19 + 1 = 20 := ⟨by decide +kernel, rfl⟩
theorem eX6_linger_20 : decode cX6_linger 20 = .ok (.ireturn, 1) := by decide +kernel
theorem eX6_mend_0 : decode cX6_mend 0 = .ok (.iload_n 1, 1) ∧ 0 + 1 = 1 := ⟨by decide +kernel, rfl⟩
theorem eX6_mend_1 : decode cX6_mend 1 = .ok (.i2l, 1) ∧ 1 + 1 = 2 := ⟨by decide +kernel, rfl⟩
theorem eX6_mend_2 : decode cX6_mend 2 = .ok (.lconst 0, 1) ∧ 2 + 1 = 3 := ⟨by decide +kernel, rfl⟩
theorem eX6_mend_3 : decode cX6_mend 3 = .ok (.ldc2_w 112, 3) ∧ 3 + 3 = 6 := ⟨by decide +kernel, rfl⟩
theorem eX6_mend_6 : decode cX6_mend 6 = .ok (.invokestatic 59, 3) ∧ 6 + 3 = 9 := ⟨by decide +kernel, rfl⟩
theorem eX6_mend_9 : decode cX6_mend 9 = .ok (.ifCond .ne 5, 3) ∧ ((9 : Nat) : Int) + 5 = ((14 : Nat) : Int) ∧ 9 + 3 = 12 := ⟨by decide +kernel, by decide, rfl⟩
theorem eX6_mend_12 : decode cX6_mend 12 = .ok (.iconst (-1), 1) ∧ 12 + 1 = 13 := ⟨by decide +kernel, rfl⟩
theorem eX6_mend_13 : decode cX6_mend 13 = .ok (.ireturn, 1) := by decide +kernel
theorem eX6_mend_14 : decode cX6_mend 14 = .ok (.aload_n 0, 1) ∧ 14 + 1 = 15 := ⟨by decide +kernel, rfl⟩
theorem eX6_mend_15 : decode cX6_mend 15 = .ok (.getfield 25, 3) ∧ 15 + 3 = 18 := ⟨by decide +kernel, rfl⟩
theorem eX6_mend_18 : decode cX6_mend 18 = .ok (.iconst 3, 1) ∧ 18 + 1 = 19 := ⟨by decide +kernel, rfl⟩
theorem eX6_mend_19 : decode cX6_mend 19 = .ok (.iload_n 1, 1) ∧ 19 + 1 = 20 := ⟨by decide +kernel, rfl⟩
theorem eX6_mend_20 : decode cX6_mend 20 = .ok (.iadd, 1) ∧ 20 + 1 = 21 := ⟨by decide +kernel, rfl⟩
theorem eX6_mend_21 : decode cX6_mend 21 = .ok (.iaload, 1) ∧ 21 + 1 = 22 := ⟨by decide +kernel, rfl⟩
theorem eX6_mend_22 : decode cX6_mend 22 = .ok (.ifCond .ne 6, 3) ∧ ((22 : Nat) : Int) + 6 = ((28 : Nat) : Int) ∧ 22 + 3 = 25 := ⟨by decide +kernel, by decide, rfl⟩
theorem eX6_mend_25 : decode cX6_mend 25 = .ok (.bipush (-3), 2) ∧ 25 + 2 = 27 := ⟨by decide +kernel, rfl⟩
theorem eX6_mend_27 : decode cX6_mend 27 = .ok (.ireturn, 1) := by decide +kernel
theorem eX6_mend_28 : decode cX6_mend 28 = .ok (.aload_n 0, 1) ∧ 28 + 1 = 29 := ⟨by decide +kernel, rfl⟩
theorem eX6_mend_29 : decode cX6_mend 29 = .ok (.invokevirtual 120, 3) ∧ 29 + 3 = 32 := ⟨by decide +kernel, rfl⟩
theorem eX6_mend_32 : decode cX6_mend 32 = .ok (.aload_n 0, 1) ∧ 32 + 1 = 33 := ⟨by decide +kernel, rfl⟩
theorem eX6_mend_33 : decode cX6_mend 33 = .ok (.getfield 25, 3) ∧ 33 + 3 = 36 := ⟨by decide +kernel, rfl⟩
theorem eX6_mend_36 : decode cX6_mend 36 = .ok (.iconst 3, 1) ∧ 36 + 1 = 37 := ⟨by decide +kernel, rfl⟩
theorem eX6_mend_37 : decode cX6_mend 37 = .ok (.iload_n 1, 1) ∧ 37 + 1 = 38 := ⟨by decide +kernel, rfl⟩
theorem eX6_mend_38 : decode cX6_mend 38 = .ok (.iadd, 1) ∧ 38 + 1 = 39 := ⟨by decide +kernel, rfl⟩
theorem eX6_mend_39 : decode cX6_mend 39 = .ok (.dup2, 1) ∧ 39 + 1 = 40 := ⟨by decide +kernel, rfl⟩
theorem eX6_mend_40 : decode cX6_mend 40 = .ok (.iaload, 1) ∧ 40 + 1 = 41 := ⟨by decide +kernel, rfl⟩
theorem eX6_mend_41 : decode cX6_mend 41 = .ok (.iconst 1, 1) ∧ 41 + 1 = 42 := ⟨by decide +kernel, rfl⟩
theorem eX6_mend_42 : decode cX6_mend 42 = .ok (.isub, 1) ∧ 42 + 1 = 43 := ⟨by decide +kernel, rfl⟩
theorem eX6_mend_43 : decode cX6_mend 43 = .ok (.iastore, 1) ∧ 43 + 1 = 44 := ⟨by decide +kernel, rfl⟩
theorem eX6_mend_44 : decode cX6_mend 44 = .ok (.aload_n 0, 1) ∧ 44 + 1 = 45 := ⟨by decide +kernel, rfl⟩
theorem eX6_mend_45 : decode cX6_mend 45 = .ok (.getfield 25, 3) ∧ 45 + 3 = 48 := ⟨by decide +kernel, rfl⟩
theorem eX6_mend_48 : decode cX6_mend 48 = .ok (.iconst 3, 1) ∧ 48 + 1 = 49 := ⟨by decide +kernel, rfl⟩
theorem eX6_mend_49 : decode cX6_mend 49 = .ok (.iload_n 1, 1) ∧ 49 + 1 = 50 := ⟨by decide +kernel, rfl⟩
theorem eX6_mend_50 : decode cX6_mend 50 = .ok (.iadd, 1) ∧ 50 + 1 = 51 := ⟨by decide +kernel, rfl⟩
theorem eX6_mend_51 : decode cX6_mend 51 = .ok (.iaload, 1) ∧ 51 + 1 = 52 := ⟨by decide +kernel, rfl⟩
theorem eX6_mend_52 : decode cX6_mend 52 = .ok (.ireturn, 1) := by decide +kernel
theorem eX6_undo_0 : decode cX6_undo 0 = .ok (.aload_n 0, 1) ∧ 0 + 1 = 1 := ⟨by decide +kernel, rfl⟩
theorem eX6_undo_1 : decode cX6_undo 1 = .ok (.getfield 83, 3) ∧ 1 + 3 = 4 := ⟨by decide +kernel, rfl⟩
theorem eX6_undo_4 : decode cX6_undo 4 = .ok (.ifCond .ne 6, 3) ∧ ((4 : Nat) : Int) + 6 = ((10 : Nat) : Int) ∧ 4 + 3 = 7 := ⟨by decide +kernel, by decide, rfl⟩
theorem eX6_undo_7 : decode cX6_undo 7 = .ok (.bipush (-3), 2) ∧ 7 + 2 = 9 := ⟨by decide +kernel, rfl⟩
theorem eX6_undo_9 : decode cX6_undo 9 = .ok (.ireturn, 1) := by decide +kernel
theorem eX6_undo_10 : decode cX6_undo 10 = .ok (.aload_n 0, 1) ∧ 10 + 1 = 11 := ⟨by decide +kernel, rfl⟩
theorem eX6_undo_11 : decode cX6_undo 11 = .ok (.dup, 1) ∧ 11 + 1 = 12 := ⟨by decide +kernel, rfl⟩
theorem eX6_undo_12 : decode cX6_undo 12 = .ok (.getfield 83, 3) ∧ 12 + 3 = 15 := ⟨by decide +kernel, rfl⟩
theorem eX6_undo_15 : decode cX6_undo 15 = .ok (.iconst 1, 1) ∧ 15 + 1 = 16 := ⟨by decide +kernel, rfl⟩
theorem eX6_undo_16 : decode cX6_undo 16 = .ok (.isub, 1) ∧ 16 + 1 = 17 := ⟨by decide +kernel, rfl⟩
theorem eX6_undo_17 : decode cX6_undo 17 = .ok (.putfield 83, 3) ∧ 17 + 3 = 20 := ⟨by decide +kernel, rfl⟩
theorem eX6_undo_20 : decode cX6_undo 20 = .ok (.aload_n 0, 1) ∧ 20 + 1 = 21 := ⟨by decide +kernel, rfl⟩
theorem eX6_undo_21 : decode cX6_undo 21 = .ok (.aload_n 0, 1) ∧ 21 + 1 = 22 := ⟨by decide +kernel, rfl⟩
theorem eX6_undo_22 : decode cX6_undo 22 = .ok (.getfield 117, 3) ∧ 22 + 3 = 25 := ⟨by decide +kernel, rfl⟩
theorem eX6_undo_25 : decode cX6_undo 25 = .ok (.bipush 13, 2) ∧ 25 + 2 = 27 := ⟨by decide +kernel, rfl⟩
theorem eX6_undo_27 : decode cX6_undo 27 = .ok (.iadd, 1) ∧ 27 + 1 = 28 := ⟨by decide +kernel, rfl⟩
theorem eX6_undo_28 : decode cX6_undo 28 = .ok (.bipush 14, 2) ∧ 28 + 2 = 30 := ⟨by decide +kernel, rfl⟩
theorem eX6_undo_30 : decode cX6_undo 30 = .ok (.irem, 1) ∧ 30 + 1 = 31 := ⟨by decide +kernel, rfl⟩
theorem eX6_undo_31 : decode cX6_undo 31 = .ok (.putfield 117, 3) ∧ 31 + 3 = 34 := ⟨by decide +kernel, rfl⟩
theorem eX6_undo_34 : decode cX6_undo 34 = .ok (.iconst 0, 1) ∧ 34 + 1 = 35 := ⟨by decide +kernel, rfl⟩
theorem eX6_undo_35 : decode cX6_undo 35 = .ok (.istore_n 1, 1) ∧ 35 + 1 = 36 := ⟨by decide +kernel, rfl⟩
theorem eX6_undo_36 : decode cX6_undo 36 = .ok (.iload_n 1, 1) ∧ 36 + 1 = 37 := ⟨by decide +kernel, rfl⟩
theorem eX6_undo_37 : decode cX6_undo 37 = .ok (.bipush 8, 2) ∧ 37 + 2 = 39 := ⟨by decide +kernel, rfl⟩
theorem eX6_undo_39 : decode cX6_undo 39 = .ok (.if_icmp .ge 29, 3) ∧ ((39 : Nat) : Int) + 29 = ((68 : Nat) : Int) ∧ 39 + 3 = 42 := ⟨by decide +kernel, by decide, rfl⟩
theorem eX6_undo_42 : decode cX6_undo 42 = .ok (.aload_n 0, 1) ∧ 42 + 1 = 43 := ⟨by decide +kernel, rfl⟩
theorem eX6_undo_43 : decode cX6_undo 43 = .ok (.getfield 25, 3) ∧ 43 + 3 = 46 := ⟨by decide +kernel, rfl⟩
theorem eX6_undo_46 : decode cX6_undo 46 = .ok (.iload_n 1, 1) ∧ 46 + 1 = 47 := ⟨by decide +kernel, rfl⟩
theorem eX6_undo_47 : decode cX6_undo 47 = .ok (.aload_n 0, 1) ∧ 47 + 1 = 48 := ⟨by decide +kernel, rfl⟩
theorem eX6_undo_48 : decode cX6_undo 48 = .ok (.getfield 31, 3) ∧ 48 + 3 = 51 := ⟨by decide +kernel, rfl⟩
theorem eX6_undo_51 : decode cX6_undo 51 = .ok (.bipush 8, 2) ∧ 51 + 2 = 53 := ⟨by decide +kernel, rfl⟩
theorem eX6_undo_53 : decode cX6_undo 53 = .ok (.aload_n 0, 1) ∧ 53 + 1 = 54 := ⟨by decide +kernel, rfl⟩
theorem eX6_undo_54 : decode cX6_undo 54 = .ok (.getfield 117, 3) ∧ 54 + 3 = 57 := ⟨by decide +kernel, rfl⟩
theorem eX6_undo_57 : decode cX6_undo 57 = .ok (.imul, 1) ∧ 57 + 1 = 58 := ⟨by decide +kernel, rfl⟩
theorem eX6_undo_58 : decode cX6_undo 58 = .ok (.iload_n 1, 1) ∧ 58 + 1 = 59 := ⟨by decide +kernel, rfl⟩
theorem eX6_undo_59 : decode cX6_undo 59 = .ok (.iadd, 1) ∧ 59 + 1 = 60 := ⟨by decide +kernel, rfl⟩
theorem eX6_undo_60 : decode cX6_undo 60 = .ok (.iaload, 1) ∧ 60 + 1 = 61 := ⟨by decide +kernel, rfl⟩
theorem eX6_undo_61 : decode cX6_undo 61 = .ok (.iastore, 1) ∧ 61 + 1 = 62 := ⟨by decide +kernel, rfl⟩
theorem eX6_undo_62 : decode cX6_undo 62 = .ok (.iinc 1 1, 3) ∧ 62 + 3 = 65 := ⟨by decide +kernel, rfl⟩
theorem eX6_undo_65 : decode cX6_undo 65 = .ok (.goto (-29), 3) ∧ ((65 : Nat) : Int) + (-29) = ((36 : Nat) : Int) := ⟨by decide +kernel, by decide⟩
theorem eX6_undo_68 : decode cX6_undo 68 = .ok (.aload_n 0, 1) ∧ 68 + 1 = 69 := ⟨by decide +kernel, rfl⟩
theorem eX6_undo_69 : decode cX6_undo 69 = .ok (.getfield 83, 3) ∧ 69 + 3 = 72 := ⟨by decide +kernel, rfl⟩
theorem eX6_undo_72 : decode cX6_undo 72 = .ok (.ireturn, 1) := by decide +kernel
theorem eX6_noteEarlier_0 : decode cX6_noteEarlier 0 = .ok (.iload_n 3, 1) ∧ 0 + 1 = 1 := ⟨by decide +kernel, rfl⟩
theorem eX6_noteEarlier_1 : decode cX6_noteEarlier 1 = .ok (.bipush (-9), 2) ∧ 1 + 2 = 3 := ⟨by decide +kernel, rfl⟩
theorem eX6_noteEarlier_3 : decode cX6_noteEarlier 3 = .ok (.if_icmp .eq 66, 3) ∧ ((3 : Nat) : Int) + 66 = ((69 : Nat) : Int) ∧ 3 + 3 = 6 := ⟨by decide +kernel, by decide, rfl⟩
theorem eX6_noteEarlier_6 : decode cX6_noteEarlier 6 = .ok (.bipush 6, 2) ∧ 6 + 2 = 8 := ⟨by decide +kernel, rfl⟩
theorem eX6_noteEarlier_8 : decode cX6_noteEarlier 8 = .ok (.iload_n 1, 1) ∧ 8 + 1 = 9 := ⟨by decide +kernel, rfl⟩
theorem eX6_noteEarlier_9 : decode cX6_noteEarlier 9 = .ok (.iconst 1, 1) ∧ 9 + 1 = 10 := ⟨by decide +kernel, rfl⟩
theorem eX6_noteEarlier_10 : decode cX6_noteEarlier 10 = .ok (.iload_n 2, 1) ∧ 10 + 1 = 11 := ⟨by decide +kernel, rfl⟩
theorem eX6_noteEarlier_11 : decode cX6_noteEarlier 11 = .ok (.ishl, 1) ∧ 11 + 1 = 12 := ⟨by decide +kernel, rfl⟩
theorem eX6_noteEarlier_12 : decode cX6_noteEarlier 12 = .ok (.ior, 1) ∧ 12 + 1 = 13 := ⟨by decide +kernel, rfl⟩
theorem eX6_noteEarlier_13 : decode cX6_noteEarlier 13 = .ok (.imul, 1) ∧ 13 + 1 = 14 := ⟨by decide +kernel, rfl⟩
theorem eX6_noteEarlier_14 : decode cX6_noteEarlier 14 = .ok (.iload_n 2, 1) ∧ 14 + 1 = 15 := ⟨by decide +kernel, rfl⟩
theorem eX6_noteEarlier_15 : decode cX6_noteEarlier 15 = .ok (.iadd, 1) ∧ 15 + 1 = 16 := ⟨by decide +kernel, rfl⟩
theorem eX6_noteEarlier_16 : decode cX6_noteEarlier 16 = .ok (.istore 4, 2) ∧ 16 + 2 = 18 := ⟨by decide +kernel, rfl⟩
theorem eX6_noteEarlier_18 : decode cX6_noteEarlier 18 = .ok (.aload_n 0, 1) ∧ 18 + 1 = 19 := ⟨by decide +kernel, rfl⟩
theorem eX6_noteEarlier_19 : decode cX6_noteEarlier 19 = .ok (.iload_n 2, 1) ∧ 19 + 1 = 20 := ⟨by decide +kernel, rfl⟩
theorem eX6_noteEarlier_20 : decode cX6_noteEarlier 20 = .ok (.iload_n 3, 1) ∧ 20 + 1 = 21 := ⟨by decide +kernel, rfl⟩
theorem eX6_noteEarlier_21 : decode cX6_noteEarlier 21 = .ok (.invokevirtual 106, 3) ∧ 21 + 3 = 24 := ⟨by decide +kernel, rfl⟩
theorem eX6_noteEarlier_24 : decode cX6_noteEarlier 24 = .ok (.istore 5, 2) ∧ 24 + 2 = 26 := ⟨by decide +kernel, rfl⟩
theorem eX6_noteEarlier_26 : decode cX6_noteEarlier 26 = .ok (.aload_n 0, 1) ∧ 26 + 1 = 27 := ⟨by decide +kernel, rfl⟩
theorem eX6_noteEarlier_27 : decode cX6_noteEarlier 27 = .ok (.getfield 34, 3) ∧ 27 + 3 = 30 := ⟨by decide +kernel, rfl⟩
theorem eX6_noteEarlier_30 : decode cX6_noteEarlier 30 = .ok (.iload 4, 2) ∧ 30 + 2 = 32 := ⟨by decide +kernel, rfl⟩
theorem eX6_noteEarlier_32 : decode cX6_noteEarlier 32 = .ok (.aload_n 0, 1) ∧ 32 + 1 = 33 := ⟨by decide +kernel, rfl⟩
theorem eX6_noteEarlier_33 : decode cX6_noteEarlier 33 = .ok (.getfield 34, 3) ∧ 33 + 3 = 36 := ⟨by decide +kernel, rfl⟩
theorem eX6_noteEarlier_36 : decode cX6_noteEarlier 36 = .ok (.iload 4, 2) ∧ 36 + 2 = 38 := ⟨by decide +kernel, rfl⟩
theorem eX6_noteEarlier_38 : decode cX6_noteEarlier 38 = .ok (.iaload, 1) ∧ 38 + 1 = 39 := ⟨by decide +kernel, rfl⟩
theorem eX6_noteEarlier_39 : decode cX6_noteEarlier 39 = .ok (.bipush (-9), 2) ∧ 39 + 2 = 41 := ⟨by decide +kernel, rfl⟩
theorem eX6_noteEarlier_41 : decode cX6_noteEarlier 41 = .ok (.if_icmp .eq 15, 3) ∧ ((41 : Nat) : Int) + 15 = ((56 : Nat) : Int) ∧ 41 + 3 = 44 := ⟨by decide +kernel, by decide, rfl⟩
theorem eX6_noteEarlier_44 : decode cX6_noteEarlier 44 = .ok (.iload 5, 2) ∧ 44 + 2 = 46 := ⟨by decide +kernel, rfl⟩
theorem eX6_noteEarlier_46 : decode cX6_noteEarlier 46 = .ok (.aload_n 0, 1) ∧ 46 + 1 = 47 := ⟨by decide +kernel, rfl⟩
theorem eX6_noteEarlier_47 : decode cX6_noteEarlier 47 = .ok (.getfield 34, 3) ∧ 47 + 3 = 50 := ⟨by decide +kernel, rfl⟩
theorem eX6_noteEarlier_50 : decode cX6_noteEarlier 50 = .ok (.iload 4, 2) ∧ 50 + 2 = 52 := ⟨by decide +kernel, rfl⟩
theorem eX6_noteEarlier_52 : decode cX6_noteEarlier 52 = .ok (.iaload, 1) ∧ 52 + 1 = 53 := ⟨by decide +kernel, rfl⟩
theorem eX6_noteEarlier_53 : decode cX6_noteEarlier 53 = .ok (.if_icmp .ge 8, 3) ∧ ((53 : Nat) : Int) + 8 = ((61 : Nat) : Int) ∧ 53 + 3 = 56 := ⟨by decide +kernel, by decide, rfl⟩
theorem eX6_noteEarlier_56 : decode cX6_noteEarlier 56 = .ok (.iload 5, 2) ∧ 56 + 2 = 58 := ⟨by decide +kernel, rfl⟩
theorem eX6_noteEarlier_58 : decode cX6_noteEarlier 58 = .ok (.goto 10, 3) ∧ ((58 : Nat) : Int) + 10 = ((68 : Nat) : Int) := ⟨by decide +kernel, by decide⟩
theorem eX6_noteEarlier_61 : decode cX6_noteEarlier 61 = .ok (.aload_n 0, 1) ∧ 61 + 1 = 62 := ⟨by decide +kernel, rfl⟩
theorem eX6_noteEarlier_62 : decode cX6_noteEarlier 62 = .ok (.getfield 34, 3) ∧ 62 + 3 = 65 := ⟨by decide +kernel, rfl⟩
theorem eX6_noteEarlier_65 : decode cX6_noteEarlier 65 = .ok (.iload 4, 2) ∧ 65 + 2 = 67 := ⟨by decide +kernel, rfl⟩
theorem eX6_noteEarlier_67 : decode cX6_noteEarlier 67 = .ok (.iaload, 1) ∧ 67 + 1 = 68 := ⟨by decide +kernel, rfl⟩
theorem eX6_noteEarlier_68 : decode cX6_noteEarlier 68 = .ok (.iastore, 1) ∧ 68 + 1 = 69 := ⟨by decide +kernel, rfl⟩
theorem eX6_noteEarlier_69 : decode cX6_noteEarlier 69 = .ok (.return_, 1) := by decide +kernel
theorem eX6_mostOn_0 : decode cX6_mostOn 0 = .ok (.bipush 8, 2) ∧ 0 + 2 = 2 := ⟨by decide +kernel, rfl⟩
theorem eX6_mostOn_2 : decode cX6_mostOn 2 = .ok (.iload_n 1, 1) ∧ 2 + 1 = 3 := ⟨by decide +kernel, rfl⟩
theorem eX6_mostOn_3 : decode cX6_mostOn 3 = .ok (.imul, 1) ∧ 3 + 1 = 4 := ⟨by decide +kernel, rfl⟩
theorem eX6_mostOn_4 : decode cX6_mostOn 4 = .ok (.istore_n 3, 1) ∧ 4 + 1 = 5 := ⟨by decide +kernel, rfl⟩
theorem eX6_mostOn_5 : decode cX6_mostOn 5 = .ok (.iload_n 2, 1) ∧ 5 + 1 = 6 := ⟨by decide +kernel, rfl⟩
theorem eX6_mostOn_6 : decode cX6_mostOn 6 = .ok (.aload_n 0, 1) ∧ 6 + 1 = 7 := ⟨by decide +kernel, rfl⟩
theorem eX6_mostOn_7 : decode cX6_mostOn 7 = .ok (.getfield 25, 3) ∧ 7 + 3 = 10 := ⟨by decide +kernel, rfl⟩
theorem eX6_mostOn_10 : decode cX6_mostOn 10 = .ok (.iload_n 3, 1) ∧ 10 + 1 = 11 := ⟨by decide +kernel, rfl⟩
theorem eX6_mostOn_11 : decode cX6_mostOn 11 = .ok (.iconst 2, 1) ∧ 11 + 1 = 12 := ⟨by decide +kernel, rfl⟩
theorem eX6_mostOn_12 : decode cX6_mostOn 12 = .ok (.iadd, 1) ∧ 12 + 1 = 13 := ⟨by decide +kernel, rfl⟩
theorem eX6_mostOn_13 : decode cX6_mostOn 13 = .ok (.iaload, 1) ∧ 13 + 1 = 14 := ⟨by decide +kernel, rfl⟩
theorem eX6_mostOn_14 : decode cX6_mostOn 14 = .ok (.iconst (-1), 1) ∧ 14 + 1 = 15 := ⟨by decide +kernel, rfl⟩
theorem eX6_mostOn_15 : decode cX6_mostOn 15 = .ok (.ixor, 1) ∧ 15 + 1 = 16 := ⟨by decide +kernel, rfl⟩
theorem eX6_mostOn_16 : decode cX6_mostOn 16 = .ok (.iand, 1) ∧ 16 + 1 = 17 := ⟨by decide +kernel, rfl⟩
theorem eX6_mostOn_17 : decode cX6_mostOn 17 = .ok (.istore 4, 2) ∧ 17 + 2 = 19 := ⟨by decide +kernel, rfl⟩
theorem eX6_mostOn_19 : decode cX6_mostOn 19 = .ok (.iconst 0, 1) ∧ 19 + 1 = 20 := ⟨by decide +kernel, rfl⟩
theorem eX6_mostOn_20 : decode cX6_mostOn 20 = .ok (.istore 5, 2) ∧ 20 + 2 = 22 := ⟨by decide +kernel, rfl⟩
theorem eX6_mostOn_22 : decode cX6_mostOn 22 = .ok (.iconst 0, 1) ∧ 22 + 1 = 23 := ⟨by decide +kernel, rfl⟩
theorem eX6_mostOn_23 : decode cX6_mostOn 23 = .ok (.istore 6, 2) ∧ 23 + 2 = 25 := ⟨by decide +kernel, rfl⟩
theorem eX6_mostOn_25 : decode cX6_mostOn 25 = .ok (.iload 6, 2) ∧ 25 + 2 = 27 := ⟨by decide +kernel, rfl⟩
theorem eX6_mostOn_27 : decode cX6_mostOn 27 = .ok (.sipush 384, 3) ∧ 27 + 3 = 30 := ⟨by decide +kernel, rfl⟩
theorem eX6_mostOn_30 : decode cX6_mostOn 30 = .ok (.if_icmp .ge 18, 3) ∧ ((30 : Nat) : Int) + 18 = ((48 : Nat) : Int) ∧ 30 + 3 = 33 := ⟨by decide +kernel, by decide, rfl⟩
theorem eX6_mostOn_33 : decode cX6_mostOn 33 = .ok (.aload_n 0, 1) ∧ 33 + 1 = 34 := ⟨by decide +kernel, rfl⟩
theorem eX6_mostOn_34 : decode cX6_mostOn 34 = .ok (.getfield 34, 3) ∧ 34 + 3 = 37 := ⟨by decide +kernel, rfl⟩
theorem eX6_mostOn_37 : decode cX6_mostOn 37 = .ok (.iload 6, 2) ∧ 37 + 2 = 39 := ⟨by decide +kernel, rfl⟩
theorem eX6_mostOn_39 : decode cX6_mostOn 39 = .ok (.bipush (-9), 2) ∧ 39 + 2 = 41 := ⟨by decide +kernel, rfl⟩
theorem eX6_mostOn_41 : decode cX6_mostOn 41 = .ok (.iastore, 1) ∧ 41 + 1 = 42 := ⟨by decide +kernel, rfl⟩
theorem eX6_mostOn_42 : decode cX6_mostOn 42 = .ok (.iinc 6 1, 3) ∧ 42 + 3 = 45 := ⟨by decide +kernel, rfl⟩
theorem eX6_mostOn_45 : decode cX6_mostOn 45 = .ok (.goto (-20), 3) ∧ ((45 : Nat) : Int) + (-20) = ((25 : Nat) : Int) := ⟨by decide +kernel, by decide⟩
theorem eX6_mostOn_48 : decode cX6_mostOn 48 = .ok (.iconst 0, 1) ∧ 48 + 1 = 49 := ⟨by decide +kernel, rfl⟩
theorem eX6_mostOn_49 : decode cX6_mostOn 49 = .ok (.istore 6, 2) ∧ 49 + 2 = 51 := ⟨by decide +kernel, rfl⟩
theorem eX6_mostOn_51 : decode cX6_mostOn 51 = .ok (.iload 6, 2) ∧ 51 + 2 = 53 := ⟨by decide +kernel, rfl⟩
theorem eX6_mostOn_53 : decode cX6_mostOn 53 = .ok (.iload 4, 2) ∧ 53 + 2 = 55 := ⟨by decide +kernel, rfl⟩
theorem eX6_mostOn_55 : decode cX6_mostOn 55 = .ok (.if_icmp .gt 230, 3) ∧ ((55 : Nat) : Int) + 230 = ((285 : Nat) : Int) ∧ 55 + 3 = 58 := ⟨by decide +kernel, by decide, rfl⟩
theorem eX6_mostOn_58 : decode cX6_mostOn 58 = .ok (.iconst 0, 1) ∧ 58 + 1 = 59 := ⟨by decide +kernel, rfl⟩
theorem eX6_mostOn_59 : decode cX6_mostOn 59 = .ok (.istore 7, 2) ∧ 59 + 2 = 61 := ⟨by decide +kernel, rfl⟩
theorem eX6_mostOn_61 : decode cX6_mostOn 61 = .ok (.iload 7, 2) ∧ 61 + 2 = 63 := ⟨by decide +kernel, rfl⟩
theorem eX6_mostOn_63 : decode cX6_mostOn 63 = .ok (.aload_n 0, 1) ∧ 63 + 1 = 64 := ⟨by decide +kernel, rfl⟩
theorem eX6_mostOn_64 : decode cX6_mostOn 64 = .ok (.getfield 80, 3) ∧ 64 + 3 = 67 := ⟨by decide +kernel, rfl⟩
theorem eX6_mostOn_67 : decode cX6_mostOn 67 = .ok (.if_icmp .ge 212, 3) ∧ ((67 : Nat) : Int) + 212 = ((279 : Nat) : Int) ∧ 67 + 3 = 70 := ⟨by decide +kernel, by decide, rfl⟩
theorem eX6_mostOn_70 : decode cX6_mostOn 70 = .ok (.iload 6, 2) ∧ 70 + 2 = 72 := ⟨by decide +kernel, rfl⟩
theorem eX6_mostOn_72 : decode cX6_mostOn 72 = .ok (.iload 4, 2) ∧ 72 + 2 = 74 := ⟨by decide +kernel, rfl⟩
theorem eX6_mostOn_74 : decode cX6_mostOn 74 = .ok (.iconst (-1), 1) ∧ 74 + 1 = 75 := ⟨by decide +kernel, rfl⟩
theorem eX6_mostOn_75 : decode cX6_mostOn 75 = .ok (.ixor, 1) ∧ 75 + 1 = 76 := ⟨by decide +kernel, rfl⟩
theorem eX6_mostOn_76 : decode cX6_mostOn 76 = .ok (.iand, 1) ∧ 76 + 1 = 77 := ⟨by decide +kernel, rfl⟩
theorem eX6_mostOn_77 : decode cX6_mostOn 77 = .ok (.ifCond .ne 202, 3) ∧ ((77 : Nat) : Int) + 202 = ((279 : Nat) : Int) ∧ 77 + 3 = 80 := ⟨by decide +kernel, by decide, rfl⟩
theorem eX6_mostOn_80 : decode cX6_mostOn 80 = .ok (.iload 4, 2) ∧ 80 + 2 = 82 := ⟨by decide +kernel, rfl⟩
theorem eX6_mostOn_82 : decode cX6_mostOn 82 = .ok (.iload 6, 2) ∧ 82 + 2 = 84 := ⟨by decide +kernel, rfl⟩
theorem eX6_mostOn_84 : decode cX6_mostOn 84 = .ok (.iconst (-1), 1) ∧ 84 + 1 = 85 := ⟨by decide +kernel, rfl⟩
theorem eX6_mostOn_85 : decode cX6_mostOn 85 = .ok (.ixor, 1) ∧ 85 + 1 = 86 := ⟨by decide +kernel, rfl⟩
theorem eX6_mostOn_86 : decode cX6_mostOn 86 = .ok (.iand, 1) ∧ 86 + 1 = 87 := ⟨by decide +kernel, rfl⟩
theorem eX6_mostOn_87 : decode cX6_mostOn 87 = .ok (.iload 7, 2) ∧ 87 + 2 = 89 := ⟨by decide +kernel, rfl⟩
theorem eX6_mostOn_89 : decode cX6_mostOn 89 = .ok (.invokestatic 94, 3) ∧ 89 + 3 = 92 := ⟨by decide +kernel, rfl⟩
theorem eX6_mostOn_92 : decode cX6_mostOn 92 = .ok (.ifCond .eq 119, 3) ∧ ((92 : Nat) : Int) + 119 = ((211 : Nat) : Int) ∧ 92 + 3 = 95 := ⟨by decide +kernel, by decide, rfl⟩
theorem eX6_mostOn_95 : decode cX6_mostOn 95 = .ok (.iload 6, 2) ∧ 95 + 2 = 97 := ⟨by decide +kernel, rfl⟩
theorem eX6_mostOn_97 : decode cX6_mostOn 97 = .ok (.ifCond .ne 32, 3) ∧ ((97 : Nat) : Int) + 32 = ((129 : Nat) : Int) ∧ 97 + 3 = 100 := ⟨by decide +kernel, by decide, rfl⟩
theorem eX6_mostOn_100 : decode cX6_mostOn 100 = .ok (.aload_n 0, 1) ∧ 100 + 1 = 101 := ⟨by decide +kernel, rfl⟩
theorem eX6_mostOn_101 : decode cX6_mostOn 101 = .ok (.iconst 0, 1) ∧ 101 + 1 = 102 := ⟨by decide +kernel, rfl⟩
theorem eX6_mostOn_102 : decode cX6_mostOn 102 = .ok (.iload 7, 2) ∧ 102 + 2 = 104 := ⟨by decide +kernel, rfl⟩
theorem eX6_mostOn_104 : decode cX6_mostOn 104 = .ok (.aload_n 0, 1) ∧ 104 + 1 = 105 := ⟨by decide +kernel, rfl⟩
theorem eX6_mostOn_105 : decode cX6_mostOn 105 = .ok (.iload_n 1, 1) ∧ 105 + 1 = 106 := ⟨by decide +kernel, rfl⟩
theorem eX6_mostOn_106 : decode cX6_mostOn 106 = .ok (.iload 7, 2) ∧ 106 + 2 = 108 := ⟨by decide +kernel, rfl⟩
theorem eX6_mostOn_108 : decode cX6_mostOn 108 = .ok (.aload_n 0, 1) ∧ 108 + 1 = 109 := ⟨by decide +kernel, rfl⟩
theorem eX6_mostOn_109 : decode cX6_mostOn 109 = .ok (.getfield 25, 3) ∧ 109 + 3 = 112 := ⟨by decide +kernel, rfl⟩
theorem eX6_mostOn_112 : decode cX6_mostOn 112 = .ok (.iload_n 3, 1) ∧ 112 + 1 = 113 := ⟨by decide +kernel, rfl⟩
theorem eX6_mostOn_113 : decode cX6_mostOn 113 = .ok (.iconst 1, 1) ∧ 113 + 1 = 114 := ⟨by decide +kernel, rfl⟩
theorem eX6_mostOn_114 : decode cX6_mostOn 114 = .ok (.iadd, 1) ∧ 114 + 1 = 115 := ⟨by decide +kernel, rfl⟩
theorem eX6_mostOn_115 : decode cX6_mostOn 115 = .ok (.iaload, 1) ∧ 115 + 1 = 116 := ⟨by decide +kernel, rfl⟩
theorem eX6_mostOn_116 : decode cX6_mostOn 116 = .ok (.aload_n 0, 1) ∧ 116 + 1 = 117 := ⟨by decide +kernel, rfl⟩
theorem eX6_mostOn_117 : decode cX6_mostOn 117 = .ok (.getfield 25, 3) ∧ 117 + 3 = 120 := ⟨by decide +kernel, rfl⟩
theorem eX6_mostOn_120 : decode cX6_mostOn 120 = .ok (.iload_n 3, 1) ∧ 120 + 1 = 121 := ⟨by decide +kernel, rfl⟩
theorem eX6_mostOn_121 : decode cX6_mostOn 121 = .ok (.iaload, 1) ∧ 121 + 1 = 122 := ⟨by decide +kernel, rfl⟩
theorem eX6_mostOn_122 : decode cX6_mostOn 122 = .ok (.iconst 0, 1) ∧ 122 + 1 = 123 := ⟨by decide +kernel, rfl⟩
theorem eX6_mostOn_123 : decode cX6_mostOn 123 = .ok (.invokevirtual 98, 3) ∧ 123 + 3 = 126 := ⟨by decide +kernel, rfl⟩
theorem eX6_mostOn_126 : decode cX6_mostOn 126 = .ok (.invokevirtual 126, 3) ∧ 126 + 3 = 129 := ⟨by decide +kernel, rfl⟩
theorem eX6_mostOn_129 : decode cX6_mostOn 129 = .ok (.iconst 0, 1) ∧ 129 + 1 = 130 := ⟨by decide +kernel, rfl⟩
theorem eX6_mostOn_130 : decode cX6_mostOn 130 = .ok (.istore 8, 2) ∧ 130 + 2 = 132 := ⟨by decide +kernel, rfl⟩
theorem eX6_mostOn_132 : decode cX6_mostOn 132 = .ok (.iload 8, 2) ∧ 132 + 2 = 134 := ⟨by decide +kernel, rfl⟩
theorem eX6_mostOn_134 : decode cX6_mostOn 134 = .ok (.aload_n 0, 1) ∧ 134 + 1 = 135 := ⟨by decide +kernel, rfl⟩
theorem eX6_mostOn_135 : decode cX6_mostOn 135 = .ok (.getfield 80, 3) ∧ 135 + 3 = 138 := ⟨by decide +kernel, rfl⟩
theorem eX6_mostOn_138 : decode cX6_mostOn 138 = .ok (.if_icmp .ge 73, 3) ∧ ((138 : Nat) : Int) + 73 = ((211 : Nat) : Int) ∧ 138 + 3 = 141 := ⟨by decide +kernel, by decide, rfl⟩
theorem eX6_mostOn_141 : decode cX6_mostOn 141 = .ok (.iload 6, 2) ∧ 141 + 2 = 143 := ⟨by decide +kernel, rfl⟩
theorem eX6_mostOn_143 : decode cX6_mostOn 143 = .ok (.iload 8, 2) ∧ 143 + 2 = 145 := ⟨by decide +kernel, rfl⟩
theorem eX6_mostOn_145 : decode cX6_mostOn 145 = .ok (.invokestatic 94, 3) ∧ 145 + 3 = 148 := ⟨by decide +kernel, rfl⟩
theorem eX6_mostOn_148 : decode cX6_mostOn 148 = .ok (.ifCond .eq 57, 3) ∧ ((148 : Nat) : Int) + 57 = ((205 : Nat) : Int) ∧ 148 + 3 = 151 := ⟨by decide +kernel, by decide, rfl⟩
theorem eX6_mostOn_151 : decode cX6_mostOn 151 = .ok (.aload_n 0, 1) ∧ 151 + 1 = 152 := ⟨by decide +kernel, rfl⟩
theorem eX6_mostOn_152 : decode cX6_mostOn 152 = .ok (.getfield 34, 3) ∧ 152 + 3 = 155 := ⟨by decide +kernel, rfl⟩
theorem eX6_mostOn_155 : decode cX6_mostOn 155 = .ok (.bipush 6, 2) ∧ 155 + 2 = 157 := ⟨by decide +kernel, rfl⟩
theorem eX6_mostOn_157 : decode cX6_mostOn 157 = .ok (.iload 6, 2) ∧ 157 + 2 = 159 := ⟨by decide +kernel, rfl⟩
theorem eX6_mostOn_159 : decode cX6_mostOn 159 = .ok (.imul, 1) ∧ 159 + 1 = 160 := ⟨by decide +kernel, rfl⟩
theorem eX6_mostOn_160 : decode cX6_mostOn 160 = .ok (.iload 8, 2) ∧ 160 + 2 = 162 := ⟨by decide +kernel, rfl⟩
theorem eX6_mostOn_162 : decode cX6_mostOn 162 = .ok (.iadd, 1) ∧ 162 + 1 = 163 := ⟨by decide +kernel, rfl⟩
theorem eX6_mostOn_163 : decode cX6_mostOn 163 = .ok (.iaload, 1) ∧ 163 + 1 = 164 := ⟨by decide +kernel, rfl⟩
theorem eX6_mostOn_164 : decode cX6_mostOn 164 = .ok (.bipush (-9), 2) ∧ 164 + 2 = 166 := ⟨by decide +kernel, rfl⟩
theorem eX6_mostOn_166 : decode cX6_mostOn 166 = .ok (.if_icmp .eq 39, 3) ∧ ((166 : Nat) : Int) + 39 = ((205 : Nat) : Int) ∧ 166 + 3 = 169 := ⟨by decide +kernel, by decide, rfl⟩
theorem eX6_mostOn_169 : decode cX6_mostOn 169 = .ok (.aload_n 0, 1) ∧ 169 + 1 = 170 := ⟨by decide +kernel, rfl⟩
theorem eX6_mostOn_170 : decode cX6_mostOn 170 = .ok (.iload 6, 2) ∧ 170 + 2 = 172 := ⟨by decide +kernel, rfl⟩
theorem eX6_mostOn_172 : decode cX6_mostOn 172 = .ok (.iload 7, 2) ∧ 172 + 2 = 174 := ⟨by decide +kernel, rfl⟩
theorem eX6_mostOn_174 : decode cX6_mostOn 174 = .ok (.aload_n 0, 1) ∧ 174 + 1 = 175 := ⟨by decide +kernel, rfl⟩
theorem eX6_mostOn_175 : decode cX6_mostOn 175 = .ok (.iload_n 1, 1) ∧ 175 + 1 = 176 := ⟨by decide +kernel, rfl⟩
theorem eX6_mostOn_176 : decode cX6_mostOn 176 = .ok (.iload 7, 2) ∧ 176 + 2 = 178 := ⟨by decide +kernel, rfl⟩
theorem eX6_mostOn_178 : decode cX6_mostOn 178 = .ok (.aload_n 0, 1) ∧ 178 + 1 = 179 := ⟨by decide +kernel, rfl⟩
theorem eX6_mostOn_179 : decode cX6_mostOn 179 = .ok (.getfield 7, 3) ∧ 179 + 3 = 182 := ⟨by decide +kernel, rfl⟩
theorem eX6_mostOn_182 : decode cX6_mostOn 182 = .ok (.iload 8, 2) ∧ 182 + 2 = 184 := ⟨by decide +kernel, rfl⟩
theorem eX6_mostOn_184 : decode cX6_mostOn 184 = .ok (.iaload, 1) ∧ 184 + 1 = 185 := ⟨by decide +kernel, rfl⟩
theorem eX6_mostOn_185 : decode cX6_mostOn 185 = .ok (.aload_n 0, 1) ∧ 185 + 1 = 186 := ⟨by decide +kernel, rfl⟩
theorem eX6_mostOn_186 : decode cX6_mostOn 186 = .ok (.getfield 34, 3) ∧ 186 + 3 = 189 := ⟨by decide +kernel, rfl⟩
theorem eX6_mostOn_189 : decode cX6_mostOn 189 = .ok (.bipush 6, 2) ∧ 189 + 2 = 191 := ⟨by decide +kernel, rfl⟩
theorem eX6_mostOn_191 : decode cX6_mostOn 191 = .ok (.iload 6, 2) ∧ 191 + 2 = 193 := ⟨by decide +kernel, rfl⟩
theorem eX6_mostOn_193 : decode cX6_mostOn 193 = .ok (.imul, 1) ∧ 193 + 1 = 194 := ⟨by decide +kernel, rfl⟩
theorem eX6_mostOn_194 : decode cX6_mostOn 194 = .ok (.iload 8, 2) ∧ 194 + 2 = 196 := ⟨by decide +kernel, rfl⟩
theorem eX6_mostOn_196 : decode cX6_mostOn 196 = .ok (.iadd, 1) ∧ 196 + 1 = 197 := ⟨by decide +kernel, rfl⟩
theorem eX6_mostOn_197 : decode cX6_mostOn 197 = .ok (.iaload, 1) ∧ 197 + 1 = 198 := ⟨by decide +kernel, rfl⟩
theorem eX6_mostOn_198 : decode cX6_mostOn 198 = .ok (.iconst 0, 1) ∧ 198 + 1 = 199 := ⟨by decide +kernel, rfl⟩
theorem eX6_mostOn_199 : decode cX6_mostOn 199 = .ok (.invokevirtual 98, 3) ∧ 199 + 3 = 202 := ⟨by decide +kernel, rfl⟩
theorem eX6_mostOn_202 : decode cX6_mostOn 202 = .ok (.invokevirtual 126, 3) ∧ 202 + 3 = 205 := ⟨by decide +kernel, rfl⟩
theorem eX6_mostOn_205 : decode cX6_mostOn 205 = .ok (.iinc 8 1, 3) ∧ 205 + 3 = 208 := ⟨by decide +kernel, rfl⟩
theorem eX6_mostOn_208 : decode cX6_mostOn 208 = .ok (.goto (-76), 3) ∧ ((208 : Nat) : Int) + (-76) = ((132 : Nat) : Int) := ⟨by decide +kernel, by decide⟩
theorem eX6_mostOn_211 : decode cX6_mostOn 211 = .ok (.iload 6, 2) ∧ 211 + 2 = 213 := ⟨by decide +kernel, rfl⟩
theorem eX6_mostOn_213 : decode cX6_mostOn 213 = .ok (.iload 7, 2) ∧ 213 + 2 = 215 := ⟨by decide +kernel, rfl⟩
theorem eX6_mostOn_215 : decode cX6_mostOn 215 = .ok (.invokestatic 94, 3) ∧ 215 + 3 = 218 := ⟨by decide +kernel, rfl⟩
theorem eX6_mostOn_218 : decode cX6_mostOn 218 = .ok (.ifCond .eq 25, 3) ∧ ((218 : Nat) : Int) + 25 = ((243 : Nat) : Int) ∧ 218 + 3 = 221 := ⟨by decide +kernel, by decide, rfl⟩
theorem eX6_mostOn_221 : decode cX6_mostOn 221 = .ok (.aload_n 0, 1) ∧ 221 + 1 = 222 := ⟨by decide +kernel, rfl⟩
theorem eX6_mostOn_222 : decode cX6_mostOn 222 = .ok (.getfield 34, 3) ∧ 222 + 3 = 225 := ⟨by decide +kernel, rfl⟩
theorem eX6_mostOn_225 : decode cX6_mostOn 225 = .ok (.bipush 6, 2) ∧ 225 + 2 = 227 := ⟨by decide +kernel, rfl⟩
theorem eX6_mostOn_227 : decode cX6_mostOn 227 = .ok (.iload 6, 2) ∧ 227 + 2 = 229 := ⟨by decide +kernel, rfl⟩
theorem eX6_mostOn_229 : decode cX6_mostOn 229 = .ok (.imul, 1) ∧ 229 + 1 = 230 := ⟨by decide +kernel, rfl⟩
theorem eX6_mostOn_230 : decode cX6_mostOn 230 = .ok (.iload 7, 2) ∧ 230 + 2 = 232 := ⟨by decide +kernel, rfl⟩
theorem eX6_mostOn_232 : decode cX6_mostOn 232 = .ok (.iadd, 1) ∧ 232 + 1 = 233 := ⟨by decide +kernel, rfl⟩
theorem eX6_mostOn_233 : decode cX6_mostOn 233 = .ok (.iaload, 1) ∧ 233 + 1 = 234 := ⟨by decide +kernel, rfl⟩
theorem eX6_mostOn_234 : decode cX6_mostOn 234 = .ok (.bipush (-9), 2) ∧ 234 + 2 = 236 := ⟨by decide +kernel, rfl⟩
theorem eX6_mostOn_236 : decode cX6_mostOn 236 = .ok (.if_icmp .eq 7, 3) ∧ ((236 : Nat) : Int) + 7 = ((243 : Nat) : Int) ∧ 236 + 3 = 239 := ⟨by decide +kernel, by decide, rfl⟩
theorem eX6_mostOn_239 : decode cX6_mostOn 239 = .ok (.iconst 1, 1) ∧ 239 + 1 = 240 := ⟨by decide +kernel, rfl⟩
theorem eX6_mostOn_240 : decode cX6_mostOn 240 = .ok (.goto 4, 3) ∧ ((240 : Nat) : Int) + 4 = ((244 : Nat) : Int) := ⟨by decide +kernel, by decide⟩
theorem eX6_mostOn_243 : decode cX6_mostOn 243 = .ok (.iconst 0, 1) ∧ 243 + 1 = 244 := ⟨by decide +kernel, rfl⟩
theorem eX6_mostOn_244 : decode cX6_mostOn 244 = .ok (.istore 8, 2) ∧ 244 + 2 = 246 := ⟨by decide +kernel, rfl⟩
theorem eX6_mostOn_246 : decode cX6_mostOn 246 = .ok (.iload 8, 2) ∧ 246 + 2 = 248 := ⟨by decide +kernel, rfl⟩
theorem eX6_mostOn_248 : decode cX6_mostOn 248 = .ok (.ifCond .eq 21, 3) ∧ ((248 : Nat) : Int) + 21 = ((269 : Nat) : Int) ∧ 248 + 3 = 251 := ⟨by decide +kernel, by decide, rfl⟩
theorem eX6_mostOn_251 : decode cX6_mostOn 251 = .ok (.iload 6, 2) ∧ 251 + 2 = 253 := ⟨by decide +kernel, rfl⟩
theorem eX6_mostOn_253 : decode cX6_mostOn 253 = .ok (.invokestatic 130, 3) ∧ 253 + 3 = 256 := ⟨by decide +kernel, rfl⟩
theorem eX6_mostOn_256 : decode cX6_mostOn 256 = .ok (.iload 5, 2) ∧ 256 + 2 = 258 := ⟨by decide +kernel, rfl⟩
theorem eX6_mostOn_258 : decode cX6_mostOn 258 = .ok (.if_icmp .le 11, 3) ∧ ((258 : Nat) : Int) + 11 = ((269 : Nat) : Int) ∧ 258 + 3 = 261 := ⟨by decide +kernel, by decide, rfl⟩
theorem eX6_mostOn_261 : decode cX6_mostOn 261 = .ok (.iload 6, 2) ∧ 261 + 2 = 263 := ⟨by decide +kernel, rfl⟩
theorem eX6_mostOn_263 : decode cX6_mostOn 263 = .ok (.invokestatic 130, 3) ∧ 263 + 3 = 266 := ⟨by decide +kernel, rfl⟩
theorem eX6_mostOn_266 : decode cX6_mostOn 266 = .ok (.goto 5, 3) ∧ ((266 : Nat) : Int) + 5 = ((271 : Nat) : Int) := ⟨by decide +kernel, by decide⟩
theorem eX6_mostOn_269 : decode cX6_mostOn 269 = .ok (.iload 5, 2) ∧ 269 + 2 = 271 := ⟨by decide +kernel, rfl⟩
theorem eX6_mostOn_271 : decode cX6_mostOn 271 = .ok (.istore 5, 2) ∧ 271 + 2 = 273 := ⟨by decide +kernel, rfl⟩
theorem eX6_mostOn_273 : decode cX6_mostOn 273 = .ok (.iinc 7 1, 3) ∧ 273 + 3 = 276 := ⟨by decide +kernel, rfl⟩
theorem eX6_mostOn_276 : decode cX6_mostOn 276 = .ok (.goto (-215), 3) ∧ ((276 : Nat) : Int) + (-215) = ((61 : Nat) : Int) := ⟨by decide +kernel, by decide⟩
theorem eX6_mostOn_279 : decode cX6_mostOn 279 = .ok (.iinc 6 1, 3) ∧ 279 + 3 = 282 := ⟨by decide +kernel, rfl⟩
theorem eX6_mostOn_282 : decode cX6_mostOn 282 = .ok (.goto (-231), 3) ∧ ((282 : Nat) : Int) + (-231) = ((51 : Nat) : Int) := ⟨by decide +kernel, by decide⟩
theorem eX6_mostOn_285 : decode cX6_mostOn 285 = .ok (.iload 5, 2) ∧ 285 + 2 = 287 := ⟨by decide +kernel, rfl⟩
theorem eX6_mostOn_287 : decode cX6_mostOn 287 = .ok (.ireturn, 1) := by decide +kernel
theorem eX6_endOf_0 : decode cX6_endOf 0 = .ok (.bipush (-9), 2) ∧ 0 + 2 = 2 := ⟨by decide +kernel, rfl⟩
theorem eX6_endOf_2 : decode cX6_endOf 2 = .ok (.istore_n 2, 1) ∧ 2 + 1 = 3 := ⟨by decide +kernel, rfl⟩
theorem eX6_endOf_3 : decode cX6_endOf 3 = .ok (.iconst 0, 1) ∧ 3 + 1 = 4 := ⟨by decide +kernel, rfl⟩
theorem eX6_endOf_4 : decode cX6_endOf 4 = .ok (.istore_n 3, 1) ∧ 4 + 1 = 5 := ⟨by decide +kernel, rfl⟩
theorem eX6_endOf_5 : decode cX6_endOf 5 = .ok (.iload_n 3, 1) ∧ 5 + 1 = 6 := ⟨by decide +kernel, rfl⟩
theorem eX6_endOf_6 : decode cX6_endOf 6 = .ok (.sipush 384, 3) ∧ 6 + 3 = 9 := ⟨by decide +kernel, rfl⟩
theorem eX6_endOf_9 : decode cX6_endOf 9 = .ok (.if_icmp .ge 70, 3) ∧ ((9 : Nat) : Int) + 70 = ((79 : Nat) : Int) ∧ 9 + 3 = 12 := ⟨by decide +kernel, by decide, rfl⟩
theorem eX6_endOf_12 : decode cX6_endOf 12 = .ok (.aload_n 0, 1) ∧ 12 + 1 = 13 := ⟨by decide +kernel, rfl⟩
theorem eX6_endOf_13 : decode cX6_endOf 13 = .ok (.getfield 34, 3) ∧ 13 + 3 = 16 := ⟨by decide +kernel, rfl⟩
theorem eX6_endOf_16 : decode cX6_endOf 16 = .ok (.iload_n 3, 1) ∧ 16 + 1 = 17 := ⟨by decide +kernel, rfl⟩
theorem eX6_endOf_17 : decode cX6_endOf 17 = .ok (.iaload, 1) ∧ 17 + 1 = 18 := ⟨by decide +kernel, rfl⟩
theorem eX6_endOf_18 : decode cX6_endOf 18 = .ok (.bipush (-9), 2) ∧ 18 + 2 = 20 := ⟨by decide +kernel, rfl⟩
theorem eX6_endOf_20 : decode cX6_endOf 20 = .ok (.if_icmp .eq 18, 3) ∧ ((20 : Nat) : Int) + 18 = ((38 : Nat) : Int) ∧ 20 + 3 = 23 := ⟨by decide +kernel, by decide, rfl⟩
theorem eX6_endOf_23 : decode cX6_endOf 23 = .ok (.iload_n 3, 1) ∧ 23 + 1 = 24 := ⟨by decide +kernel, rfl⟩
theorem eX6_endOf_24 : decode cX6_endOf 24 = .ok (.bipush 6, 2) ∧ 24 + 2 = 26 := ⟨by decide +kernel, rfl⟩
theorem eX6_endOf_26 : decode cX6_endOf 26 = .ok (.idiv, 1) ∧ 26 + 1 = 27 := ⟨by decide +kernel, rfl⟩
theorem eX6_endOf_27 : decode cX6_endOf 27 = .ok (.invokestatic 130, 3) ∧ 27 + 3 = 30 := ⟨by decide +kernel, rfl⟩
theorem eX6_endOf_30 : decode cX6_endOf 30 = .ok (.iload_n 1, 1) ∧ 30 + 1 = 31 := ⟨by decide +kernel, rfl⟩
theorem eX6_endOf_31 : decode cX6_endOf 31 = .ok (.if_icmp .ne 7, 3) ∧ ((31 : Nat) : Int) + 7 = ((38 : Nat) : Int) ∧ 31 + 3 = 34 := ⟨by decide +kernel, by decide, rfl⟩
theorem eX6_endOf_34 : decode cX6_endOf 34 = .ok (.iconst 1, 1) ∧ 34 + 1 = 35 := ⟨by decide +kernel, rfl⟩
theorem eX6_endOf_35 : decode cX6_endOf 35 = .ok (.goto 4, 3) ∧ ((35 : Nat) : Int) + 4 = ((39 : Nat) : Int) := ⟨by decide +kernel, by decide⟩
theorem eX6_endOf_38 : decode cX6_endOf 38 = .ok (.iconst 0, 1) ∧ 38 + 1 = 39 := ⟨by decide +kernel, rfl⟩
theorem eX6_endOf_39 : decode cX6_endOf 39 = .ok (.istore 4, 2) ∧ 39 + 2 = 41 := ⟨by decide +kernel, rfl⟩
theorem eX6_endOf_41 : decode cX6_endOf 41 = .ok (.iload 4, 2) ∧ 41 + 2 = 43 := ⟨by decide +kernel, rfl⟩
theorem eX6_endOf_43 : decode cX6_endOf 43 = .ok (.ifCond .eq 28, 3) ∧ ((43 : Nat) : Int) + 28 = ((71 : Nat) : Int) ∧ 43 + 3 = 46 := ⟨by decide +kernel, by decide, rfl⟩
theorem eX6_endOf_46 : decode cX6_endOf 46 = .ok (.iload_n 2, 1) ∧ 46 + 1 = 47 := ⟨by decide +kernel, rfl⟩
theorem eX6_endOf_47 : decode cX6_endOf 47 = .ok (.bipush (-9), 2) ∧ 47 + 2 = 49 := ⟨by decide +kernel, rfl⟩
theorem eX6_endOf_49 : decode cX6_endOf 49 = .ok (.if_icmp .eq 13, 3) ∧ ((49 : Nat) : Int) + 13 = ((62 : Nat) : Int) ∧ 49 + 3 = 52 := ⟨by decide +kernel, by decide, rfl⟩
theorem eX6_endOf_52 : decode cX6_endOf 52 = .ok (.aload_n 0, 1) ∧ 52 + 1 = 53 := ⟨by decide +kernel, rfl⟩
theorem eX6_endOf_53 : decode cX6_endOf 53 = .ok (.getfield 34, 3) ∧ 53 + 3 = 56 := ⟨by decide +kernel, rfl⟩
theorem eX6_endOf_56 : decode cX6_endOf 56 = .ok (.iload_n 3, 1) ∧ 56 + 1 = 57 := ⟨by decide +kernel, rfl⟩
theorem eX6_endOf_57 : decode cX6_endOf 57 = .ok (.iaload, 1) ∧ 57 + 1 = 58 := ⟨by decide +kernel, rfl⟩
theorem eX6_endOf_58 : decode cX6_endOf 58 = .ok (.iload_n 2, 1) ∧ 58 + 1 = 59 := ⟨by decide +kernel, rfl⟩
theorem eX6_endOf_59 : decode cX6_endOf 59 = .ok (.if_icmp .ge 12, 3) ∧ ((59 : Nat) : Int) + 12 = ((71 : Nat) : Int) ∧ 59 + 3 = 62 := ⟨by decide +kernel, by decide, rfl⟩
theorem eX6_endOf_62 : decode cX6_endOf 62 = .ok (.aload_n 0, 1) ∧ 62 + 1 = 63 := ⟨by decide +kernel, rfl⟩
theorem eX6_endOf_63 : decode cX6_endOf 63 = .ok (.getfield 34, 3) ∧ 63 + 3 = 66 := ⟨by decide +kernel, rfl⟩
theorem eX6_endOf_66 : decode cX6_endOf 66 = .ok (.iload_n 3, 1) ∧ 66 + 1 = 67 := ⟨by decide +kernel, rfl⟩
theorem eX6_endOf_67 : decode cX6_endOf 67 = .ok (.iaload, 1) ∧ 67 + 1 = 68 := ⟨by decide +kernel, rfl⟩
theorem eX6_endOf_68 : decode cX6_endOf 68 = .ok (.goto 4, 3) ∧ ((68 : Nat) : Int) + 4 = ((72 : Nat) : Int) := ⟨by decide +kernel, by decide⟩
theorem eX6_endOf_71 : decode cX6_endOf 71 = .ok (.iload_n 2, 1) ∧ 71 + 1 = 72 := ⟨by decide +kernel, rfl⟩
theorem eX6_endOf_72 : decode cX6_endOf 72 = .ok (.istore_n 2, 1) ∧ 72 + 1 = 73 := ⟨by decide +kernel, rfl⟩
theorem eX6_endOf_73 : decode cX6_endOf 73 = .ok (.iinc 3 1, 3) ∧ 73 + 3 = 76 := ⟨by decide +kernel, rfl⟩
theorem eX6_endOf_76 : decode cX6_endOf 76 = .ok (.goto (-71), 3) ∧ ((76 : Nat) : Int) + (-71) = ((5 : Nat) : Int) := ⟨by decide +kernel, by decide⟩
theorem eX6_endOf_79 : decode cX6_endOf 79 = .ok (.iload_n 1, 1) ∧ 79 + 1 = 80 := ⟨by decide +kernel, rfl⟩
theorem eX6_endOf_80 : decode cX6_endOf 80 = .ok (.ifCond .ne 12, 3) ∧ ((80 : Nat) : Int) + 12 = ((92 : Nat) : Int) ∧ 80 + 3 = 83 := ⟨by decide +kernel, by decide, rfl⟩
theorem eX6_endOf_83 : decode cX6_endOf 83 = .ok (.aload_n 0, 1) ∧ 83 + 1 = 84 := ⟨by decide +kernel, rfl⟩
theorem eX6_endOf_84 : decode cX6_endOf 84 = .ok (.getfield 25, 3) ∧ 84 + 3 = 87 := ⟨by decide +kernel, rfl⟩
theorem eX6_endOf_87 : decode cX6_endOf 87 = .ok (.iconst 0, 1) ∧ 87 + 1 = 88 := ⟨by decide +kernel, rfl⟩
theorem eX6_endOf_88 : decode cX6_endOf 88 = .ok (.iaload, 1) ∧ 88 + 1 = 89 := ⟨by decide +kernel, rfl⟩
theorem eX6_endOf_89 : decode cX6_endOf 89 = .ok (.goto 4, 3) ∧ ((89 : Nat) : Int) + 4 = ((93 : Nat) : Int) := ⟨by decide +kernel, by decide⟩
theorem eX6_endOf_92 : decode cX6_endOf 92 = .ok (.iload_n 2, 1) ∧ 92 + 1 = 93 := ⟨by decide +kernel, rfl⟩
theorem eX6_endOf_93 : decode cX6_endOf 93 = .ok (.ireturn, 1) := by decide +kernel
theorem eX6_layTrial_0 : decode cX6_layTrial 0 = .ok (.iconst 0, 1) ∧ 0 + 1 = 1 := ⟨by decide +kernel, rfl⟩
theorem eX6_layTrial_1 : decode cX6_layTrial 1 = .ok (.istore_n 1, 1) ∧ 1 + 1 = 2 := ⟨by decide +kernel, rfl⟩
theorem eX6_layTrial_2 : decode cX6_layTrial 2 = .ok (.iload_n 1, 1) ∧ 2 + 1 = 3 := ⟨by decide +kernel, rfl⟩
theorem eX6_layTrial_3 : decode cX6_layTrial 3 = .ok (.bipush 8, 2) ∧ 3 + 2 = 5 := ⟨by decide +kernel, rfl⟩
theorem eX6_layTrial_5 : decode cX6_layTrial 5 = .ok (.if_icmp .ge 24, 3) ∧ ((5 : Nat) : Int) + 24 = ((29 : Nat) : Int) ∧ 5 + 3 = 8 := ⟨by decide +kernel, by decide, rfl⟩
theorem eX6_layTrial_8 : decode cX6_layTrial 8 = .ok (.aload_n 0, 1) ∧ 8 + 1 = 9 := ⟨by decide +kernel, rfl⟩
theorem eX6_layTrial_9 : decode cX6_layTrial 9 = .ok (.getfield 25, 3) ∧ 9 + 3 = 12 := ⟨by decide +kernel, rfl⟩
theorem eX6_layTrial_12 : decode cX6_layTrial 12 = .ok (.bipush 8, 2) ∧ 12 + 2 = 14 := ⟨by decide +kernel, rfl⟩
theorem eX6_layTrial_14 : decode cX6_layTrial 14 = .ok (.iload_n 1, 1) ∧ 14 + 1 = 15 := ⟨by decide +kernel, rfl⟩
theorem eX6_layTrial_15 : decode cX6_layTrial 15 = .ok (.iadd, 1) ∧ 15 + 1 = 16 := ⟨by decide +kernel, rfl⟩
theorem eX6_layTrial_16 : decode cX6_layTrial 16 = .ok (.aload_n 0, 1) ∧ 16 + 1 = 17 := ⟨by decide +kernel, rfl⟩
theorem eX6_layTrial_17 : decode cX6_layTrial 17 = .ok (.getfield 25, 3) ∧ 17 + 3 = 20 := ⟨by decide +kernel, rfl⟩
theorem eX6_layTrial_20 : decode cX6_layTrial 20 = .ok (.iload_n 1, 1) ∧ 20 + 1 = 21 := ⟨by decide +kernel, rfl⟩
theorem eX6_layTrial_21 : decode cX6_layTrial 21 = .ok (.iaload, 1) ∧ 21 + 1 = 22 := ⟨by decide +kernel, rfl⟩
theorem eX6_layTrial_22 : decode cX6_layTrial 22 = .ok (.iastore, 1) ∧ 22 + 1 = 23 := ⟨by decide +kernel, rfl⟩
theorem eX6_layTrial_23 : decode cX6_layTrial 23 = .ok (.iinc 1 1, 3) ∧ 23 + 3 = 26 := ⟨by decide +kernel, rfl⟩
theorem eX6_layTrial_26 : decode cX6_layTrial 26 = .ok (.goto (-24), 3) ∧ ((26 : Nat) : Int) + (-24) = ((2 : Nat) : Int) := ⟨by decide +kernel, by decide⟩
theorem eX6_layTrial_29 : decode cX6_layTrial 29 = .ok (.return_, 1) := by decide +kernel
theorem eX6_firstRow_0 : decode cX6_firstRow 0 = .ok (.iconst 0, 1) ∧ 0 + 1 = 1 := ⟨by decide +kernel, rfl⟩
theorem eX6_firstRow_1 : decode cX6_firstRow 1 = .ok (.istore_n 2, 1) ∧ 1 + 1 = 2 := ⟨by decide +kernel, rfl⟩
theorem eX6_firstRow_2 : decode cX6_firstRow 2 = .ok (.iconst 0, 1) ∧ 2 + 1 = 3 := ⟨by decide +kernel, rfl⟩
theorem eX6_firstRow_3 : decode cX6_firstRow 3 = .ok (.istore_n 3, 1) ∧ 3 + 1 = 4 := ⟨by decide +kernel, rfl⟩
theorem eX6_firstRow_4 : decode cX6_firstRow 4 = .ok (.iload_n 1, 1) ∧ 4 + 1 = 5 := ⟨by decide +kernel, rfl⟩
theorem eX6_firstRow_5 : decode cX6_firstRow 5 = .ok (.istore 4, 2) ∧ 5 + 2 = 7 := ⟨by decide +kernel, rfl⟩
theorem eX6_firstRow_7 : decode cX6_firstRow 7 = .ok (.iload 4, 2) ∧ 7 + 2 = 9 := ⟨by decide +kernel, rfl⟩
theorem eX6_firstRow_9 : decode cX6_firstRow 9 = .ok (.ifCond .le 45, 3) ∧ ((9 : Nat) : Int) + 45 = ((54 : Nat) : Int) ∧ 9 + 3 = 12 := ⟨by decide +kernel, by decide, rfl⟩
theorem eX6_firstRow_12 : decode cX6_firstRow 12 = .ok (.iconst 0, 1) ∧ 12 + 1 = 13 := ⟨by decide +kernel, rfl⟩
theorem eX6_firstRow_13 : decode cX6_firstRow 13 = .ok (.istore 5, 2) ∧ 13 + 2 = 15 := ⟨by decide +kernel, rfl⟩
theorem eX6_firstRow_15 : decode cX6_firstRow 15 = .ok (.aload_n 0, 1) ∧ 15 + 1 = 16 := ⟨by decide +kernel, rfl⟩
theorem eX6_firstRow_16 : decode cX6_firstRow 16 = .ok (.iload_n 2, 1) ∧ 16 + 1 = 17 := ⟨by decide +kernel, rfl⟩
theorem eX6_firstRow_17 : decode cX6_firstRow 17 = .ok (.iload 5, 2) ∧ 17 + 2 = 19 := ⟨by decide +kernel, rfl⟩
theorem eX6_firstRow_19 : decode cX6_firstRow 19 = .ok (.iload 4, 2) ∧ 19 + 2 = 21 := ⟨by decide +kernel, rfl⟩
theorem eX6_firstRow_21 : decode cX6_firstRow 21 = .ok (.iconst 1, 1) ∧ 21 + 1 = 22 := ⟨by decide +kernel, rfl⟩
theorem eX6_firstRow_22 : decode cX6_firstRow 22 = .ok (.isub, 1) ∧ 22 + 1 = 23 := ⟨by decide +kernel, rfl⟩
theorem eX6_firstRow_23 : decode cX6_firstRow 23 = .ok (.invokevirtual 133, 3) ∧ 23 + 3 = 26 := ⟨by decide +kernel, rfl⟩
theorem eX6_firstRow_26 : decode cX6_firstRow 26 = .ok (.ifCond .ne 9, 3) ∧ ((26 : Nat) : Int) + 9 = ((35 : Nat) : Int) ∧ 26 + 3 = 29 := ⟨by decide +kernel, by decide, rfl⟩
theorem eX6_firstRow_29 : decode cX6_firstRow 29 = .ok (.iinc 5 1, 3) ∧ 29 + 3 = 32 := ⟨by decide +kernel, rfl⟩
theorem eX6_firstRow_32 : decode cX6_firstRow 32 = .ok (.goto (-17), 3) ∧ ((32 : Nat) : Int) + (-17) = ((15 : Nat) : Int) := ⟨by decide +kernel, by decide⟩
theorem eX6_firstRow_35 : decode cX6_firstRow 35 = .ok (.bipush 10, 2) ∧ 35 + 2 = 37 := ⟨by decide +kernel, rfl⟩
theorem eX6_firstRow_37 : decode cX6_firstRow 37 = .ok (.iload_n 2, 1) ∧ 37 + 1 = 38 := ⟨by decide +kernel, rfl⟩
theorem eX6_firstRow_38 : decode cX6_firstRow 38 = .ok (.imul, 1) ∧ 38 + 1 = 39 := ⟨by decide +kernel, rfl⟩
theorem eX6_firstRow_39 : decode cX6_firstRow 39 = .ok (.iload 5, 2) ∧ 39 + 2 = 41 := ⟨by decide +kernel, rfl⟩
theorem eX6_firstRow_41 : decode cX6_firstRow 41 = .ok (.iadd, 1) ∧ 41 + 1 = 42 := ⟨by decide +kernel, rfl⟩
theorem eX6_firstRow_42 : decode cX6_firstRow 42 = .ok (.iconst 1, 1) ∧ 42 + 1 = 43 := ⟨by decide +kernel, rfl⟩
theorem eX6_firstRow_43 : decode cX6_firstRow 43 = .ok (.iadd, 1) ∧ 43 + 1 = 44 := ⟨by decide +kernel, rfl⟩
theorem eX6_firstRow_44 : decode cX6_firstRow 44 = .ok (.istore_n 2, 1) ∧ 44 + 1 = 45 := ⟨by decide +kernel, rfl⟩
theorem eX6_firstRow_45 : decode cX6_firstRow 45 = .ok (.iinc 3 1, 3) ∧ 45 + 3 = 48 := ⟨by decide +kernel, rfl⟩
theorem eX6_firstRow_48 : decode cX6_firstRow 48 = .ok (.iinc 4 (-1), 3) ∧ 48 + 3 = 51 := ⟨by decide +kernel, rfl⟩
theorem eX6_firstRow_51 : decode cX6_firstRow 51 = .ok (.goto (-44), 3) ∧ ((51 : Nat) : Int) + (-44) = ((7 : Nat) : Int) := ⟨by decide +kernel, by decide⟩
theorem eX6_firstRow_54 : decode cX6_firstRow 54 = .ok (.iload_n 3, 1) ∧ 54 + 1 = 55 := ⟨by decide +kernel, rfl⟩
theorem eX6_firstRow_55 : decode cX6_firstRow 55 = .ok (.iload_n 1, 1) ∧ 55 + 1 = 56 := ⟨by decide +kernel, rfl⟩
theorem eX6_firstRow_56 : decode cX6_firstRow 56 = .ok (.if_icmp .ne 7, 3) ∧ ((56 : Nat) : Int) + 7 = ((63 : Nat) : Int) ∧ 56 + 3 = 59 := ⟨by decide +kernel, by decide, rfl⟩
theorem eX6_firstRow_59 : decode cX6_firstRow 59 = .ok (.iload_n 2, 1) ∧ 59 + 1 = 60 := ⟨by decide +kernel, rfl⟩
theorem eX6_firstRow_60 : decode cX6_firstRow 60 = .ok (.goto 5, 3) ∧ ((60 : Nat) : Int) + 5 = ((65 : Nat) : Int) := ⟨by decide +kernel, by decide⟩
theorem eX6_firstRow_63 : decode cX6_firstRow 63 = .ok (.bipush (-9), 2) ∧ 63 + 2 = 65 := ⟨by decide +kernel, rfl⟩
theorem eX6_firstRow_65 : decode cX6_firstRow 65 = .ok (.ireturn, 1) := by decide +kernel
theorem eX6_goesOn_0 : decode cX6_goesOn 0 = .ok (.aload_n 0, 1) ∧ 0 + 1 = 1 := ⟨by decide +kernel, rfl⟩
theorem eX6_goesOn_1 : decode cX6_goesOn 1 = .ok (.invokevirtual 137, 3) ∧ 1 + 3 = 4 := ⟨by decide +kernel, rfl⟩
theorem eX6_goesOn_4 : decode cX6_goesOn 4 = .ok (.ldc 140, 2) ∧ 4 + 2 = 6 := ⟨by decide +kernel, rfl⟩
theorem eX6_goesOn_6 : decode cX6_goesOn 6 = .ok (.istore 4, 2) ∧ 6 + 2 = 8 := ⟨by decide +kernel, rfl⟩
theorem eX6_goesOn_8 : decode cX6_goesOn 8 = .ok (.iload 4, 2) ∧ 8 + 2 = 10 := ⟨by decide +kernel, rfl⟩
theorem eX6_goesOn_10 : decode cX6_goesOn 10 = .ok (.ifCond .le 37, 3) ∧ ((10 : Nat) : Int) + 37 = ((47 : Nat) : Int) ∧ 10 + 3 = 13 := ⟨by decide +kernel, by decide, rfl⟩
theorem eX6_goesOn_13 : decode cX6_goesOn 13 = .ok (.iload_n 1, 1) ∧ 13 + 1 = 14 := ⟨by decide +kernel, rfl⟩
theorem eX6_goesOn_14 : decode cX6_goesOn 14 = .ok (.iload 4, 2) ∧ 14 + 2 = 16 := ⟨by decide +kernel, rfl⟩
theorem eX6_goesOn_16 : decode cX6_goesOn 16 = .ok (.idiv, 1) ∧ 16 + 1 = 17 := ⟨by decide +kernel, rfl⟩
theorem eX6_goesOn_17 : decode cX6_goesOn 17 = .ok (.bipush 10, 2) ∧ 17 + 2 = 19 := ⟨by decide +kernel, rfl⟩
theorem eX6_goesOn_19 : decode cX6_goesOn 19 = .ok (.irem, 1) ∧ 19 + 1 = 20 := ⟨by decide +kernel, rfl⟩
theorem eX6_goesOn_20 : decode cX6_goesOn 20 = .ok (.iconst 1, 1) ∧ 20 + 1 = 21 := ⟨by decide +kernel, rfl⟩
theorem eX6_goesOn_21 : decode cX6_goesOn 21 = .ok (.isub, 1) ∧ 21 + 1 = 22 := ⟨by decide +kernel, rfl⟩
theorem eX6_goesOn_22 : decode cX6_goesOn 22 = .ok (.istore 5, 2) ∧ 22 + 2 = 24 := ⟨by decide +kernel, rfl⟩
theorem eX6_goesOn_24 : decode cX6_goesOn 24 = .ok (.iload 5, 2) ∧ 24 + 2 = 26 := ⟨by decide +kernel, rfl⟩
theorem eX6_goesOn_26 : decode cX6_goesOn 26 = .ok (.ifCond .lt 11, 3) ∧ ((26 : Nat) : Int) + 11 = ((37 : Nat) : Int) ∧ 26 + 3 = 29 := ⟨by decide +kernel, by decide, rfl⟩
theorem eX6_goesOn_29 : decode cX6_goesOn 29 = .ok (.aload_n 0, 1) ∧ 29 + 1 = 30 := ⟨by decide +kernel, rfl⟩
theorem eX6_goesOn_30 : decode cX6_goesOn 30 = .ok (.iconst 1, 1) ∧ 30 + 1 = 31 := ⟨by decide +kernel, rfl⟩
theorem eX6_goesOn_31 : decode cX6_goesOn 31 = .ok (.iload 5, 2) ∧ 31 + 2 = 33 := ⟨by decide +kernel, rfl⟩
theorem eX6_goesOn_33 : decode cX6_goesOn 33 = .ok (.invokevirtual 123, 3) ∧ 33 + 3 = 36 := ⟨by decide +kernel, rfl⟩
theorem eX6_goesOn_36 : decode cX6_goesOn 36 = .ok (.pop, 1) ∧ 36 + 1 = 37 := ⟨by decide +kernel, rfl⟩
theorem eX6_goesOn_37 : decode cX6_goesOn 37 = .ok (.iload 4, 2) ∧ 37 + 2 = 39 := ⟨by decide +kernel, rfl⟩
theorem eX6_goesOn_39 : decode cX6_goesOn 39 = .ok (.bipush 10, 2) ∧ 39 + 2 = 41 := ⟨by decide +kernel, rfl⟩
theorem eX6_goesOn_41 : decode cX6_goesOn 41 = .ok (.idiv, 1) ∧ 41 + 1 = 42 := ⟨by decide +kernel, rfl⟩
theorem eX6_goesOn_42 : decode cX6_goesOn 42 = .ok (.istore 4, 2) ∧ 42 + 2 = 44 := ⟨by decide +kernel, rfl⟩
theorem eX6_goesOn_44 : decode cX6_goesOn 44 = .ok (.goto (-36), 3) ∧ ((44 : Nat) : Int) + (-36) = ((8 : Nat) : Int) := ⟨by decide +kernel, by decide⟩
theorem eX6_goesOn_47 : decode cX6_goesOn 47 = .ok (.aload_n 0, 1) ∧ 47 + 1 = 48 := ⟨by decide +kernel, rfl⟩
theorem eX6_goesOn_48 : decode cX6_goesOn 48 = .ok (.iconst 1, 1) ∧ 48 + 1 = 49 := ⟨by decide +kernel, rfl⟩
theorem eX6_goesOn_49 : decode cX6_goesOn 49 = .ok (.iload_n 2, 1) ∧ 49 + 1 = 50 := ⟨by decide +kernel, rfl⟩
theorem eX6_goesOn_50 : decode cX6_goesOn 50 = .ok (.invokevirtual 123, 3) ∧ 50 + 3 = 53 := ⟨by decide +kernel, rfl⟩
theorem eX6_goesOn_53 : decode cX6_goesOn 53 = .ok (.ifCond .eq 20, 3) ∧ ((53 : Nat) : Int) + 20 = ((73 : Nat) : Int) ∧ 53 + 3 = 56 := ⟨by decide +kernel, by decide, rfl⟩
theorem eX6_goesOn_56 : decode cX6_goesOn 56 = .ok (.aload_n 0, 1) ∧ 56 + 1 = 57 := ⟨by decide +kernel, rfl⟩
theorem eX6_goesOn_57 : decode cX6_goesOn 57 = .ok (.iconst 1, 1) ∧ 57 + 1 = 58 := ⟨by decide +kernel, rfl⟩
theorem eX6_goesOn_58 : decode cX6_goesOn 58 = .ok (.aload_n 0, 1) ∧ 58 + 1 = 59 := ⟨by decide +kernel, rfl⟩
theorem eX6_goesOn_59 : decode cX6_goesOn 59 = .ok (.invokevirtual 141, 3) ∧ 59 + 3 = 62 := ⟨by decide +kernel, rfl⟩
theorem eX6_goesOn_62 : decode cX6_goesOn 62 = .ok (.invokevirtual 144, 3) ∧ 62 + 3 = 65 := ⟨by decide +kernel, rfl⟩
theorem eX6_goesOn_65 : decode cX6_goesOn 65 = .ok (.iload_n 3, 1) ∧ 65 + 1 = 66 := ⟨by decide +kernel, rfl⟩
theorem eX6_goesOn_66 : decode cX6_goesOn 66 = .ok (.if_icmp .ne 7, 3) ∧ ((66 : Nat) : Int) + 7 = ((73 : Nat) : Int) ∧ 66 + 3 = 69 := ⟨by decide +kernel, by decide, rfl⟩
theorem eX6_goesOn_69 : decode cX6_goesOn 69 = .ok (.iconst 1, 1) ∧ 69 + 1 = 70 := ⟨by decide +kernel, rfl⟩
theorem eX6_goesOn_70 : decode cX6_goesOn 70 = .ok (.goto 4, 3) ∧ ((70 : Nat) : Int) + 4 = ((74 : Nat) : Int) := ⟨by decide +kernel, by decide⟩
theorem eX6_goesOn_73 : decode cX6_goesOn 73 = .ok (.iconst 0, 1) ∧ 73 + 1 = 74 := ⟨by decide +kernel, rfl⟩
theorem eX6_goesOn_74 : decode cX6_goesOn 74 = .ok (.ireturn, 1) := by decide +kernel
theorem eX6_most_0 : decode cX6_most 0 = .ok (.iload_n 1, 1) ∧ 0 + 1 = 1 := ⟨by decide +kernel, rfl⟩
theorem eX6_most_1 : decode cX6_most 1 = .ok (.i2l, 1) ∧ 1 + 1 = 2 := ⟨by decide +kernel, rfl⟩
theorem eX6_most_2 : decode cX6_most 2 = .ok (.lconst 0, 1) ∧ 2 + 1 = 3 := ⟨by decide +kernel, rfl⟩
theorem eX6_most_3 : decode cX6_most 3 = .ok (.ldc2_w 147, 3) ∧ 3 + 3 = 6 := ⟨by decide +kernel, rfl⟩
theorem eX6_most_6 : decode cX6_most 6 = .ok (.invokestatic 59, 3) ∧ 6 + 3 = 9 := ⟨by decide +kernel, rfl⟩
theorem eX6_most_9 : decode cX6_most 9 = .ok (.ifCond .ne 6, 3) ∧ ((9 : Nat) : Int) + 6 = ((15 : Nat) : Int) ∧ 9 + 3 = 12 := ⟨by decide +kernel, by decide, rfl⟩
theorem eX6_most_12 : decode cX6_most 12 = .ok (.bipush (-2), 2) ∧ 12 + 2 = 14 := ⟨by decide +kernel, rfl⟩
theorem eX6_most_14 : decode cX6_most 14 = .ok (.ireturn, 1) := by decide +kernel
theorem eX6_most_15 : decode cX6_most 15 = .ok (.aload_n 0, 1) ∧ 15 + 1 = 16 := ⟨by decide +kernel, rfl⟩
theorem eX6_most_16 : decode cX6_most 16 = .ok (.iconst 0, 1) ∧ 16 + 1 = 17 := ⟨by decide +kernel, rfl⟩
theorem eX6_most_17 : decode cX6_most 17 = .ok (.aload_n 0, 1) ∧ 17 + 1 = 18 := ⟨by decide +kernel, rfl⟩
theorem eX6_most_18 : decode cX6_most 18 = .ok (.invokevirtual 141, 3) ∧ 18 + 3 = 21 := ⟨by decide +kernel, rfl⟩
theorem eX6_most_21 : decode cX6_most 21 = .ok (.invokevirtual 144, 3) ∧ 21 + 3 = 24 := ⟨by decide +kernel, rfl⟩
theorem eX6_most_24 : decode cX6_most 24 = .ok (.istore_n 2, 1) ∧ 24 + 1 = 25 := ⟨by decide +kernel, rfl⟩
theorem eX6_most_25 : decode cX6_most 25 = .ok (.iload_n 1, 1) ∧ 25 + 1 = 26 := ⟨by decide +kernel, rfl⟩
theorem eX6_most_26 : decode cX6_most 26 = .ok (.ifCond .ne 7, 3) ∧ ((26 : Nat) : Int) + 7 = ((33 : Nat) : Int) ∧ 26 + 3 = 29 := ⟨by decide +kernel, by decide, rfl⟩
theorem eX6_most_29 : decode cX6_most 29 = .ok (.iload_n 2, 1) ∧ 29 + 1 = 30 := ⟨by decide +kernel, rfl⟩
theorem eX6_most_30 : decode cX6_most 30 = .ok (.goto 21, 3) ∧ ((30 : Nat) : Int) + 21 = ((51 : Nat) : Int) := ⟨by decide +kernel, by decide⟩
theorem eX6_most_33 : decode cX6_most 33 = .ok (.iload_n 1, 1) ∧ 33 + 1 = 34 := ⟨by decide +kernel, rfl⟩
theorem eX6_most_34 : decode cX6_most 34 = .ok (.iconst 1, 1) ∧ 34 + 1 = 35 := ⟨by decide +kernel, rfl⟩
theorem eX6_most_35 : decode cX6_most 35 = .ok (.if_icmp .ne 11, 3) ∧ ((35 : Nat) : Int) + 11 = ((46 : Nat) : Int) ∧ 35 + 3 = 38 := ⟨by decide +kernel, by decide, rfl⟩
theorem eX6_most_38 : decode cX6_most 38 = .ok (.aload_n 0, 1) ∧ 38 + 1 = 39 := ⟨by decide +kernel, rfl⟩
theorem eX6_most_39 : decode cX6_most 39 = .ok (.iload_n 2, 1) ∧ 39 + 1 = 40 := ⟨by decide +kernel, rfl⟩
theorem eX6_most_40 : decode cX6_most 40 = .ok (.invokevirtual 149, 3) ∧ 40 + 3 = 43 := ⟨by decide +kernel, rfl⟩
theorem eX6_most_43 : decode cX6_most 43 = .ok (.goto 8, 3) ∧ ((43 : Nat) : Int) + 8 = ((51 : Nat) : Int) := ⟨by decide +kernel, by decide⟩
theorem eX6_most_46 : decode cX6_most 46 = .ok (.aload_n 0, 1) ∧ 46 + 1 = 47 := ⟨by decide +kernel, rfl⟩
theorem eX6_most_47 : decode cX6_most 47 = .ok (.iload_n 2, 1) ∧ 47 + 1 = 48 := ⟨by decide +kernel, rfl⟩
theorem eX6_most_48 : decode cX6_most 48 = .ok (.invokevirtual 152, 3) ∧ 48 + 3 = 51 := ⟨by decide +kernel, rfl⟩
theorem eX6_most_51 : decode cX6_most 51 = .ok (.ireturn, 1) := by decide +kernel
theorem eX6_slack_0 : decode cX6_slack 0 = .ok (.aload_n 0, 1) ∧ 0 + 1 = 1 := ⟨by decide +kernel, rfl⟩
theorem eX6_slack_1 : decode cX6_slack 1 = .ok (.iconst 0, 1) ∧ 1 + 1 = 2 := ⟨by decide +kernel, rfl⟩
theorem eX6_slack_2 : decode cX6_slack 2 = .ok (.aload_n 0, 1) ∧ 2 + 1 = 3 := ⟨by decide +kernel, rfl⟩
theorem eX6_slack_3 : decode cX6_slack 3 = .ok (.invokevirtual 141, 3) ∧ 3 + 3 = 6 := ⟨by decide +kernel, rfl⟩
theorem eX6_slack_6 : decode cX6_slack 6 = .ok (.invokevirtual 144, 3) ∧ 6 + 3 = 9 := ⟨by decide +kernel, rfl⟩
theorem eX6_slack_9 : decode cX6_slack 9 = .ok (.istore_n 1, 1) ∧ 9 + 1 = 10 := ⟨by decide +kernel, rfl⟩
theorem eX6_slack_10 : decode cX6_slack 10 = .ok (.iconst 1, 1) ∧ 10 + 1 = 11 := ⟨by decide +kernel, rfl⟩
theorem eX6_slack_11 : decode cX6_slack 11 = .ok (.istore_n 2, 1) ∧ 11 + 1 = 12 := ⟨by decide +kernel, rfl⟩
theorem eX6_slack_12 : decode cX6_slack 12 = .ok (.iload_n 2, 1) ∧ 12 + 1 = 13 := ⟨by decide +kernel, rfl⟩
theorem eX6_slack_13 : decode cX6_slack 13 = .ok (.bipush 10, 2) ∧ 13 + 2 = 15 := ⟨by decide +kernel, rfl⟩
theorem eX6_slack_15 : decode cX6_slack 15 = .ok (.if_icmp .ge 41, 3) ∧ ((15 : Nat) : Int) + 41 = ((56 : Nat) : Int) ∧ 15 + 3 = 18 := ⟨by decide +kernel, by decide, rfl⟩
theorem eX6_slack_18 : decode cX6_slack 18 = .ok (.aload_n 0, 1) ∧ 18 + 1 = 19 := ⟨by decide +kernel, rfl⟩
theorem eX6_slack_19 : decode cX6_slack 19 = .ok (.invokevirtual 137, 3) ∧ 19 + 3 = 22 := ⟨by decide +kernel, rfl⟩
theorem eX6_slack_22 : decode cX6_slack 22 = .ok (.aload_n 0, 1) ∧ 22 + 1 = 23 := ⟨by decide +kernel, rfl⟩
theorem eX6_slack_23 : decode cX6_slack 23 = .ok (.getfield 25, 3) ∧ 23 + 3 = 26 := ⟨by decide +kernel, rfl⟩
theorem eX6_slack_26 : decode cX6_slack 26 = .ok (.bipush 8, 2) ∧ 26 + 2 = 28 := ⟨by decide +kernel, rfl⟩
theorem eX6_slack_28 : decode cX6_slack 28 = .ok (.dup2, 1) ∧ 28 + 1 = 29 := ⟨by decide +kernel, rfl⟩
theorem eX6_slack_29 : decode cX6_slack 29 = .ok (.iaload, 1) ∧ 29 + 1 = 30 := ⟨by decide +kernel, rfl⟩
theorem eX6_slack_30 : decode cX6_slack 30 = .ok (.iload_n 2, 1) ∧ 30 + 1 = 31 := ⟨by decide +kernel, rfl⟩
theorem eX6_slack_31 : decode cX6_slack 31 = .ok (.iadd, 1) ∧ 31 + 1 = 32 := ⟨by decide +kernel, rfl⟩
theorem eX6_slack_32 : decode cX6_slack 32 = .ok (.iastore, 1) ∧ 32 + 1 = 33 := ⟨by decide +kernel, rfl⟩
theorem eX6_slack_33 : decode cX6_slack 33 = .ok (.aload_n 0, 1) ∧ 33 + 1 = 34 := ⟨by decide +kernel, rfl⟩
theorem eX6_slack_34 : decode cX6_slack 34 = .ok (.iconst 1, 1) ∧ 34 + 1 = 35 := ⟨by decide +kernel, rfl⟩
theorem eX6_slack_35 : decode cX6_slack 35 = .ok (.aload_n 0, 1) ∧ 35 + 1 = 36 := ⟨by decide +kernel, rfl⟩
theorem eX6_slack_36 : decode cX6_slack 36 = .ok (.invokevirtual 141, 3) ∧ 36 + 3 = 39 := ⟨by decide +kernel, rfl⟩
theorem eX6_slack_39 : decode cX6_slack 39 = .ok (.invokevirtual 144, 3) ∧ 39 + 3 = 42 := ⟨by decide +kernel, rfl⟩
theorem eX6_slack_42 : decode cX6_slack 42 = .ok (.iload_n 1, 1) ∧ 42 + 1 = 43 := ⟨by decide +kernel, rfl⟩
theorem eX6_slack_43 : decode cX6_slack 43 = .ok (.if_icmp .ge 7, 3) ∧ ((43 : Nat) : Int) + 7 = ((50 : Nat) : Int) ∧ 43 + 3 = 46 := ⟨by decide +kernel, by decide, rfl⟩
theorem eX6_slack_46 : decode cX6_slack 46 = .ok (.iload_n 2, 1) ∧ 46 + 1 = 47 := ⟨by decide +kernel, rfl⟩
theorem eX6_slack_47 : decode cX6_slack 47 = .ok (.iconst 1, 1) ∧ 47 + 1 = 48 := ⟨by decide +kernel, rfl⟩
theorem eX6_slack_48 : decode cX6_slack 48 = .ok (.isub, 1) ∧ 48 + 1 = 49 := ⟨by decide +kernel, rfl⟩
theorem eX6_slack_49 : decode cX6_slack 49 = .ok (.ireturn, 1) := by decide +kernel
theorem eX6_slack_50 : decode cX6_slack 50 = .ok (.iinc 2 1, 3) ∧ 50 + 3 = 53 := ⟨by decide +kernel, rfl⟩
theorem eX6_slack_53 : decode cX6_slack 53 = .ok (.goto (-41), 3) ∧ ((53 : Nat) : Int) + (-41) = ((12 : Nat) : Int) := ⟨by decide +kernel, by decide⟩
theorem eX6_slack_56 : decode cX6_slack 56 = .ok (.bipush 9, 2) ∧ 56 + 2 = 58 := ⟨by decide +kernel, rfl⟩
theorem eX6_slack_58 : decode cX6_slack 58 = .ok (.ireturn, 1) := by decide +kernel
theorem eX6_mending_0 : decode cX6_mending 0 = .ok (.bipush (-9), 2) ∧ 0 + 2 = 2 := ⟨by decide +kernel, rfl⟩
theorem eX6_mending_2 : decode cX6_mending 2 = .ok (.istore_n 2, 1) ∧ 2 + 1 = 3 := ⟨by decide +kernel, rfl⟩
theorem eX6_mending_3 : decode cX6_mending 3 = .ok (.bipush (-9), 2) ∧ 3 + 2 = 5 := ⟨by decide +kernel, rfl⟩
theorem eX6_mending_5 : decode cX6_mending 5 = .ok (.istore_n 3, 1) ∧ 5 + 1 = 6 := ⟨by decide +kernel, rfl⟩
theorem eX6_mending_6 : decode cX6_mending 6 = .ok (.iconst 0, 1) ∧ 6 + 1 = 7 := ⟨by decide +kernel, rfl⟩
theorem eX6_mending_7 : decode cX6_mending 7 = .ok (.istore 4, 2) ∧ 7 + 2 = 9 := ⟨by decide +kernel, rfl⟩
theorem eX6_mending_9 : decode cX6_mending 9 = .ok (.iload 4, 2) ∧ 9 + 2 = 11 := ⟨by decide +kernel, rfl⟩
theorem eX6_mending_11 : decode cX6_mending 11 = .ok (.iconst 5, 1) ∧ 11 + 1 = 12 := ⟨by decide +kernel, rfl⟩
theorem eX6_mending_12 : decode cX6_mending 12 = .ok (.if_icmp .ge 76, 3) ∧ ((12 : Nat) : Int) + 76 = ((88 : Nat) : Int) ∧ 12 + 3 = 15 := ⟨by decide +kernel, by decide, rfl⟩
theorem eX6_mending_15 : decode cX6_mending 15 = .ok (.aload_n 0, 1) ∧ 15 + 1 = 16 := ⟨by decide +kernel, rfl⟩
theorem eX6_mending_16 : decode cX6_mending 16 = .ok (.getfield 25, 3) ∧ 16 + 3 = 19 := ⟨by decide +kernel, rfl⟩
theorem eX6_mending_19 : decode cX6_mending 19 = .ok (.iconst 3, 1) ∧ 19 + 1 = 20 := ⟨by decide +kernel, rfl⟩
theorem eX6_mending_20 : decode cX6_mending 20 = .ok (.iload 4, 2) ∧ 20 + 2 = 22 := ⟨by decide +kernel, rfl⟩
theorem eX6_mending_22 : decode cX6_mending 22 = .ok (.iadd, 1) ∧ 22 + 1 = 23 := ⟨by decide +kernel, rfl⟩
theorem eX6_mending_23 : decode cX6_mending 23 = .ok (.iaload, 1) ∧ 23 + 1 = 24 := ⟨by decide +kernel, rfl⟩
theorem eX6_mending_24 : decode cX6_mending 24 = .ok (.ifCond .le 58, 3) ∧ ((24 : Nat) : Int) + 58 = ((82 : Nat) : Int) ∧ 24 + 3 = 27 := ⟨by decide +kernel, by decide, rfl⟩
theorem eX6_mending_27 : decode cX6_mending 27 = .ok (.aload_n 0, 1) ∧ 27 + 1 = 28 := ⟨by decide +kernel, rfl⟩
theorem eX6_mending_28 : decode cX6_mending 28 = .ok (.invokevirtual 137, 3) ∧ 28 + 3 = 31 := ⟨by decide +kernel, rfl⟩
theorem eX6_mending_31 : decode cX6_mending 31 = .ok (.aload_n 0, 1) ∧ 31 + 1 = 32 := ⟨by decide +kernel, rfl⟩
theorem eX6_mending_32 : decode cX6_mending 32 = .ok (.getfield 25, 3) ∧ 32 + 3 = 35 := ⟨by decide +kernel, rfl⟩
theorem eX6_mending_35 : decode cX6_mending 35 = .ok (.bipush 11, 2) ∧ 35 + 2 = 37 := ⟨by decide +kernel, rfl⟩
theorem eX6_mending_37 : decode cX6_mending 37 = .ok (.iload 4, 2) ∧ 37 + 2 = 39 := ⟨by decide +kernel, rfl⟩
theorem eX6_mending_39 : decode cX6_mending 39 = .ok (.iadd, 1) ∧ 39 + 1 = 40 := ⟨by decide +kernel, rfl⟩
theorem eX6_mending_40 : decode cX6_mending 40 = .ok (.dup2, 1) ∧ 40 + 1 = 41 := ⟨by decide +kernel, rfl⟩
theorem eX6_mending_41 : decode cX6_mending 41 = .ok (.iaload, 1) ∧ 41 + 1 = 42 := ⟨by decide +kernel, rfl⟩
theorem eX6_mending_42 : decode cX6_mending 42 = .ok (.iconst 1, 1) ∧ 42 + 1 = 43 := ⟨by decide +kernel, rfl⟩
theorem eX6_mending_43 : decode cX6_mending 43 = .ok (.isub, 1) ∧ 43 + 1 = 44 := ⟨by decide +kernel, rfl⟩
theorem eX6_mending_44 : decode cX6_mending 44 = .ok (.iastore, 1) ∧ 44 + 1 = 45 := ⟨by decide +kernel, rfl⟩
theorem eX6_mending_45 : decode cX6_mending 45 = .ok (.aload_n 0, 1) ∧ 45 + 1 = 46 := ⟨by decide +kernel, rfl⟩
theorem eX6_mending_46 : decode cX6_mending 46 = .ok (.iconst 1, 1) ∧ 46 + 1 = 47 := ⟨by decide +kernel, rfl⟩
theorem eX6_mending_47 : decode cX6_mending 47 = .ok (.aload_n 0, 1) ∧ 47 + 1 = 48 := ⟨by decide +kernel, rfl⟩
theorem eX6_mending_48 : decode cX6_mending 48 = .ok (.invokevirtual 141, 3) ∧ 48 + 3 = 51 := ⟨by decide +kernel, rfl⟩
theorem eX6_mending_51 : decode cX6_mending 51 = .ok (.invokevirtual 144, 3) ∧ 51 + 3 = 54 := ⟨by decide +kernel, rfl⟩
theorem eX6_mending_54 : decode cX6_mending 54 = .ok (.istore 5, 2) ∧ 54 + 2 = 56 := ⟨by decide +kernel, rfl⟩
theorem eX6_mending_56 : decode cX6_mending 56 = .ok (.iload 5, 2) ∧ 56 + 2 = 58 := ⟨by decide +kernel, rfl⟩
theorem eX6_mending_58 : decode cX6_mending 58 = .ok (.iload_n 3, 1) ∧ 58 + 1 = 59 := ⟨by decide +kernel, rfl⟩
theorem eX6_mending_59 : decode cX6_mending 59 = .ok (.if_icmp .le 8, 3) ∧ ((59 : Nat) : Int) + 8 = ((67 : Nat) : Int) ∧ 59 + 3 = 62 := ⟨by decide +kernel, by decide, rfl⟩
theorem eX6_mending_62 : decode cX6_mending 62 = .ok (.iload 4, 2) ∧ 62 + 2 = 64 := ⟨by decide +kernel, rfl⟩
theorem eX6_mending_64 : decode cX6_mending 64 = .ok (.goto 4, 3) ∧ ((64 : Nat) : Int) + 4 = ((68 : Nat) : Int) := ⟨by decide +kernel, by decide⟩
theorem eX6_mending_67 : decode cX6_mending 67 = .ok (.iload_n 2, 1) ∧ 67 + 1 = 68 := ⟨by decide +kernel, rfl⟩
theorem eX6_mending_68 : decode cX6_mending 68 = .ok (.istore_n 2, 1) ∧ 68 + 1 = 69 := ⟨by decide +kernel, rfl⟩
theorem eX6_mending_69 : decode cX6_mending 69 = .ok (.iload 5, 2) ∧ 69 + 2 = 71 := ⟨by decide +kernel, rfl⟩
theorem eX6_mending_71 : decode cX6_mending 71 = .ok (.iload_n 3, 1) ∧ 71 + 1 = 72 := ⟨by decide +kernel, rfl⟩
theorem eX6_mending_72 : decode cX6_mending 72 = .ok (.if_icmp .le 8, 3) ∧ ((72 : Nat) : Int) + 8 = ((80 : Nat) : Int) ∧ 72 + 3 = 75 := ⟨by decide +kernel, by decide, rfl⟩
theorem eX6_mending_75 : decode cX6_mending 75 = .ok (.iload 5, 2) ∧ 75 + 2 = 77 := ⟨by decide +kernel, rfl⟩
theorem eX6_mending_77 : decode cX6_mending 77 = .ok (.goto 4, 3) ∧ ((77 : Nat) : Int) + 4 = ((81 : Nat) : Int) := ⟨by decide +kernel, by decide⟩
theorem eX6_mending_80 : decode cX6_mending 80 = .ok (.iload_n 3, 1) ∧ 80 + 1 = 81 := ⟨by decide +kernel, rfl⟩
theorem eX6_mending_81 : decode cX6_mending 81 = .ok (.istore_n 3, 1) ∧ 81 + 1 = 82 := ⟨by decide +kernel, rfl⟩
theorem eX6_mending_82 : decode cX6_mending 82 = .ok (.iinc 4 1, 3) ∧ 82 + 3 = 85 := ⟨by decide +kernel, rfl⟩
theorem eX6_mending_85 : decode cX6_mending 85 = .ok (.goto (-76), 3) ∧ ((85 : Nat) : Int) + (-76) = ((9 : Nat) : Int) := ⟨by decide +kernel, by decide⟩
theorem eX6_mending_88 : decode cX6_mending 88 = .ok (.iload_n 1, 1) ∧ 88 + 1 = 89 := ⟨by decide +kernel, rfl⟩
theorem eX6_mending_89 : decode cX6_mending 89 = .ok (.ifCond .eq 7, 3) ∧ ((89 : Nat) : Int) + 7 = ((96 : Nat) : Int) ∧ 89 + 3 = 92 := ⟨by decide +kernel, by decide, rfl⟩
theorem eX6_mending_92 : decode cX6_mending 92 = .ok (.iload_n 3, 1) ∧ 92 + 1 = 93 := ⟨by decide +kernel, rfl⟩
theorem eX6_mending_93 : decode cX6_mending 93 = .ok (.goto 4, 3) ∧ ((93 : Nat) : Int) + 4 = ((97 : Nat) : Int) := ⟨by decide +kernel, by decide⟩
theorem eX6_mending_96 : decode cX6_mending 96 = .ok (.iload_n 2, 1) ∧ 96 + 1 = 97 := ⟨by decide +kernel, rfl⟩
theorem eX6_mending_97 : decode cX6_mending 97 = .ok (.ireturn, 1) := by decide +kernel
theorem eX6_tenTo_0 : decode cX6_tenTo 0 = .ok (.iconst 1, 1) ∧ 0 + 1 = 1 := ⟨by decide +kernel, rfl⟩
theorem eX6_tenTo_1 : decode cX6_tenTo 1 = .ok (.istore_n 1, 1) ∧ 1 + 1 = 2 := ⟨by decide +kernel, rfl⟩
theorem eX6_tenTo_2 : decode cX6_tenTo 2 = .ok (.iconst 0, 1) ∧ 2 + 1 = 3 := ⟨by decide +kernel, rfl⟩
theorem eX6_tenTo_3 : decode cX6_tenTo 3 = .ok (.istore_n 2, 1) ∧ 3 + 1 = 4 := ⟨by decide +kernel, rfl⟩
theorem eX6_tenTo_4 : decode cX6_tenTo 4 = .ok (.iload_n 2, 1) ∧ 4 + 1 = 5 := ⟨by decide +kernel, rfl⟩
theorem eX6_tenTo_5 : decode cX6_tenTo 5 = .ok (.iload_n 0, 1) ∧ 5 + 1 = 6 := ⟨by decide +kernel, rfl⟩
theorem eX6_tenTo_6 : decode cX6_tenTo 6 = .ok (.if_icmp .ge 14, 3) ∧ ((6 : Nat) : Int) + 14 = ((20 : Nat) : Int) ∧ 6 + 3 = 9 := ⟨by decide +kernel, by decide, rfl⟩
theorem eX6_tenTo_9 : decode cX6_tenTo 9 = .ok (.iload_n 1, 1) ∧ 9 + 1 = 10 := ⟨by decide +kernel, rfl⟩
theorem eX6_tenTo_10 : decode cX6_tenTo 10 = .ok (.bipush 10, 2) ∧ 10 + 2 = 12 := ⟨by decide +kernel, rfl⟩
theorem eX6_tenTo_12 : decode cX6_tenTo 12 = .ok (.imul, 1) ∧ 12 + 1 = 13 := ⟨by decide +kernel, rfl⟩
theorem eX6_tenTo_13 : decode cX6_tenTo 13 = .ok (.istore_n 1, 1) ∧ 13 + 1 = 14 := ⟨by decide +kernel, rfl⟩
theorem eX6_tenTo_14 : decode cX6_tenTo 14 = .ok (.iinc 2 1, 3) ∧ 14 + 3 = 17 := ⟨by decide +kernel, rfl⟩
theorem eX6_tenTo_17 : decode cX6_tenTo 17 = .ok (.goto (-13), 3) ∧ ((17 : Nat) : Int) + (-13) = ((4 : Nat) : Int) := ⟨by decide +kernel, by decide⟩
theorem eX6_tenTo_20 : decode cX6_tenTo 20 = .ok (.iload_n 1, 1) ∧ 20 + 1 = 21 := ⟨by decide +kernel, rfl⟩
theorem eX6_tenTo_21 : decode cX6_tenTo 21 = .ok (.ireturn, 1) := by decide +kernel
theorem eX6_judge_0 : decode cX6_judge 0 = .ok (.iload_n 1, 1) ∧ 0 + 1 = 1 := ⟨by decide +kernel, rfl⟩
theorem eX6_judge_1 : decode cX6_judge 1 = .ok (.i2l, 1) ∧ 1 + 1 = 2 := ⟨by decide +kernel, rfl⟩
theorem eX6_judge_2 : decode cX6_judge 2 = .ok (.lconst 1, 1) ∧ 2 + 1 = 3 := ⟨by decide +kernel, rfl⟩
theorem eX6_judge_3 : decode cX6_judge 3 = .ok (.ldc2_w 155, 3) ∧ 3 + 3 = 6 := ⟨by decide +kernel, rfl⟩
theorem eX6_judge_6 : decode cX6_judge 6 = .ok (.invokestatic 59, 3) ∧ 6 + 3 = 9 := ⟨by decide +kernel, rfl⟩
theorem eX6_judge_9 : decode cX6_judge 9 = .ok (.ifCond .eq 19, 3) ∧ ((9 : Nat) : Int) + 19 = ((28 : Nat) : Int) ∧ 9 + 3 = 12 := ⟨by decide +kernel, by decide, rfl⟩
theorem eX6_judge_12 : decode cX6_judge 12 = .ok (.iload_n 2, 1) ∧ 12 + 1 = 13 := ⟨by decide +kernel, rfl⟩
theorem eX6_judge_13 : decode cX6_judge 13 = .ok (.i2l, 1) ∧ 13 + 1 = 14 := ⟨by decide +kernel, rfl⟩
theorem eX6_judge_14 : decode cX6_judge 14 = .ok (.lconst 0, 1) ∧ 14 + 1 = 15 := ⟨by decide +kernel, rfl⟩
theorem eX6_judge_15 : decode cX6_judge 15 = .ok (.iload_n 1, 1) ∧ 15 + 1 = 16 := ⟨by decide +kernel, rfl⟩
theorem eX6_judge_16 : decode cX6_judge 16 = .ok (.invokestatic 157, 3) ∧ 16 + 3 = 19 := ⟨by decide +kernel, rfl⟩
theorem eX6_judge_19 : decode cX6_judge 19 = .ok (.iconst 1, 1) ∧ 19 + 1 = 20 := ⟨by decide +kernel, rfl⟩
theorem eX6_judge_20 : decode cX6_judge 20 = .ok (.isub, 1) ∧ 20 + 1 = 21 := ⟨by decide +kernel, rfl⟩
theorem eX6_judge_21 : decode cX6_judge 21 = .ok (.i2l, 1) ∧ 21 + 1 = 22 := ⟨by decide +kernel, rfl⟩
theorem eX6_judge_22 : decode cX6_judge 22 = .ok (.invokestatic 59, 3) ∧ 22 + 3 = 25 := ⟨by decide +kernel, rfl⟩
theorem eX6_judge_25 : decode cX6_judge 25 = .ok (.ifCond .ne 6, 3) ∧ ((25 : Nat) : Int) + 6 = ((31 : Nat) : Int) ∧ 25 + 3 = 28 := ⟨by decide +kernel, by decide, rfl⟩
theorem eX6_judge_28 : decode cX6_judge 28 = .ok (.bipush (-2), 2) ∧ 28 + 2 = 30 := ⟨by decide +kernel, rfl⟩
theorem eX6_judge_30 : decode cX6_judge 30 = .ok (.ireturn, 1) := by decide +kernel
theorem eX6_judge_31 : decode cX6_judge 31 = .ok (.aload_n 0, 1) ∧ 31 + 1 = 32 := ⟨by decide +kernel, rfl⟩
theorem eX6_judge_32 : decode cX6_judge 32 = .ok (.invokevirtual 137, 3) ∧ 32 + 3 = 35 := ⟨by decide +kernel, rfl⟩
theorem eX6_judge_35 : decode cX6_judge 35 = .ok (.iconst 0, 1) ∧ 35 + 1 = 36 := ⟨by decide +kernel, rfl⟩
theorem eX6_judge_36 : decode cX6_judge 36 = .ok (.istore_n 3, 1) ∧ 36 + 1 = 37 := ⟨by decide +kernel, rfl⟩
theorem eX6_judge_37 : decode cX6_judge 37 = .ok (.iload_n 3, 1) ∧ 37 + 1 = 38 := ⟨by decide +kernel, rfl⟩
theorem eX6_judge_38 : decode cX6_judge 38 = .ok (.iload_n 1, 1) ∧ 38 + 1 = 39 := ⟨by decide +kernel, rfl⟩
theorem eX6_judge_39 : decode cX6_judge 39 = .ok (.if_icmp .ge 47, 3) ∧ ((39 : Nat) : Int) + 47 = ((86 : Nat) : Int) ∧ 39 + 3 = 42 := ⟨by decide +kernel, by decide, rfl⟩
theorem eX6_judge_42 : decode cX6_judge 42 = .ok (.iload_n 2, 1) ∧ 42 + 1 = 43 := ⟨by decide +kernel, rfl⟩
theorem eX6_judge_43 : decode cX6_judge 43 = .ok (.iload_n 1, 1) ∧ 43 + 1 = 44 := ⟨by decide +kernel, rfl⟩
theorem eX6_judge_44 : decode cX6_judge 44 = .ok (.iconst 1, 1) ∧ 44 + 1 = 45 := ⟨by decide +kernel, rfl⟩
theorem eX6_judge_45 : decode cX6_judge 45 = .ok (.isub, 1) ∧ 45 + 1 = 46 := ⟨by decide +kernel, rfl⟩
theorem eX6_judge_46 : decode cX6_judge 46 = .ok (.iload_n 3, 1) ∧ 46 + 1 = 47 := ⟨by decide +kernel, rfl⟩
theorem eX6_judge_47 : decode cX6_judge 47 = .ok (.isub, 1) ∧ 47 + 1 = 48 := ⟨by decide +kernel, rfl⟩
theorem eX6_judge_48 : decode cX6_judge 48 = .ok (.invokestatic 157, 3) ∧ 48 + 3 = 51 := ⟨by decide +kernel, rfl⟩
theorem eX6_judge_51 : decode cX6_judge 51 = .ok (.idiv, 1) ∧ 51 + 1 = 52 := ⟨by decide +kernel, rfl⟩
theorem eX6_judge_52 : decode cX6_judge 52 = .ok (.bipush 10, 2) ∧ 52 + 2 = 54 := ⟨by decide +kernel, rfl⟩
theorem eX6_judge_54 : decode cX6_judge 54 = .ok (.irem, 1) ∧ 54 + 1 = 55 := ⟨by decide +kernel, rfl⟩
theorem eX6_judge_55 : decode cX6_judge 55 = .ok (.iconst 1, 1) ∧ 55 + 1 = 56 := ⟨by decide +kernel, rfl⟩
theorem eX6_judge_56 : decode cX6_judge 56 = .ok (.isub, 1) ∧ 56 + 1 = 57 := ⟨by decide +kernel, rfl⟩
theorem eX6_judge_57 : decode cX6_judge 57 = .ok (.istore 4, 2) ∧ 57 + 2 = 59 := ⟨by decide +kernel, rfl⟩
theorem eX6_judge_59 : decode cX6_judge 59 = .ok (.aload_n 0, 1) ∧ 59 + 1 = 60 := ⟨by decide +kernel, rfl⟩
theorem eX6_judge_60 : decode cX6_judge 60 = .ok (.iload 4, 2) ∧ 60 + 2 = 62 := ⟨by decide +kernel, rfl⟩
theorem eX6_judge_62 : decode cX6_judge 62 = .ok (.invokevirtual 109, 3) ∧ 62 + 3 = 65 := ⟨by decide +kernel, rfl⟩
theorem eX6_judge_65 : decode cX6_judge 65 = .ok (.ifCond .eq 13, 3) ∧ ((65 : Nat) : Int) + 13 = ((78 : Nat) : Int) ∧ 65 + 3 = 68 := ⟨by decide +kernel, by decide, rfl⟩
theorem eX6_judge_68 : decode cX6_judge 68 = .ok (.aload_n 0, 1) ∧ 68 + 1 = 69 := ⟨by decide +kernel, rfl⟩
theorem eX6_judge_69 : decode cX6_judge 69 = .ok (.iconst 1, 1) ∧ 69 + 1 = 70 := ⟨by decide +kernel, rfl⟩
theorem eX6_judge_70 : decode cX6_judge 70 = .ok (.iload 4, 2) ∧ 70 + 2 = 72 := ⟨by decide +kernel, rfl⟩
theorem eX6_judge_72 : decode cX6_judge 72 = .ok (.invokevirtual 123, 3) ∧ 72 + 3 = 75 := ⟨by decide +kernel, rfl⟩
theorem eX6_judge_75 : decode cX6_judge 75 = .ok (.ifCond .ne 5, 3) ∧ ((75 : Nat) : Int) + 5 = ((80 : Nat) : Int) ∧ 75 + 3 = 78 := ⟨by decide +kernel, by decide, rfl⟩
theorem eX6_judge_78 : decode cX6_judge 78 = .ok (.iload_n 3, 1) ∧ 78 + 1 = 79 := ⟨by decide +kernel, rfl⟩
theorem eX6_judge_79 : decode cX6_judge 79 = .ok (.ireturn, 1) := by decide +kernel
theorem eX6_judge_80 : decode cX6_judge 80 = .ok (.iinc 3 1, 3) ∧ 80 + 3 = 83 := ⟨by decide +kernel, rfl⟩
theorem eX6_judge_83 : decode cX6_judge 83 = .ok (.goto (-46), 3) ∧ ((83 : Nat) : Int) + (-46) = ((37 : Nat) : Int) := ⟨by decide +kernel, by decide⟩
theorem eX6_judge_86 : decode cX6_judge 86 = .ok (.bipush (-9), 2) ∧ 86 + 2 = 88 := ⟨by decide +kernel, rfl⟩
theorem eX6_judge_88 : decode cX6_judge 88 = .ok (.ireturn, 1) := by decide +kernel
theorem eX6_later_0 : decode cX6_later 0 = .ok (.aload_n 0, 1) ∧ 0 + 1 = 1 := ⟨by decide +kernel, rfl⟩
theorem eX6_later_1 : decode cX6_later 1 = .ok (.iload_n 1, 1) ∧ 1 + 1 = 2 := ⟨by decide +kernel, rfl⟩
theorem eX6_later_2 : decode cX6_later 2 = .ok (.invokevirtual 109, 3) ∧ 2 + 3 = 5 := ⟨by decide +kernel, rfl⟩
theorem eX6_later_5 : decode cX6_later 5 = .ok (.ifCond .ne 5, 3) ∧ ((5 : Nat) : Int) + 5 = ((10 : Nat) : Int) ∧ 5 + 3 = 8 := ⟨by decide +kernel, by decide, rfl⟩
theorem eX6_later_8 : decode cX6_later 8 = .ok (.iconst (-1), 1) ∧ 8 + 1 = 9 := ⟨by decide +kernel, rfl⟩
theorem eX6_later_9 : decode cX6_later 9 = .ok (.ireturn, 1) := by decide +kernel
theorem eX6_later_10 : decode cX6_later 10 = .ok (.aload_n 0, 1) ∧ 10 + 1 = 11 := ⟨by decide +kernel, rfl⟩
theorem eX6_later_11 : decode cX6_later 11 = .ok (.getfield 25, 3) ∧ 11 + 3 = 14 := ⟨by decide +kernel, rfl⟩
theorem eX6_later_14 : decode cX6_later 14 = .ok (.iconst 2, 1) ∧ 14 + 1 = 15 := ⟨by decide +kernel, rfl⟩
theorem eX6_later_15 : decode cX6_later 15 = .ok (.iaload, 1) ∧ 15 + 1 = 16 := ⟨by decide +kernel, rfl⟩
theorem eX6_later_16 : decode cX6_later 16 = .ok (.iload_n 1, 1) ∧ 16 + 1 = 17 := ⟨by decide +kernel, rfl⟩
theorem eX6_later_17 : decode cX6_later 17 = .ok (.invokestatic 94, 3) ∧ 17 + 3 = 20 := ⟨by decide +kernel, rfl⟩
theorem eX6_later_20 : decode cX6_later 20 = .ok (.ifCond .eq 6, 3) ∧ ((20 : Nat) : Int) + 6 = ((26 : Nat) : Int) ∧ 20 + 3 = 23 := ⟨by decide +kernel, by decide, rfl⟩
theorem eX6_later_23 : decode cX6_later 23 = .ok (.bipush (-3), 2) ∧ 23 + 2 = 25 := ⟨by decide +kernel, rfl⟩
theorem eX6_later_25 : decode cX6_later 25 = .ok (.ireturn, 1) := by decide +kernel
theorem eX6_later_26 : decode cX6_later 26 = .ok (.bipush (-9), 2) ∧ 26 + 2 = 28 := ⟨by decide +kernel, rfl⟩
theorem eX6_later_28 : decode cX6_later 28 = .ok (.istore_n 2, 1) ∧ 28 + 1 = 29 := ⟨by decide +kernel, rfl⟩
theorem eX6_later_29 : decode cX6_later 29 = .ok (.iconst 0, 1) ∧ 29 + 1 = 30 := ⟨by decide +kernel, rfl⟩
theorem eX6_later_30 : decode cX6_later 30 = .ok (.istore_n 3, 1) ∧ 30 + 1 = 31 := ⟨by decide +kernel, rfl⟩
theorem eX6_later_31 : decode cX6_later 31 = .ok (.iload_n 3, 1) ∧ 31 + 1 = 32 := ⟨by decide +kernel, rfl⟩
theorem eX6_later_32 : decode cX6_later 32 = .ok (.bipush 10, 2) ∧ 32 + 2 = 34 := ⟨by decide +kernel, rfl⟩
theorem eX6_later_34 : decode cX6_later 34 = .ok (.if_icmp .ge 34, 3) ∧ ((34 : Nat) : Int) + 34 = ((68 : Nat) : Int) ∧ 34 + 3 = 37 := ⟨by decide +kernel, by decide, rfl⟩
theorem eX6_later_37 : decode cX6_later 37 = .ok (.aload_n 0, 1) ∧ 37 + 1 = 38 := ⟨by decide +kernel, rfl⟩
theorem eX6_later_38 : decode cX6_later 38 = .ok (.iconst 0, 1) ∧ 38 + 1 = 39 := ⟨by decide +kernel, rfl⟩
theorem eX6_later_39 : decode cX6_later 39 = .ok (.iload_n 1, 1) ∧ 39 + 1 = 40 := ⟨by decide +kernel, rfl⟩
theorem eX6_later_40 : decode cX6_later 40 = .ok (.aload_n 0, 1) ∧ 40 + 1 = 41 := ⟨by decide +kernel, rfl⟩
theorem eX6_later_41 : decode cX6_later 41 = .ok (.getfield 25, 3) ∧ 41 + 3 = 44 := ⟨by decide +kernel, rfl⟩
theorem eX6_later_44 : decode cX6_later 44 = .ok (.iconst 1, 1) ∧ 44 + 1 = 45 := ⟨by decide +kernel, rfl⟩
theorem eX6_later_45 : decode cX6_later 45 = .ok (.iaload, 1) ∧ 45 + 1 = 46 := ⟨by decide +kernel, rfl⟩
theorem eX6_later_46 : decode cX6_later 46 = .ok (.iload_n 3, 1) ∧ 46 + 1 = 47 := ⟨by decide +kernel, rfl⟩
theorem eX6_later_47 : decode cX6_later 47 = .ok (.iconst 0, 1) ∧ 47 + 1 = 48 := ⟨by decide +kernel, rfl⟩
theorem eX6_later_48 : decode cX6_later 48 = .ok (.invokevirtual 98, 3) ∧ 48 + 3 = 51 := ⟨by decide +kernel, rfl⟩
theorem eX6_later_51 : decode cX6_later 51 = .ok (.bipush (-9), 2) ∧ 51 + 2 = 53 := ⟨by decide +kernel, rfl⟩
theorem eX6_later_53 : decode cX6_later 53 = .ok (.if_icmp .eq 7, 3) ∧ ((53 : Nat) : Int) + 7 = ((60 : Nat) : Int) ∧ 53 + 3 = 56 := ⟨by decide +kernel, by decide, rfl⟩
theorem eX6_later_56 : decode cX6_later 56 = .ok (.iload_n 3, 1) ∧ 56 + 1 = 57 := ⟨by decide +kernel, rfl⟩
theorem eX6_later_57 : decode cX6_later 57 = .ok (.goto 4, 3) ∧ ((57 : Nat) : Int) + 4 = ((61 : Nat) : Int) := ⟨by decide +kernel, by decide⟩
theorem eX6_later_60 : decode cX6_later 60 = .ok (.iload_n 2, 1) ∧ 60 + 1 = 61 := ⟨by decide +kernel, rfl⟩
theorem eX6_later_61 : decode cX6_later 61 = .ok (.istore_n 2, 1) ∧ 61 + 1 = 62 := ⟨by decide +kernel, rfl⟩
theorem eX6_later_62 : decode cX6_later 62 = .ok (.iinc 3 1, 3) ∧ 62 + 3 = 65 := ⟨by decide +kernel, rfl⟩
theorem eX6_later_65 : decode cX6_later 65 = .ok (.goto (-34), 3) ∧ ((65 : Nat) : Int) + (-34) = ((31 : Nat) : Int) := ⟨by decide +kernel, by decide⟩
theorem eX6_later_68 : decode cX6_later 68 = .ok (.iload_n 2, 1) ∧ 68 + 1 = 69 := ⟨by decide +kernel, rfl⟩
theorem eX6_later_69 : decode cX6_later 69 = .ok (.ireturn, 1) := by decide +kernel
theorem eX6_see_0 : decode cX6_see 0 = .ok (.iload_n 2, 1) ∧ 0 + 1 = 1 := ⟨by decide +kernel, rfl⟩
theorem eX6_see_1 : decode cX6_see 1 = .ok (.invokestatic 114, 3) ∧ 1 + 3 = 4 := ⟨by decide +kernel, rfl⟩
theorem eX6_see_4 : decode cX6_see 4 = .ok (.ifCond .ne 5, 3) ∧ ((4 : Nat) : Int) + 5 = ((9 : Nat) : Int) ∧ 4 + 3 = 7 := ⟨by decide +kernel, by decide, rfl⟩
theorem eX6_see_7 : decode cX6_see 7 = .ok (.iconst (-1), 1) ∧ 7 + 1 = 8 := ⟨by decide +kernel, rfl⟩
theorem eX6_see_8 : decode cX6_see 8 = .ok (.ireturn, 1) := by decide +kernel
theorem eX6_see_9 : decode cX6_see 9 = .ok (.iload_n 1, 1) ∧ 9 + 1 = 10 := ⟨by decide +kernel, rfl⟩
theorem eX6_see_10 : decode cX6_see 10 = .ok (.i2l, 1) ∧ 10 + 1 = 11 := ⟨by decide +kernel, rfl⟩
theorem eX6_see_11 : decode cX6_see 11 = .ok (.lconst 0, 1) ∧ 11 + 1 = 12 := ⟨by decide +kernel, rfl⟩
theorem eX6_see_12 : decode cX6_see 12 = .ok (.ldc2_w 155, 3) ∧ 12 + 3 = 15 := ⟨by decide +kernel, rfl⟩
theorem eX6_see_15 : decode cX6_see 15 = .ok (.invokestatic 59, 3) ∧ 15 + 3 = 18 := ⟨by decide +kernel, rfl⟩
theorem eX6_see_18 : decode cX6_see 18 = .ok (.ifCond .ne 6, 3) ∧ ((18 : Nat) : Int) + 6 = ((24 : Nat) : Int) ∧ 18 + 3 = 21 := ⟨by decide +kernel, by decide, rfl⟩
theorem eX6_see_21 : decode cX6_see 21 = .ok (.bipush (-2), 2) ∧ 21 + 2 = 23 := ⟨by decide +kernel, rfl⟩
theorem eX6_see_23 : decode cX6_see 23 = .ok (.ireturn, 1) := by decide +kernel
theorem eX6_see_24 : decode cX6_see 24 = .ok (.aload_n 0, 1) ∧ 24 + 1 = 25 := ⟨by decide +kernel, rfl⟩
theorem eX6_see_25 : decode cX6_see 25 = .ok (.getfield 160, 3) ∧ 25 + 3 = 28 := ⟨by decide +kernel, rfl⟩
theorem eX6_see_28 : decode cX6_see 28 = .ok (.bipush 6, 2) ∧ 28 + 2 = 30 := ⟨by decide +kernel, rfl⟩
theorem eX6_see_30 : decode cX6_see 30 = .ok (.if_icmp .ne 6, 3) ∧ ((30 : Nat) : Int) + 6 = ((36 : Nat) : Int) ∧ 30 + 3 = 33 := ⟨by decide +kernel, by decide, rfl⟩
theorem eX6_see_33 : decode cX6_see 33 = .ok (.bipush (-4), 2) ∧ 33 + 2 = 35 := ⟨by decide +kernel, rfl⟩
theorem eX6_see_35 : decode cX6_see 35 = .ok (.ireturn, 1) := by decide +kernel
theorem eX6_see_36 : decode cX6_see 36 = .ok (.aload_n 0, 1) ∧ 36 + 1 = 37 := ⟨by decide +kernel, rfl⟩
theorem eX6_see_37 : decode cX6_see 37 = .ok (.getfield 37, 3) ∧ 37 + 3 = 40 := ⟨by decide +kernel, rfl⟩
theorem eX6_see_40 : decode cX6_see 40 = .ok (.aload_n 0, 1) ∧ 40 + 1 = 41 := ⟨by decide +kernel, rfl⟩
theorem eX6_see_41 : decode cX6_see 41 = .ok (.getfield 160, 3) ∧ 41 + 3 = 44 := ⟨by decide +kernel, rfl⟩
theorem eX6_see_44 : decode cX6_see 44 = .ok (.iload_n 1, 1) ∧ 44 + 1 = 45 := ⟨by decide +kernel, rfl⟩
theorem eX6_see_45 : decode cX6_see 45 = .ok (.iastore, 1) ∧ 45 + 1 = 46 := ⟨by decide +kernel, rfl⟩
theorem eX6_see_46 : decode cX6_see 46 = .ok (.aload_n 0, 1) ∧ 46 + 1 = 47 := ⟨by decide +kernel, rfl⟩
theorem eX6_see_47 : decode cX6_see 47 = .ok (.getfield 40, 3) ∧ 47 + 3 = 50 := ⟨by decide +kernel, rfl⟩
theorem eX6_see_50 : decode cX6_see 50 = .ok (.aload_n 0, 1) ∧ 50 + 1 = 51 := ⟨by decide +kernel, rfl⟩
theorem eX6_see_51 : decode cX6_see 51 = .ok (.getfield 160, 3) ∧ 51 + 3 = 54 := ⟨by decide +kernel, rfl⟩
theorem eX6_see_54 : decode cX6_see 54 = .ok (.iload_n 2, 1) ∧ 54 + 1 = 55 := ⟨by decide +kernel, rfl⟩
theorem eX6_see_55 : decode cX6_see 55 = .ok (.iastore, 1) ∧ 55 + 1 = 56 := ⟨by decide +kernel, rfl⟩
theorem eX6_see_56 : decode cX6_see 56 = .ok (.aload_n 0, 1) ∧ 56 + 1 = 57 := ⟨by decide +kernel, rfl⟩
theorem eX6_see_57 : decode cX6_see 57 = .ok (.dup, 1) ∧ 57 + 1 = 58 := ⟨by decide +kernel, rfl⟩
theorem eX6_see_58 : decode cX6_see 58 = .ok (.getfield 160, 3) ∧ 58 + 3 = 61 := ⟨by decide +kernel, rfl⟩
theorem eX6_see_61 : decode cX6_see 61 = .ok (.iconst 1, 1) ∧ 61 + 1 = 62 := ⟨by decide +kernel, rfl⟩
theorem eX6_see_62 : decode cX6_see 62 = .ok (.iadd, 1) ∧ 62 + 1 = 63 := ⟨by decide +kernel, rfl⟩
theorem eX6_see_63 : decode cX6_see 63 = .ok (.putfield 160, 3) ∧ 63 + 3 = 66 := ⟨by decide +kernel, rfl⟩
theorem eX6_see_66 : decode cX6_see 66 = .ok (.aload_n 0, 1) ∧ 66 + 1 = 67 := ⟨by decide +kernel, rfl⟩
theorem eX6_see_67 : decode cX6_see 67 = .ok (.getfield 160, 3) ∧ 67 + 3 = 70 := ⟨by decide +kernel, rfl⟩
theorem eX6_see_70 : decode cX6_see 70 = .ok (.ireturn, 1) := by decide +kernel
theorem eX6_unsee_0 : decode cX6_unsee 0 = .ok (.aload_n 0, 1) ∧ 0 + 1 = 1 := ⟨by decide +kernel, rfl⟩
theorem eX6_unsee_1 : decode cX6_unsee 1 = .ok (.getfield 160, 3) ∧ 1 + 3 = 4 := ⟨by decide +kernel, rfl⟩
theorem eX6_unsee_4 : decode cX6_unsee 4 = .ok (.istore_n 1, 1) ∧ 4 + 1 = 5 := ⟨by decide +kernel, rfl⟩
theorem eX6_unsee_5 : decode cX6_unsee 5 = .ok (.aload_n 0, 1) ∧ 5 + 1 = 6 := ⟨by decide +kernel, rfl⟩
theorem eX6_unsee_6 : decode cX6_unsee 6 = .ok (.iconst 0, 1) ∧ 6 + 1 = 7 := ⟨by decide +kernel, rfl⟩
theorem eX6_unsee_7 : decode cX6_unsee 7 = .ok (.putfield 160, 3) ∧ 7 + 3 = 10 := ⟨by decide +kernel, rfl⟩
theorem eX6_unsee_10 : decode cX6_unsee 10 = .ok (.iload_n 1, 1) ∧ 10 + 1 = 11 := ⟨by decide +kernel, rfl⟩
theorem eX6_unsee_11 : decode cX6_unsee 11 = .ok (.ireturn, 1) := by decide +kernel
theorem eX6_isSeen_0 : decode cX6_isSeen 0 = .ok (.iconst 1, 1) ∧ 0 + 1 = 1 := ⟨by decide +kernel, rfl⟩
theorem eX6_isSeen_1 : decode cX6_isSeen 1 = .ok (.istore_n 2, 1) ∧ 1 + 1 = 2 := ⟨by decide +kernel, rfl⟩
theorem eX6_isSeen_2 : decode cX6_isSeen 2 = .ok (.iconst 0, 1) ∧ 2 + 1 = 3 := ⟨by decide +kernel, rfl⟩
theorem eX6_isSeen_3 : decode cX6_isSeen 3 = .ok (.istore_n 3, 1) ∧ 3 + 1 = 4 := ⟨by decide +kernel, rfl⟩
theorem eX6_isSeen_4 : decode cX6_isSeen 4 = .ok (.iload_n 3, 1) ∧ 4 + 1 = 5 := ⟨by decide +kernel, rfl⟩
theorem eX6_isSeen_5 : decode cX6_isSeen 5 = .ok (.aload_n 0, 1) ∧ 5 + 1 = 6 := ⟨by decide +kernel, rfl⟩
theorem eX6_isSeen_6 : decode cX6_isSeen 6 = .ok (.getfield 160, 3) ∧ 6 + 3 = 9 := ⟨by decide +kernel, rfl⟩
theorem eX6_isSeen_9 : decode cX6_isSeen 9 = .ok (.if_icmp .ge 45, 3) ∧ ((9 : Nat) : Int) + 45 = ((54 : Nat) : Int) ∧ 9 + 3 = 12 := ⟨by decide +kernel, by decide, rfl⟩
theorem eX6_isSeen_12 : decode cX6_isSeen 12 = .ok (.iload_n 2, 1) ∧ 12 + 1 = 13 := ⟨by decide +kernel, rfl⟩
theorem eX6_isSeen_13 : decode cX6_isSeen 13 = .ok (.ifCond .eq 33, 3) ∧ ((13 : Nat) : Int) + 33 = ((46 : Nat) : Int) ∧ 13 + 3 = 16 := ⟨by decide +kernel, by decide, rfl⟩
theorem eX6_isSeen_16 : decode cX6_isSeen 16 = .ok (.aload_n 0, 1) ∧ 16 + 1 = 17 := ⟨by decide +kernel, rfl⟩
theorem eX6_isSeen_17 : decode cX6_isSeen 17 = .ok (.getfield 37, 3) ∧ 17 + 3 = 20 := ⟨by decide +kernel, rfl⟩
theorem eX6_isSeen_20 : decode cX6_isSeen 20 = .ok (.iload_n 3, 1) ∧ 20 + 1 = 21 := ⟨by decide +kernel, rfl⟩
theorem eX6_isSeen_21 : decode cX6_isSeen 21 = .ok (.iaload, 1) ∧ 21 + 1 = 22 := ⟨by decide +kernel, rfl⟩
theorem eX6_isSeen_22 : decode cX6_isSeen 22 = .ok (.iload_n 1, 1) ∧ 22 + 1 = 23 := ⟨by decide +kernel, rfl⟩
theorem eX6_isSeen_23 : decode cX6_isSeen 23 = .ok (.if_icmp .ne 19, 3) ∧ ((23 : Nat) : Int) + 19 = ((42 : Nat) : Int) ∧ 23 + 3 = 26 := ⟨by decide +kernel, by decide, rfl⟩
theorem eX6_isSeen_26 : decode cX6_isSeen 26 = .ok (.aload_n 0, 1) ∧ 26 + 1 = 27 := ⟨by decide +kernel, rfl⟩
theorem eX6_isSeen_27 : decode cX6_isSeen 27 = .ok (.getfield 25, 3) ∧ 27 + 3 = 30 := ⟨by decide +kernel, rfl⟩
theorem eX6_isSeen_30 : decode cX6_isSeen 30 = .ok (.bipush 9, 2) ∧ 30 + 2 = 32 := ⟨by decide +kernel, rfl⟩
theorem eX6_isSeen_32 : decode cX6_isSeen 32 = .ok (.iaload, 1) ∧ 32 + 1 = 33 := ⟨by decide +kernel, rfl⟩
theorem eX6_isSeen_33 : decode cX6_isSeen 33 = .ok (.aload_n 0, 1) ∧ 33 + 1 = 34 := ⟨by decide +kernel, rfl⟩
theorem eX6_isSeen_34 : decode cX6_isSeen 34 = .ok (.getfield 40, 3) ∧ 34 + 3 = 37 := ⟨by decide +kernel, rfl⟩
theorem eX6_isSeen_37 : decode cX6_isSeen 37 = .ok (.iload_n 3, 1) ∧ 37 + 1 = 38 := ⟨by decide +kernel, rfl⟩
theorem eX6_isSeen_38 : decode cX6_isSeen 38 = .ok (.iaload, 1) ∧ 38 + 1 = 39 := ⟨by decide +kernel, rfl⟩
theorem eX6_isSeen_39 : decode cX6_isSeen 39 = .ok (.if_icmp .ne 7, 3) ∧ ((39 : Nat) : Int) + 7 = ((46 : Nat) : Int) ∧ 39 + 3 = 42 := ⟨by decide +kernel, by decide, rfl⟩
theorem eX6_isSeen_42 : decode cX6_isSeen 42 = .ok (.iconst 1, 1) ∧ 42 + 1 = 43 := ⟨by decide +kernel, rfl⟩
theorem eX6_isSeen_43 : decode cX6_isSeen 43 = .ok (.goto 4, 3) ∧ ((43 : Nat) : Int) + 4 = ((47 : Nat) : Int) := ⟨by decide +kernel, by decide⟩
theorem eX6_isSeen_46 : decode cX6_isSeen 46 = .ok (.iconst 0, 1) ∧ 46 + 1 = 47 := ⟨by decide +kernel, rfl⟩
theorem eX6_isSeen_47 : decode cX6_isSeen 47 = .ok (.istore_n 2, 1) ∧ 47 + 1 = 48 := ⟨by decide +kernel, rfl⟩
theorem eX6_isSeen_48 : decode cX6_isSeen 48 = .ok (.iinc 3 1, 3) ∧ 48 + 3 = 51 := ⟨by decide +kernel, rfl⟩
theorem eX6_isSeen_51 : decode cX6_isSeen 51 = .ok (.goto (-47), 3) ∧ ((51 : Nat) : Int) + (-47) = ((4 : Nat) : Int) := ⟨by decide +kernel, by decide⟩
theorem eX6_isSeen_54 : decode cX6_isSeen 54 = .ok (.iload_n 2, 1) ∧ 54 + 1 = 55 := ⟨by decide +kernel, rfl⟩
theorem eX6_isSeen_55 : decode cX6_isSeen 55 = .ok (.ireturn, 1) := by decide +kernel
theorem eX6_rowsOf_0 : decode cX6_rowsOf 0 = .ok (.iconst 1, 1) ∧ 0 + 1 = 1 := ⟨by decide +kernel, rfl⟩
theorem eX6_rowsOf_1 : decode cX6_rowsOf 1 = .ok (.istore_n 2, 1) ∧ 1 + 1 = 2 := ⟨by decide +kernel, rfl⟩
theorem eX6_rowsOf_2 : decode cX6_rowsOf 2 = .ok (.iconst 0, 1) ∧ 2 + 1 = 3 := ⟨by decide +kernel, rfl⟩
theorem eX6_rowsOf_3 : decode cX6_rowsOf 3 = .ok (.istore_n 3, 1) ∧ 3 + 1 = 4 := ⟨by decide +kernel, rfl⟩
theorem eX6_rowsOf_4 : decode cX6_rowsOf 4 = .ok (.iload_n 3, 1) ∧ 4 + 1 = 5 := ⟨by decide +kernel, rfl⟩
theorem eX6_rowsOf_5 : decode cX6_rowsOf 5 = .ok (.iload_n 1, 1) ∧ 5 + 1 = 6 := ⟨by decide +kernel, rfl⟩
theorem eX6_rowsOf_6 : decode cX6_rowsOf 6 = .ok (.if_icmp .ge 15, 3) ∧ ((6 : Nat) : Int) + 15 = ((21 : Nat) : Int) ∧ 6 + 3 = 9 := ⟨by decide +kernel, by decide, rfl⟩
theorem eX6_rowsOf_9 : decode cX6_rowsOf 9 = .ok (.iload_n 2, 1) ∧ 9 + 1 = 10 := ⟨by decide +kernel, rfl⟩
theorem eX6_rowsOf_10 : decode cX6_rowsOf 10 = .ok (.iload_n 0, 1) ∧ 10 + 1 = 11 := ⟨by decide +kernel, rfl⟩
theorem eX6_rowsOf_11 : decode cX6_rowsOf 11 = .ok (.iload_n 3, 1) ∧ 11 + 1 = 12 := ⟨by decide +kernel, rfl⟩
theorem eX6_rowsOf_12 : decode cX6_rowsOf 12 = .ok (.isub, 1) ∧ 12 + 1 = 13 := ⟨by decide +kernel, rfl⟩
theorem eX6_rowsOf_13 : decode cX6_rowsOf 13 = .ok (.imul, 1) ∧ 13 + 1 = 14 := ⟨by decide +kernel, rfl⟩
theorem eX6_rowsOf_14 : decode cX6_rowsOf 14 = .ok (.istore_n 2, 1) ∧ 14 + 1 = 15 := ⟨by decide +kernel, rfl⟩
theorem eX6_rowsOf_15 : decode cX6_rowsOf 15 = .ok (.iinc 3 1, 3) ∧ 15 + 3 = 18 := ⟨by decide +kernel, rfl⟩
theorem eX6_rowsOf_18 : decode cX6_rowsOf 18 = .ok (.goto (-14), 3) ∧ ((18 : Nat) : Int) + (-14) = ((4 : Nat) : Int) := ⟨by decide +kernel, by decide⟩
theorem eX6_rowsOf_21 : decode cX6_rowsOf 21 = .ok (.iload_n 2, 1) ∧ 21 + 1 = 22 := ⟨by decide +kernel, rfl⟩
theorem eX6_rowsOf_22 : decode cX6_rowsOf 22 = .ok (.ireturn, 1) := by decide +kernel
theorem eX6_rowBy_0 : decode cX6_rowBy 0 = .ok (.aload_n 0, 1) ∧ 0 + 1 = 1 := ⟨by decide +kernel, rfl⟩
theorem eX6_rowBy_1 : decode cX6_rowBy 1 = .ok (.invokevirtual 137, 3) ∧ 1 + 3 = 4 := ⟨by decide +kernel, rfl⟩
theorem eX6_rowBy_4 : decode cX6_rowBy 4 = .ok (.aload_n 0, 1) ∧ 4 + 1 = 5 := ⟨by decide +kernel, rfl⟩
theorem eX6_rowBy_5 : decode cX6_rowBy 5 = .ok (.invokevirtual 141, 3) ∧ 5 + 3 = 8 := ⟨by decide +kernel, rfl⟩
theorem eX6_rowBy_8 : decode cX6_rowBy 8 = .ok (.aload_n 0, 1) ∧ 8 + 1 = 9 := ⟨by decide +kernel, rfl⟩
theorem eX6_rowBy_9 : decode cX6_rowBy 9 = .ok (.getfield 25, 3) ∧ 9 + 3 = 12 := ⟨by decide +kernel, rfl⟩
theorem eX6_rowBy_12 : decode cX6_rowBy 12 = .ok (.iconst 2, 1) ∧ 12 + 1 = 13 := ⟨by decide +kernel, rfl⟩
theorem eX6_rowBy_13 : decode cX6_rowBy 13 = .ok (.iaload, 1) ∧ 13 + 1 = 14 := ⟨by decide +kernel, rfl⟩
theorem eX6_rowBy_14 : decode cX6_rowBy 14 = .ok (.iconst (-1), 1) ∧ 14 + 1 = 15 := ⟨by decide +kernel, rfl⟩
theorem eX6_rowBy_15 : decode cX6_rowBy 15 = .ok (.ixor, 1) ∧ 15 + 1 = 16 := ⟨by decide +kernel, rfl⟩
theorem eX6_rowBy_16 : decode cX6_rowBy 16 = .ok (.iand, 1) ∧ 16 + 1 = 17 := ⟨by decide +kernel, rfl⟩
theorem eX6_rowBy_17 : decode cX6_rowBy 17 = .ok (.istore_n 3, 1) ∧ 17 + 1 = 18 := ⟨by decide +kernel, rfl⟩
theorem eX6_rowBy_18 : decode cX6_rowBy 18 = .ok (.iload_n 3, 1) ∧ 18 + 1 = 19 := ⟨by decide +kernel, rfl⟩
theorem eX6_rowBy_19 : decode cX6_rowBy 19 = .ok (.invokestatic 130, 3) ∧ 19 + 3 = 22 := ⟨by decide +kernel, rfl⟩
theorem eX6_rowBy_22 : decode cX6_rowBy 22 = .ok (.istore 4, 2) ∧ 22 + 2 = 24 := ⟨by decide +kernel, rfl⟩
theorem eX6_rowBy_24 : decode cX6_rowBy 24 = .ok (.iload_n 1, 1) ∧ 24 + 1 = 25 := ⟨by decide +kernel, rfl⟩
theorem eX6_rowBy_25 : decode cX6_rowBy 25 = .ok (.istore 5, 2) ∧ 25 + 2 = 27 := ⟨by decide +kernel, rfl⟩
theorem eX6_rowBy_27 : decode cX6_rowBy 27 = .ok (.iconst 0, 1) ∧ 27 + 1 = 28 := ⟨by decide +kernel, rfl⟩
theorem eX6_rowBy_28 : decode cX6_rowBy 28 = .ok (.istore 6, 2) ∧ 28 + 2 = 30 := ⟨by decide +kernel, rfl⟩
theorem eX6_rowBy_30 : decode cX6_rowBy 30 = .ok (.aload_n 0, 1) ∧ 30 + 1 = 31 := ⟨by decide +kernel, rfl⟩
theorem eX6_rowBy_31 : decode cX6_rowBy 31 = .ok (.iconst 0, 1) ∧ 31 + 1 = 32 := ⟨by decide +kernel, rfl⟩
theorem eX6_rowBy_32 : decode cX6_rowBy 32 = .ok (.invokevirtual 163, 3) ∧ 32 + 3 = 35 := ⟨by decide +kernel, rfl⟩
theorem eX6_rowBy_35 : decode cX6_rowBy 35 = .ok (.istore 7, 2) ∧ 35 + 2 = 37 := ⟨by decide +kernel, rfl⟩
theorem eX6_rowBy_37 : decode cX6_rowBy 37 = .ok (.iconst 0, 1) ∧ 37 + 1 = 38 := ⟨by decide +kernel, rfl⟩
theorem eX6_rowBy_38 : decode cX6_rowBy 38 = .ok (.istore 8, 2) ∧ 38 + 2 = 40 := ⟨by decide +kernel, rfl⟩
theorem eX6_rowBy_40 : decode cX6_rowBy 40 = .ok (.iload 8, 2) ∧ 40 + 2 = 42 := ⟨by decide +kernel, rfl⟩
theorem eX6_rowBy_42 : decode cX6_rowBy 42 = .ok (.iload_n 2, 1) ∧ 42 + 1 = 43 := ⟨by decide +kernel, rfl⟩
theorem eX6_rowBy_43 : decode cX6_rowBy 43 = .ok (.if_icmp .ge 156, 3) ∧ ((43 : Nat) : Int) + 156 = ((199 : Nat) : Int) ∧ 43 + 3 = 46 := ⟨by decide +kernel, by decide, rfl⟩
theorem eX6_rowBy_46 : decode cX6_rowBy 46 = .ok (.iload 7, 2) ∧ 46 + 2 = 48 := ⟨by decide +kernel, rfl⟩
theorem eX6_rowBy_48 : decode cX6_rowBy 48 = .ok (.ifCond .eq 151, 3) ∧ ((48 : Nat) : Int) + 151 = ((199 : Nat) : Int) ∧ 48 + 3 = 51 := ⟨by decide +kernel, by decide, rfl⟩
theorem eX6_rowBy_51 : decode cX6_rowBy 51 = .ok (.iload 4, 2) ∧ 51 + 2 = 53 := ⟨by decide +kernel, rfl⟩
theorem eX6_rowBy_53 : decode cX6_rowBy 53 = .ok (.iconst 1, 1) ∧ 53 + 1 = 54 := ⟨by decide +kernel, rfl⟩
theorem eX6_rowBy_54 : decode cX6_rowBy 54 = .ok (.isub, 1) ∧ 54 + 1 = 55 := ⟨by decide +kernel, rfl⟩
theorem eX6_rowBy_55 : decode cX6_rowBy 55 = .ok (.iload 8, 2) ∧ 55 + 2 = 57 := ⟨by decide +kernel, rfl⟩
theorem eX6_rowBy_57 : decode cX6_rowBy 57 = .ok (.isub, 1) ∧ 57 + 1 = 58 := ⟨by decide +kernel, rfl⟩
theorem eX6_rowBy_58 : decode cX6_rowBy 58 = .ok (.iload_n 2, 1) ∧ 58 + 1 = 59 := ⟨by decide +kernel, rfl⟩
theorem eX6_rowBy_59 : decode cX6_rowBy 59 = .ok (.iconst 1, 1) ∧ 59 + 1 = 60 := ⟨by decide +kernel, rfl⟩
theorem eX6_rowBy_60 : decode cX6_rowBy 60 = .ok (.isub, 1) ∧ 60 + 1 = 61 := ⟨by decide +kernel, rfl⟩
theorem eX6_rowBy_61 : decode cX6_rowBy 61 = .ok (.iload 8, 2) ∧ 61 + 2 = 63 := ⟨by decide +kernel, rfl⟩
theorem eX6_rowBy_63 : decode cX6_rowBy 63 = .ok (.isub, 1) ∧ 63 + 1 = 64 := ⟨by decide +kernel, rfl⟩
theorem eX6_rowBy_64 : decode cX6_rowBy 64 = .ok (.invokestatic 166, 3) ∧ 64 + 3 = 67 := ⟨by decide +kernel, rfl⟩
theorem eX6_rowBy_67 : decode cX6_rowBy 67 = .ok (.istore 9, 2) ∧ 67 + 2 = 69 := ⟨by decide +kernel, rfl⟩
theorem eX6_rowBy_69 : decode cX6_rowBy 69 = .ok (.iload 5, 2) ∧ 69 + 2 = 71 := ⟨by decide +kernel, rfl⟩
theorem eX6_rowBy_71 : decode cX6_rowBy 71 = .ok (.iload 9, 2) ∧ 71 + 2 = 73 := ⟨by decide +kernel, rfl⟩
theorem eX6_rowBy_73 : decode cX6_rowBy 73 = .ok (.idiv, 1) ∧ 73 + 1 = 74 := ⟨by decide +kernel, rfl⟩
theorem eX6_rowBy_74 : decode cX6_rowBy 74 = .ok (.istore 10, 2) ∧ 74 + 2 = 76 := ⟨by decide +kernel, rfl⟩
theorem eX6_rowBy_76 : decode cX6_rowBy 76 = .ok (.iload 5, 2) ∧ 76 + 2 = 78 := ⟨by decide +kernel, rfl⟩
theorem eX6_rowBy_78 : decode cX6_rowBy 78 = .ok (.iload 9, 2) ∧ 78 + 2 = 80 := ⟨by decide +kernel, rfl⟩
theorem eX6_rowBy_80 : decode cX6_rowBy 80 = .ok (.irem, 1) ∧ 80 + 1 = 81 := ⟨by decide +kernel, rfl⟩
theorem eX6_rowBy_81 : decode cX6_rowBy 81 = .ok (.istore 5, 2) ∧ 81 + 2 = 83 := ⟨by decide +kernel, rfl⟩
theorem eX6_rowBy_83 : decode cX6_rowBy 83 = .ok (.bipush (-9), 2) ∧ 83 + 2 = 85 := ⟨by decide +kernel, rfl⟩
theorem eX6_rowBy_85 : decode cX6_rowBy 85 = .ok (.istore 11, 2) ∧ 85 + 2 = 87 := ⟨by decide +kernel, rfl⟩
theorem eX6_rowBy_87 : decode cX6_rowBy 87 = .ok (.iconst 0, 1) ∧ 87 + 1 = 88 := ⟨by decide +kernel, rfl⟩
theorem eX6_rowBy_88 : decode cX6_rowBy 88 = .ok (.istore 12, 2) ∧ 88 + 2 = 90 := ⟨by decide +kernel, rfl⟩
theorem eX6_rowBy_90 : decode cX6_rowBy 90 = .ok (.iload 12, 2) ∧ 90 + 2 = 92 := ⟨by decide +kernel, rfl⟩
theorem eX6_rowBy_92 : decode cX6_rowBy 92 = .ok (.aload_n 0, 1) ∧ 92 + 1 = 93 := ⟨by decide +kernel, rfl⟩
theorem eX6_rowBy_93 : decode cX6_rowBy 93 = .ok (.getfield 80, 3) ∧ 93 + 3 = 96 := ⟨by decide +kernel, rfl⟩
theorem eX6_rowBy_96 : decode cX6_rowBy 96 = .ok (.if_icmp .ge 51, 3) ∧ ((96 : Nat) : Int) + 51 = ((147 : Nat) : Int) ∧ 96 + 3 = 99 := ⟨by decide +kernel, by decide, rfl⟩
theorem eX6_rowBy_99 : decode cX6_rowBy 99 = .ok (.iload_n 3, 1) ∧ 99 + 1 = 100 := ⟨by decide +kernel, rfl⟩
theorem eX6_rowBy_100 : decode cX6_rowBy 100 = .ok (.iload 12, 2) ∧ 100 + 2 = 102 := ⟨by decide +kernel, rfl⟩
theorem eX6_rowBy_102 : decode cX6_rowBy 102 = .ok (.invokestatic 94, 3) ∧ 102 + 3 = 105 := ⟨by decide +kernel, rfl⟩
theorem eX6_rowBy_105 : decode cX6_rowBy 105 = .ok (.ifCond .eq 13, 3) ∧ ((105 : Nat) : Int) + 13 = ((118 : Nat) : Int) ∧ 105 + 3 = 108 := ⟨by decide +kernel, by decide, rfl⟩
theorem eX6_rowBy_108 : decode cX6_rowBy 108 = .ok (.iload 10, 2) ∧ 108 + 2 = 110 := ⟨by decide +kernel, rfl⟩
theorem eX6_rowBy_110 : decode cX6_rowBy 110 = .ok (.ifCond .ne 8, 3) ∧ ((110 : Nat) : Int) + 8 = ((118 : Nat) : Int) ∧ 110 + 3 = 113 := ⟨by decide +kernel, by decide, rfl⟩
theorem eX6_rowBy_113 : decode cX6_rowBy 113 = .ok (.iload 12, 2) ∧ 113 + 2 = 115 := ⟨by decide +kernel, rfl⟩
theorem eX6_rowBy_115 : decode cX6_rowBy 115 = .ok (.goto 5, 3) ∧ ((115 : Nat) : Int) + 5 = ((120 : Nat) : Int) := ⟨by decide +kernel, by decide⟩
theorem eX6_rowBy_118 : decode cX6_rowBy 118 = .ok (.iload 11, 2) ∧ 118 + 2 = 120 := ⟨by decide +kernel, rfl⟩
theorem eX6_rowBy_120 : decode cX6_rowBy 120 = .ok (.istore 11, 2) ∧ 120 + 2 = 122 := ⟨by decide +kernel, rfl⟩
theorem eX6_rowBy_122 : decode cX6_rowBy 122 = .ok (.iload 10, 2) ∧ 122 + 2 = 124 := ⟨by decide +kernel, rfl⟩
theorem eX6_rowBy_124 : decode cX6_rowBy 124 = .ok (.iload_n 3, 1) ∧ 124 + 1 = 125 := ⟨by decide +kernel, rfl⟩
theorem eX6_rowBy_125 : decode cX6_rowBy 125 = .ok (.iload 12, 2) ∧ 125 + 2 = 127 := ⟨by decide +kernel, rfl⟩
theorem eX6_rowBy_127 : decode cX6_rowBy 127 = .ok (.invokestatic 94, 3) ∧ 127 + 3 = 130 := ⟨by decide +kernel, rfl⟩
theorem eX6_rowBy_130 : decode cX6_rowBy 130 = .ok (.ifCond .eq 7, 3) ∧ ((130 : Nat) : Int) + 7 = ((137 : Nat) : Int) ∧ 130 + 3 = 133 := ⟨by decide +kernel, by decide, rfl⟩
theorem eX6_rowBy_133 : decode cX6_rowBy 133 = .ok (.iconst 1, 1) ∧ 133 + 1 = 134 := ⟨by decide +kernel, rfl⟩
theorem eX6_rowBy_134 : decode cX6_rowBy 134 = .ok (.goto 4, 3) ∧ ((134 : Nat) : Int) + 4 = ((138 : Nat) : Int) := ⟨by decide +kernel, by decide⟩
theorem eX6_rowBy_137 : decode cX6_rowBy 137 = .ok (.iconst 0, 1) ∧ 137 + 1 = 138 := ⟨by decide +kernel, rfl⟩
theorem eX6_rowBy_138 : decode cX6_rowBy 138 = .ok (.isub, 1) ∧ 138 + 1 = 139 := ⟨by decide +kernel, rfl⟩
theorem eX6_rowBy_139 : decode cX6_rowBy 139 = .ok (.istore 10, 2) ∧ 139 + 2 = 141 := ⟨by decide +kernel, rfl⟩
theorem eX6_rowBy_141 : decode cX6_rowBy 141 = .ok (.iinc 12 1, 3) ∧ 141 + 3 = 144 := ⟨by decide +kernel, rfl⟩
theorem eX6_rowBy_144 : decode cX6_rowBy 144 = .ok (.goto (-54), 3) ∧ ((144 : Nat) : Int) + (-54) = ((90 : Nat) : Int) := ⟨by decide +kernel, by decide⟩
theorem eX6_rowBy_147 : decode cX6_rowBy 147 = .ok (.iload_n 3, 1) ∧ 147 + 1 = 148 := ⟨by decide +kernel, rfl⟩
theorem eX6_rowBy_148 : decode cX6_rowBy 148 = .ok (.iconst 1, 1) ∧ 148 + 1 = 149 := ⟨by decide +kernel, rfl⟩
theorem eX6_rowBy_149 : decode cX6_rowBy 149 = .ok (.iload 11, 2) ∧ 149 + 2 = 151 := ⟨by decide +kernel, rfl⟩
theorem eX6_rowBy_151 : decode cX6_rowBy 151 = .ok (.ishl, 1) ∧ 151 + 1 = 152 := ⟨by decide +kernel, rfl⟩
theorem eX6_rowBy_152 : decode cX6_rowBy 152 = .ok (.iconst (-1), 1) ∧ 152 + 1 = 153 := ⟨by decide +kernel, rfl⟩
theorem eX6_rowBy_153 : decode cX6_rowBy 153 = .ok (.ixor, 1) ∧ 153 + 1 = 154 := ⟨by decide +kernel, rfl⟩
theorem eX6_rowBy_154 : decode cX6_rowBy 154 = .ok (.iand, 1) ∧ 154 + 1 = 155 := ⟨by decide +kernel, rfl⟩
theorem eX6_rowBy_155 : decode cX6_rowBy 155 = .ok (.istore_n 3, 1) ∧ 155 + 1 = 156 := ⟨by decide +kernel, rfl⟩
theorem eX6_rowBy_156 : decode cX6_rowBy 156 = .ok (.iload 6, 2) ∧ 156 + 2 = 158 := ⟨by decide +kernel, rfl⟩
theorem eX6_rowBy_158 : decode cX6_rowBy 158 = .ok (.iconst 1, 1) ∧ 158 + 1 = 159 := ⟨by decide +kernel, rfl⟩
theorem eX6_rowBy_159 : decode cX6_rowBy 159 = .ok (.iload 11, 2) ∧ 159 + 2 = 161 := ⟨by decide +kernel, rfl⟩
theorem eX6_rowBy_161 : decode cX6_rowBy 161 = .ok (.ishl, 1) ∧ 161 + 1 = 162 := ⟨by decide +kernel, rfl⟩
theorem eX6_rowBy_162 : decode cX6_rowBy 162 = .ok (.ior, 1) ∧ 162 + 1 = 163 := ⟨by decide +kernel, rfl⟩
theorem eX6_rowBy_163 : decode cX6_rowBy 163 = .ok (.istore 6, 2) ∧ 163 + 2 = 165 := ⟨by decide +kernel, rfl⟩
theorem eX6_rowBy_165 : decode cX6_rowBy 165 = .ok (.aload_n 0, 1) ∧ 165 + 1 = 166 := ⟨by decide +kernel, rfl⟩
theorem eX6_rowBy_166 : decode cX6_rowBy 166 = .ok (.iconst 1, 1) ∧ 166 + 1 = 167 := ⟨by decide +kernel, rfl⟩
theorem eX6_rowBy_167 : decode cX6_rowBy 167 = .ok (.iload 11, 2) ∧ 167 + 2 = 169 := ⟨by decide +kernel, rfl⟩
theorem eX6_rowBy_169 : decode cX6_rowBy 169 = .ok (.invokevirtual 123, 3) ∧ 169 + 3 = 172 := ⟨by decide +kernel, rfl⟩
theorem eX6_rowBy_172 : decode cX6_rowBy 172 = .ok (.ifCond .eq 18, 3) ∧ ((172 : Nat) : Int) + 18 = ((190 : Nat) : Int) ∧ 172 + 3 = 175 := ⟨by decide +kernel, by decide, rfl⟩
theorem eX6_rowBy_175 : decode cX6_rowBy 175 = .ok (.aload_n 0, 1) ∧ 175 + 1 = 176 := ⟨by decide +kernel, rfl⟩
theorem eX6_rowBy_176 : decode cX6_rowBy 176 = .ok (.iload 8, 2) ∧ 176 + 2 = 178 := ⟨by decide +kernel, rfl⟩
theorem eX6_rowBy_178 : decode cX6_rowBy 178 = .ok (.iconst 1, 1) ∧ 178 + 1 = 179 := ⟨by decide +kernel, rfl⟩
theorem eX6_rowBy_179 : decode cX6_rowBy 179 = .ok (.iadd, 1) ∧ 179 + 1 = 180 := ⟨by decide +kernel, rfl⟩
theorem eX6_rowBy_180 : decode cX6_rowBy 180 = .ok (.invokevirtual 163, 3) ∧ 180 + 3 = 183 := ⟨by decide +kernel, rfl⟩
theorem eX6_rowBy_183 : decode cX6_rowBy 183 = .ok (.ifCond .eq 7, 3) ∧ ((183 : Nat) : Int) + 7 = ((190 : Nat) : Int) ∧ 183 + 3 = 186 := ⟨by decide +kernel, by decide, rfl⟩
theorem eX6_rowBy_186 : decode cX6_rowBy 186 = .ok (.iconst 1, 1) ∧ 186 + 1 = 187 := ⟨by decide +kernel, rfl⟩
theorem eX6_rowBy_187 : decode cX6_rowBy 187 = .ok (.goto 4, 3) ∧ ((187 : Nat) : Int) + 4 = ((191 : Nat) : Int) := ⟨by decide +kernel, by decide⟩
theorem eX6_rowBy_190 : decode cX6_rowBy 190 = .ok (.iconst 0, 1) ∧ 190 + 1 = 191 := ⟨by decide +kernel, rfl⟩
theorem eX6_rowBy_191 : decode cX6_rowBy 191 = .ok (.istore 7, 2) ∧ 191 + 2 = 193 := ⟨by decide +kernel, rfl⟩
theorem eX6_rowBy_193 : decode cX6_rowBy 193 = .ok (.iinc 8 1, 3) ∧ 193 + 3 = 196 := ⟨by decide +kernel, rfl⟩
theorem eX6_rowBy_196 : decode cX6_rowBy 196 = .ok (.goto (-156), 3) ∧ ((196 : Nat) : Int) + (-156) = ((40 : Nat) : Int) := ⟨by decide +kernel, by decide⟩
theorem eX6_rowBy_199 : decode cX6_rowBy 199 = .ok (.iload 7, 2) ∧ 199 + 2 = 201 := ⟨by decide +kernel, rfl⟩
theorem eX6_rowBy_201 : decode cX6_rowBy 201 = .ok (.ifCond .eq 8, 3) ∧ ((201 : Nat) : Int) + 8 = ((209 : Nat) : Int) ∧ 201 + 3 = 204 := ⟨by decide +kernel, by decide, rfl⟩
theorem eX6_rowBy_204 : decode cX6_rowBy 204 = .ok (.iload 6, 2) ∧ 204 + 2 = 206 := ⟨by decide +kernel, rfl⟩
theorem eX6_rowBy_206 : decode cX6_rowBy 206 = .ok (.goto 5, 3) ∧ ((206 : Nat) : Int) + 5 = ((211 : Nat) : Int) := ⟨by decide +kernel, by decide⟩
theorem eX6_rowBy_209 : decode cX6_rowBy 209 = .ok (.bipush (-9), 2) ∧ 209 + 2 = 211 := ⟨by decide +kernel, rfl⟩
theorem eX6_rowBy_211 : decode cX6_rowBy 211 = .ok (.ireturn, 1) := by decide +kernel
theorem eX6_rows_0 : decode cX6_rows 0 = .ok (.iload_n 1, 1) ∧ 0 + 1 = 1 := ⟨by decide +kernel, rfl⟩
theorem eX6_rows_1 : decode cX6_rows 1 = .ok (.i2l, 1) ∧ 1 + 1 = 2 := ⟨by decide +kernel, rfl⟩
theorem eX6_rows_2 : decode cX6_rows 2 = .ok (.lconst 0, 1) ∧ 2 + 1 = 3 := ⟨by decide +kernel, rfl⟩
theorem eX6_rows_3 : decode cX6_rows 3 = .ok (.ldc2_w 155, 3) ∧ 3 + 3 = 6 := ⟨by decide +kernel, rfl⟩
theorem eX6_rows_6 : decode cX6_rows 6 = .ok (.invokestatic 59, 3) ∧ 6 + 3 = 9 := ⟨by decide +kernel, rfl⟩
theorem eX6_rows_9 : decode cX6_rows 9 = .ok (.ifCond .eq 15, 3) ∧ ((9 : Nat) : Int) + 15 = ((24 : Nat) : Int) ∧ 9 + 3 = 12 := ⟨by decide +kernel, by decide, rfl⟩
theorem eX6_rows_12 : decode cX6_rows 12 = .ok (.iload_n 2, 1) ∧ 12 + 1 = 13 := ⟨by decide +kernel, rfl⟩
theorem eX6_rows_13 : decode cX6_rows 13 = .ok (.i2l, 1) ∧ 13 + 1 = 14 := ⟨by decide +kernel, rfl⟩
theorem eX6_rows_14 : decode cX6_rows 14 = .ok (.lconst 0, 1) ∧ 14 + 1 = 15 := ⟨by decide +kernel, rfl⟩
theorem eX6_rows_15 : decode cX6_rows 15 = .ok (.ldc2_w 147, 3) ∧ 15 + 3 = 18 := ⟨by decide +kernel, rfl⟩
theorem eX6_rows_18 : decode cX6_rows 18 = .ok (.invokestatic 59, 3) ∧ 18 + 3 = 21 := ⟨by decide +kernel, rfl⟩
theorem eX6_rows_21 : decode cX6_rows 21 = .ok (.ifCond .ne 6, 3) ∧ ((21 : Nat) : Int) + 6 = ((27 : Nat) : Int) ∧ 21 + 3 = 24 := ⟨by decide +kernel, by decide, rfl⟩
theorem eX6_rows_24 : decode cX6_rows 24 = .ok (.bipush (-2), 2) ∧ 24 + 2 = 26 := ⟨by decide +kernel, rfl⟩
theorem eX6_rows_26 : decode cX6_rows 26 = .ok (.ireturn, 1) := by decide +kernel
theorem eX6_rows_27 : decode cX6_rows 27 = .ok (.aload_n 0, 1) ∧ 27 + 1 = 28 := ⟨by decide +kernel, rfl⟩
theorem eX6_rows_28 : decode cX6_rows 28 = .ok (.invokevirtual 141, 3) ∧ 28 + 3 = 31 := ⟨by decide +kernel, rfl⟩
theorem eX6_rows_31 : decode cX6_rows 31 = .ok (.aload_n 0, 1) ∧ 31 + 1 = 32 := ⟨by decide +kernel, rfl⟩
theorem eX6_rows_32 : decode cX6_rows 32 = .ok (.getfield 25, 3) ∧ 32 + 3 = 35 := ⟨by decide +kernel, rfl⟩
theorem eX6_rows_35 : decode cX6_rows 35 = .ok (.iconst 2, 1) ∧ 35 + 1 = 36 := ⟨by decide +kernel, rfl⟩
theorem eX6_rows_36 : decode cX6_rows 36 = .ok (.iaload, 1) ∧ 36 + 1 = 37 := ⟨by decide +kernel, rfl⟩
theorem eX6_rows_37 : decode cX6_rows 37 = .ok (.iconst (-1), 1) ∧ 37 + 1 = 38 := ⟨by decide +kernel, rfl⟩
theorem eX6_rows_38 : decode cX6_rows 38 = .ok (.ixor, 1) ∧ 38 + 1 = 39 := ⟨by decide +kernel, rfl⟩
theorem eX6_rows_39 : decode cX6_rows 39 = .ok (.iand, 1) ∧ 39 + 1 = 40 := ⟨by decide +kernel, rfl⟩
theorem eX6_rows_40 : decode cX6_rows 40 = .ok (.invokestatic 130, 3) ∧ 40 + 3 = 43 := ⟨by decide +kernel, rfl⟩
theorem eX6_rows_43 : decode cX6_rows 43 = .ok (.istore_n 3, 1) ∧ 43 + 1 = 44 := ⟨by decide +kernel, rfl⟩
theorem eX6_rows_44 : decode cX6_rows 44 = .ok (.iconst 0, 1) ∧ 44 + 1 = 45 := ⟨by decide +kernel, rfl⟩
theorem eX6_rows_45 : decode cX6_rows 45 = .ok (.istore 4, 2) ∧ 45 + 2 = 47 := ⟨by decide +kernel, rfl⟩
theorem eX6_rows_47 : decode cX6_rows 47 = .ok (.aload_n 0, 1) ∧ 47 + 1 = 48 := ⟨by decide +kernel, rfl⟩
theorem eX6_rows_48 : decode cX6_rows 48 = .ok (.invokevirtual 141, 3) ∧ 48 + 3 = 51 := ⟨by decide +kernel, rfl⟩
theorem eX6_rows_51 : decode cX6_rows 51 = .ok (.istore 5, 2) ∧ 51 + 2 = 53 := ⟨by decide +kernel, rfl⟩
theorem eX6_rows_53 : decode cX6_rows 53 = .ok (.iconst 0, 1) ∧ 53 + 1 = 54 := ⟨by decide +kernel, rfl⟩
theorem eX6_rows_54 : decode cX6_rows 54 = .ok (.istore 6, 2) ∧ 54 + 2 = 56 := ⟨by decide +kernel, rfl⟩
theorem eX6_rows_56 : decode cX6_rows 56 = .ok (.iconst 0, 1) ∧ 56 + 1 = 57 := ⟨by decide +kernel, rfl⟩
theorem eX6_rows_57 : decode cX6_rows 57 = .ok (.istore 7, 2) ∧ 57 + 2 = 59 := ⟨by decide +kernel, rfl⟩
theorem eX6_rows_59 : decode cX6_rows 59 = .ok (.iload 7, 2) ∧ 59 + 2 = 61 := ⟨by decide +kernel, rfl⟩
theorem eX6_rows_61 : decode cX6_rows 61 = .ok (.iload_n 3, 1) ∧ 61 + 1 = 62 := ⟨by decide +kernel, rfl⟩
theorem eX6_rows_62 : decode cX6_rows 62 = .ok (.iload_n 1, 1) ∧ 62 + 1 = 63 := ⟨by decide +kernel, rfl⟩
theorem eX6_rows_63 : decode cX6_rows 63 = .ok (.invokestatic 166, 3) ∧ 63 + 3 = 66 := ⟨by decide +kernel, rfl⟩
theorem eX6_rows_66 : decode cX6_rows 66 = .ok (.if_icmp .ge 47, 3) ∧ ((66 : Nat) : Int) + 47 = ((113 : Nat) : Int) ∧ 66 + 3 = 69 := ⟨by decide +kernel, by decide, rfl⟩
theorem eX6_rows_69 : decode cX6_rows 69 = .ok (.iload_n 1, 1) ∧ 69 + 1 = 70 := ⟨by decide +kernel, rfl⟩
theorem eX6_rows_70 : decode cX6_rows 70 = .ok (.iload_n 3, 1) ∧ 70 + 1 = 71 := ⟨by decide +kernel, rfl⟩
theorem eX6_rows_71 : decode cX6_rows 71 = .ok (.if_icmp .gt 42, 3) ∧ ((71 : Nat) : Int) + 42 = ((113 : Nat) : Int) ∧ 71 + 3 = 74 := ⟨by decide +kernel, by decide, rfl⟩
theorem eX6_rows_74 : decode cX6_rows 74 = .ok (.aload_n 0, 1) ∧ 74 + 1 = 75 := ⟨by decide +kernel, rfl⟩
theorem eX6_rows_75 : decode cX6_rows 75 = .ok (.iload 7, 2) ∧ 75 + 2 = 77 := ⟨by decide +kernel, rfl⟩
theorem eX6_rows_77 : decode cX6_rows 77 = .ok (.iload_n 1, 1) ∧ 77 + 1 = 78 := ⟨by decide +kernel, rfl⟩
theorem eX6_rows_78 : decode cX6_rows 78 = .ok (.invokevirtual 169, 3) ∧ 78 + 3 = 81 := ⟨by decide +kernel, rfl⟩
theorem eX6_rows_81 : decode cX6_rows 81 = .ok (.istore 8, 2) ∧ 81 + 2 = 83 := ⟨by decide +kernel, rfl⟩
theorem eX6_rows_83 : decode cX6_rows 83 = .ok (.iload 8, 2) ∧ 83 + 2 = 85 := ⟨by decide +kernel, rfl⟩
theorem eX6_rows_85 : decode cX6_rows 85 = .ok (.bipush (-9), 2) ∧ 85 + 2 = 87 := ⟨by decide +kernel, rfl⟩
theorem eX6_rows_87 : decode cX6_rows 87 = .ok (.if_icmp .eq 20, 3) ∧ ((87 : Nat) : Int) + 20 = ((107 : Nat) : Int) ∧ 87 + 3 = 90 := ⟨by decide +kernel, by decide, rfl⟩
theorem eX6_rows_90 : decode cX6_rows 90 = .ok (.iinc 4 1, 3) ∧ 90 + 3 = 93 := ⟨by decide +kernel, rfl⟩
theorem eX6_rows_93 : decode cX6_rows 93 = .ok (.iload 5, 2) ∧ 93 + 2 = 95 := ⟨by decide +kernel, rfl⟩
theorem eX6_rows_95 : decode cX6_rows 95 = .ok (.iload 8, 2) ∧ 95 + 2 = 97 := ⟨by decide +kernel, rfl⟩
theorem eX6_rows_97 : decode cX6_rows 97 = .ok (.iand, 1) ∧ 97 + 1 = 98 := ⟨by decide +kernel, rfl⟩
theorem eX6_rows_98 : decode cX6_rows 98 = .ok (.istore 5, 2) ∧ 98 + 2 = 100 := ⟨by decide +kernel, rfl⟩
theorem eX6_rows_100 : decode cX6_rows 100 = .ok (.iload 6, 2) ∧ 100 + 2 = 102 := ⟨by decide +kernel, rfl⟩
theorem eX6_rows_102 : decode cX6_rows 102 = .ok (.iload 8, 2) ∧ 102 + 2 = 104 := ⟨by decide +kernel, rfl⟩
theorem eX6_rows_104 : decode cX6_rows 104 = .ok (.ior, 1) ∧ 104 + 1 = 105 := ⟨by decide +kernel, rfl⟩
theorem eX6_rows_105 : decode cX6_rows 105 = .ok (.istore 6, 2) ∧ 105 + 2 = 107 := ⟨by decide +kernel, rfl⟩
theorem eX6_rows_107 : decode cX6_rows 107 = .ok (.iinc 7 1, 3) ∧ 107 + 3 = 110 := ⟨by decide +kernel, rfl⟩
theorem eX6_rows_110 : decode cX6_rows 110 = .ok (.goto (-51), 3) ∧ ((110 : Nat) : Int) + (-51) = ((59 : Nat) : Int) := ⟨by decide +kernel, by decide⟩
theorem eX6_rows_113 : decode cX6_rows 113 = .ok (.iload_n 2, 1) ∧ 113 + 1 = 114 := ⟨by decide +kernel, rfl⟩
theorem eX6_rows_114 : decode cX6_rows 114 = .ok (.ifCond .ne 8, 3) ∧ ((114 : Nat) : Int) + 8 = ((122 : Nat) : Int) ∧ 114 + 3 = 117 := ⟨by decide +kernel, by decide, rfl⟩
theorem eX6_rows_117 : decode cX6_rows 117 = .ok (.iload 4, 2) ∧ 117 + 2 = 119 := ⟨by decide +kernel, rfl⟩
theorem eX6_rows_119 : decode cX6_rows 119 = .ok (.goto 32, 3) ∧ ((119 : Nat) : Int) + 32 = ((151 : Nat) : Int) := ⟨by decide +kernel, by decide⟩
theorem eX6_rows_122 : decode cX6_rows 122 = .ok (.iload 4, 2) ∧ 122 + 2 = 124 := ⟨by decide +kernel, rfl⟩
theorem eX6_rows_124 : decode cX6_rows 124 = .ok (.ifCond .ne 8, 3) ∧ ((124 : Nat) : Int) + 8 = ((132 : Nat) : Int) ∧ 124 + 3 = 127 := ⟨by decide +kernel, by decide, rfl⟩
theorem eX6_rows_127 : decode cX6_rows 127 = .ok (.bipush (-9), 2) ∧ 127 + 2 = 129 := ⟨by decide +kernel, rfl⟩
theorem eX6_rows_129 : decode cX6_rows 129 = .ok (.goto 22, 3) ∧ ((129 : Nat) : Int) + 22 = ((151 : Nat) : Int) := ⟨by decide +kernel, by decide⟩
theorem eX6_rows_132 : decode cX6_rows 132 = .ok (.iload_n 2, 1) ∧ 132 + 1 = 133 := ⟨by decide +kernel, rfl⟩
theorem eX6_rows_133 : decode cX6_rows 133 = .ok (.iconst 1, 1) ∧ 133 + 1 = 134 := ⟨by decide +kernel, rfl⟩
theorem eX6_rows_134 : decode cX6_rows 134 = .ok (.if_icmp .ne 8, 3) ∧ ((134 : Nat) : Int) + 8 = ((142 : Nat) : Int) ∧ 134 + 3 = 137 := ⟨by decide +kernel, by decide, rfl⟩
theorem eX6_rows_137 : decode cX6_rows 137 = .ok (.iload 5, 2) ∧ 137 + 2 = 139 := ⟨by decide +kernel, rfl⟩
theorem eX6_rows_139 : decode cX6_rows 139 = .ok (.goto 12, 3) ∧ ((139 : Nat) : Int) + 12 = ((151 : Nat) : Int) := ⟨by decide +kernel, by decide⟩
theorem eX6_rows_142 : decode cX6_rows 142 = .ok (.aload_n 0, 1) ∧ 142 + 1 = 143 := ⟨by decide +kernel, rfl⟩
theorem eX6_rows_143 : decode cX6_rows 143 = .ok (.invokevirtual 141, 3) ∧ 143 + 3 = 146 := ⟨by decide +kernel, rfl⟩
theorem eX6_rows_146 : decode cX6_rows 146 = .ok (.iload 6, 2) ∧ 146 + 2 = 148 := ⟨by decide +kernel, rfl⟩
theorem eX6_rows_148 : decode cX6_rows 148 = .ok (.iconst (-1), 1) ∧ 148 + 1 = 149 := ⟨by decide +kernel, rfl⟩
theorem eX6_rows_149 : decode cX6_rows 149 = .ok (.ixor, 1) ∧ 149 + 1 = 150 := ⟨by decide +kernel, rfl⟩
theorem eX6_rows_150 : decode cX6_rows 150 = .ok (.iand, 1) ∧ 150 + 1 = 151 := ⟨by decide +kernel, rfl⟩
theorem eX6_rows_151 : decode cX6_rows 151 = .ok (.ireturn, 1) := by decide +kernel
theorem eX6_factorial_0 : decode cX6_factorial 0 = .ok (.iconst 1, 1) ∧ 0 + 1 = 1 := ⟨by decide +kernel, rfl⟩
theorem eX6_factorial_1 : decode cX6_factorial 1 = .ok (.istore_n 1, 1) ∧ 1 + 1 = 2 := ⟨by decide +kernel, rfl⟩
theorem eX6_factorial_2 : decode cX6_factorial 2 = .ok (.iconst 2, 1) ∧ 2 + 1 = 3 := ⟨by decide +kernel, rfl⟩
theorem eX6_factorial_3 : decode cX6_factorial 3 = .ok (.istore_n 2, 1) ∧ 3 + 1 = 4 := ⟨by decide +kernel, rfl⟩
theorem eX6_factorial_4 : decode cX6_factorial 4 = .ok (.iload_n 2, 1) ∧ 4 + 1 = 5 := ⟨by decide +kernel, rfl⟩
theorem eX6_factorial_5 : decode cX6_factorial 5 = .ok (.iload_n 0, 1) ∧ 5 + 1 = 6 := ⟨by decide +kernel, rfl⟩
theorem eX6_factorial_6 : decode cX6_factorial 6 = .ok (.if_icmp .gt 13, 3) ∧ ((6 : Nat) : Int) + 13 = ((19 : Nat) : Int) ∧ 6 + 3 = 9 := ⟨by decide +kernel, by decide, rfl⟩
theorem eX6_factorial_9 : decode cX6_factorial 9 = .ok (.iload_n 1, 1) ∧ 9 + 1 = 10 := ⟨by decide +kernel, rfl⟩
theorem eX6_factorial_10 : decode cX6_factorial 10 = .ok (.iload_n 2, 1) ∧ 10 + 1 = 11 := ⟨by decide +kernel, rfl⟩
theorem eX6_factorial_11 : decode cX6_factorial 11 = .ok (.imul, 1) ∧ 11 + 1 = 12 := ⟨by decide +kernel, rfl⟩
theorem eX6_factorial_12 : decode cX6_factorial 12 = .ok (.istore_n 1, 1) ∧ 12 + 1 = 13 := ⟨by decide +kernel, rfl⟩
theorem eX6_factorial_13 : decode cX6_factorial 13 = .ok (.iinc 2 1, 3) ∧ 13 + 3 = 16 := ⟨by decide +kernel, rfl⟩
theorem eX6_factorial_16 : decode cX6_factorial 16 = .ok (.goto (-12), 3) ∧ ((16 : Nat) : Int) + (-12) = ((4 : Nat) : Int) := ⟨by decide +kernel, by decide⟩
theorem eX6_factorial_19 : decode cX6_factorial 19 = .ok (.iload_n 1, 1) ∧ 19 + 1 = 20 := ⟨by decide +kernel, rfl⟩
theorem eX6_factorial_20 : decode cX6_factorial 20 = .ok (.ireturn, 1) := by decide +kernel
theorem eX6_common_0 : decode cX6_common 0 = .ok (.iload_n 0, 1) ∧ 0 + 1 = 1 := ⟨by decide +kernel, rfl⟩
theorem eX6_common_1 : decode cX6_common 1 = .ok (.ifCond .ge 8, 3) ∧ ((1 : Nat) : Int) + 8 = ((9 : Nat) : Int) ∧ 1 + 3 = 4 := ⟨by decide +kernel, by decide, rfl⟩
theorem eX6_common_4 : decode cX6_common 4 = .ok (.iload_n 0, 1) ∧ 4 + 1 = 5 := ⟨by decide +kernel, rfl⟩
theorem eX6_common_5 : decode cX6_common 5 = .ok (.ineg, 1) ∧ 5 + 1 = 6 := ⟨by decide +kernel, rfl⟩
theorem eX6_common_6 : decode cX6_common 6 = .ok (.goto 4, 3) ∧ ((6 : Nat) : Int) + 4 = ((10 : Nat) : Int) := ⟨by decide +kernel, by decide⟩
theorem eX6_common_9 : decode cX6_common 9 = .ok (.iload_n 0, 1) ∧ 9 + 1 = 10 := ⟨by decide +kernel, rfl⟩
theorem eX6_common_10 : decode cX6_common 10 = .ok (.istore_n 2, 1) ∧ 10 + 1 = 11 := ⟨by decide +kernel, rfl⟩
theorem eX6_common_11 : decode cX6_common 11 = .ok (.iload_n 1, 1) ∧ 11 + 1 = 12 := ⟨by decide +kernel, rfl⟩
theorem eX6_common_12 : decode cX6_common 12 = .ok (.istore_n 3, 1) ∧ 12 + 1 = 13 := ⟨by decide +kernel, rfl⟩
theorem eX6_common_13 : decode cX6_common 13 = .ok (.iload_n 3, 1) ∧ 13 + 1 = 14 := ⟨by decide +kernel, rfl⟩
theorem eX6_common_14 : decode cX6_common 14 = .ok (.ifCond .eq 16, 3) ∧ ((14 : Nat) : Int) + 16 = ((30 : Nat) : Int) ∧ 14 + 3 = 17 := ⟨by decide +kernel, by decide, rfl⟩
theorem eX6_common_17 : decode cX6_common 17 = .ok (.iload_n 2, 1) ∧ 17 + 1 = 18 := ⟨by decide +kernel, rfl⟩
theorem eX6_common_18 : decode cX6_common 18 = .ok (.iload_n 3, 1) ∧ 18 + 1 = 19 := ⟨by decide +kernel, rfl⟩
theorem eX6_common_19 : decode cX6_common 19 = .ok (.irem, 1) ∧ 19 + 1 = 20 := ⟨by decide +kernel, rfl⟩
theorem eX6_common_20 : decode cX6_common 20 = .ok (.istore 4, 2) ∧ 20 + 2 = 22 := ⟨by decide +kernel, rfl⟩
theorem eX6_common_22 : decode cX6_common 22 = .ok (.iload_n 3, 1) ∧ 22 + 1 = 23 := ⟨by decide +kernel, rfl⟩
theorem eX6_common_23 : decode cX6_common 23 = .ok (.istore_n 2, 1) ∧ 23 + 1 = 24 := ⟨by decide +kernel, rfl⟩
theorem eX6_common_24 : decode cX6_common 24 = .ok (.iload 4, 2) ∧ 24 + 2 = 26 := ⟨by decide +kernel, rfl⟩
theorem eX6_common_26 : decode cX6_common 26 = .ok (.istore_n 3, 1) ∧ 26 + 1 = 27 := ⟨by decide +kernel, rfl⟩
theorem eX6_common_27 : decode cX6_common 27 = .ok (.goto (-14), 3) ∧ ((27 : Nat) : Int) + (-14) = ((13 : Nat) : Int) := ⟨by decide +kernel, by decide⟩
theorem eX6_common_30 : decode cX6_common 30 = .ok (.iload_n 2, 1) ∧ 30 + 1 = 31 := ⟨by decide +kernel, rfl⟩
theorem eX6_common_31 : decode cX6_common 31 = .ok (.ireturn, 1) := by decide +kernel
theorem eX6_share_0 : decode cX6_share 0 = .ok (.aload_n 0, 1) ∧ 0 + 1 = 1 := ⟨by decide +kernel, rfl⟩
theorem eX6_share_1 : decode cX6_share 1 = .ok (.iload_n 1, 1) ∧ 1 + 1 = 2 := ⟨by decide +kernel, rfl⟩
theorem eX6_share_2 : decode cX6_share 2 = .ok (.invokevirtual 109, 3) ∧ 2 + 3 = 5 := ⟨by decide +kernel, rfl⟩
theorem eX6_share_5 : decode cX6_share 5 = .ok (.ifCond .ne 5, 3) ∧ ((5 : Nat) : Int) + 5 = ((10 : Nat) : Int) ∧ 5 + 3 = 8 := ⟨by decide +kernel, by decide, rfl⟩
theorem eX6_share_8 : decode cX6_share 8 = .ok (.iconst (-1), 1) ∧ 8 + 1 = 9 := ⟨by decide +kernel, rfl⟩
theorem eX6_share_9 : decode cX6_share 9 = .ok (.ireturn, 1) := by decide +kernel
theorem eX6_share_10 : decode cX6_share 10 = .ok (.aload_n 0, 1) ∧ 10 + 1 = 11 := ⟨by decide +kernel, rfl⟩
theorem eX6_share_11 : decode cX6_share 11 = .ok (.invokevirtual 141, 3) ∧ 11 + 3 = 14 := ⟨by decide +kernel, rfl⟩
theorem eX6_share_14 : decode cX6_share 14 = .ok (.aload_n 0, 1) ∧ 14 + 1 = 15 := ⟨by decide +kernel, rfl⟩
theorem eX6_share_15 : decode cX6_share 15 = .ok (.getfield 25, 3) ∧ 15 + 3 = 18 := ⟨by decide +kernel, rfl⟩
theorem eX6_share_18 : decode cX6_share 18 = .ok (.iconst 2, 1) ∧ 18 + 1 = 19 := ⟨by decide +kernel, rfl⟩
theorem eX6_share_19 : decode cX6_share 19 = .ok (.iaload, 1) ∧ 19 + 1 = 20 := ⟨by decide +kernel, rfl⟩
theorem eX6_share_20 : decode cX6_share 20 = .ok (.iconst (-1), 1) ∧ 20 + 1 = 21 := ⟨by decide +kernel, rfl⟩
theorem eX6_share_21 : decode cX6_share 21 = .ok (.ixor, 1) ∧ 21 + 1 = 22 := ⟨by decide +kernel, rfl⟩
theorem eX6_share_22 : decode cX6_share 22 = .ok (.iand, 1) ∧ 22 + 1 = 23 := ⟨by decide +kernel, rfl⟩
theorem eX6_share_23 : decode cX6_share 23 = .ok (.istore_n 3, 1) ∧ 23 + 1 = 24 := ⟨by decide +kernel, rfl⟩
theorem eX6_share_24 : decode cX6_share 24 = .ok (.iload_n 3, 1) ∧ 24 + 1 = 25 := ⟨by decide +kernel, rfl⟩
theorem eX6_share_25 : decode cX6_share 25 = .ok (.iload_n 1, 1) ∧ 25 + 1 = 26 := ⟨by decide +kernel, rfl⟩
theorem eX6_share_26 : decode cX6_share 26 = .ok (.invokestatic 94, 3) ∧ 26 + 3 = 29 := ⟨by decide +kernel, rfl⟩
theorem eX6_share_29 : decode cX6_share 29 = .ok (.ifCond .ne 13, 3) ∧ ((29 : Nat) : Int) + 13 = ((42 : Nat) : Int) ∧ 29 + 3 = 32 := ⟨by decide +kernel, by decide, rfl⟩
theorem eX6_share_32 : decode cX6_share 32 = .ok (.iload_n 2, 1) ∧ 32 + 1 = 33 := ⟨by decide +kernel, rfl⟩
theorem eX6_share_33 : decode cX6_share 33 = .ok (.ifCond .eq 7, 3) ∧ ((33 : Nat) : Int) + 7 = ((40 : Nat) : Int) ∧ 33 + 3 = 36 := ⟨by decide +kernel, by decide, rfl⟩
theorem eX6_share_36 : decode cX6_share 36 = .ok (.iconst 0, 1) ∧ 36 + 1 = 37 := ⟨by decide +kernel, rfl⟩
theorem eX6_share_37 : decode cX6_share 37 = .ok (.goto 4, 3) ∧ ((37 : Nat) : Int) + 4 = ((41 : Nat) : Int) := ⟨by decide +kernel, by decide⟩
theorem eX6_share_40 : decode cX6_share 40 = .ok (.iconst 1, 1) ∧ 40 + 1 = 41 := ⟨by decide +kernel, rfl⟩
theorem eX6_share_41 : decode cX6_share 41 = .ok (.ireturn, 1) := by decide +kernel
theorem eX6_share_42 : decode cX6_share 42 = .ok (.iconst 0, 1) ∧ 42 + 1 = 43 := ⟨by decide +kernel, rfl⟩
theorem eX6_share_43 : decode cX6_share 43 = .ok (.istore 4, 2) ∧ 43 + 2 = 45 := ⟨by decide +kernel, rfl⟩
theorem eX6_share_45 : decode cX6_share 45 = .ok (.iload 4, 2) ∧ 45 + 2 = 47 := ⟨by decide +kernel, rfl⟩
theorem eX6_share_47 : decode cX6_share 47 = .ok (.iload_n 3, 1) ∧ 47 + 1 = 48 := ⟨by decide +kernel, rfl⟩
theorem eX6_share_48 : decode cX6_share 48 = .ok (.if_icmp .gt 36, 3) ∧ ((48 : Nat) : Int) + 36 = ((84 : Nat) : Int) ∧ 48 + 3 = 51 := ⟨by decide +kernel, by decide, rfl⟩
theorem eX6_share_51 : decode cX6_share 51 = .ok (.aload_n 0, 1) ∧ 51 + 1 = 52 := ⟨by decide +kernel, rfl⟩
theorem eX6_share_52 : decode cX6_share 52 = .ok (.getfield 43, 3) ∧ 52 + 3 = 55 := ⟨by decide +kernel, rfl⟩
theorem eX6_share_55 : decode cX6_share 55 = .ok (.iload 4, 2) ∧ 55 + 2 = 57 := ⟨by decide +kernel, rfl⟩
theorem eX6_share_57 : decode cX6_share 57 = .ok (.iload 4, 2) ∧ 57 + 2 = 59 := ⟨by decide +kernel, rfl⟩
theorem eX6_share_59 : decode cX6_share 59 = .ok (.iload_n 3, 1) ∧ 59 + 1 = 60 := ⟨by decide +kernel, rfl⟩
theorem eX6_share_60 : decode cX6_share 60 = .ok (.iconst (-1), 1) ∧ 60 + 1 = 61 := ⟨by decide +kernel, rfl⟩
theorem eX6_share_61 : decode cX6_share 61 = .ok (.ixor, 1) ∧ 61 + 1 = 62 := ⟨by decide +kernel, rfl⟩
theorem eX6_share_62 : decode cX6_share 62 = .ok (.iand, 1) ∧ 62 + 1 = 63 := ⟨by decide +kernel, rfl⟩
theorem eX6_share_63 : decode cX6_share 63 = .ok (.ifCond .ne 13, 3) ∧ ((63 : Nat) : Int) + 13 = ((76 : Nat) : Int) ∧ 63 + 3 = 66 := ⟨by decide +kernel, by decide, rfl⟩
theorem eX6_share_66 : decode cX6_share 66 = .ok (.aload_n 0, 1) ∧ 66 + 1 = 67 := ⟨by decide +kernel, rfl⟩
theorem eX6_share_67 : decode cX6_share 67 = .ok (.iconst 0, 1) ∧ 67 + 1 = 68 := ⟨by decide +kernel, rfl⟩
theorem eX6_share_68 : decode cX6_share 68 = .ok (.iload 4, 2) ∧ 68 + 2 = 70 := ⟨by decide +kernel, rfl⟩
theorem eX6_share_70 : decode cX6_share 70 = .ok (.invokevirtual 144, 3) ∧ 70 + 3 = 73 := ⟨by decide +kernel, rfl⟩
theorem eX6_share_73 : decode cX6_share 73 = .ok (.goto 4, 3) ∧ ((73 : Nat) : Int) + 4 = ((77 : Nat) : Int) := ⟨by decide +kernel, by decide⟩
theorem eX6_share_76 : decode cX6_share 76 = .ok (.iconst 0, 1) ∧ 76 + 1 = 77 := ⟨by decide +kernel, rfl⟩
theorem eX6_share_77 : decode cX6_share 77 = .ok (.iastore, 1) ∧ 77 + 1 = 78 := ⟨by decide +kernel, rfl⟩
theorem eX6_share_78 : decode cX6_share 78 = .ok (.iinc 4 1, 3) ∧ 78 + 3 = 81 := ⟨by decide +kernel, rfl⟩
theorem eX6_share_81 : decode cX6_share 81 = .ok (.goto (-36), 3) ∧ ((81 : Nat) : Int) + (-36) = ((45 : Nat) : Int) := ⟨by decide +kernel, by decide⟩
theorem eX6_share_84 : decode cX6_share 84 = .ok (.iconst 0, 1) ∧ 84 + 1 = 85 := ⟨by decide +kernel, rfl⟩
theorem eX6_share_85 : decode cX6_share 85 = .ok (.istore 4, 2) ∧ 85 + 2 = 87 := ⟨by decide +kernel, rfl⟩
theorem eX6_share_87 : decode cX6_share 87 = .ok (.iconst 0, 1) ∧ 87 + 1 = 88 := ⟨by decide +kernel, rfl⟩
theorem eX6_share_88 : decode cX6_share 88 = .ok (.istore 5, 2) ∧ 88 + 2 = 90 := ⟨by decide +kernel, rfl⟩
theorem eX6_share_90 : decode cX6_share 90 = .ok (.iload 5, 2) ∧ 90 + 2 = 92 := ⟨by decide +kernel, rfl⟩
theorem eX6_share_92 : decode cX6_share 92 = .ok (.iload_n 3, 1) ∧ 92 + 1 = 93 := ⟨by decide +kernel, rfl⟩
theorem eX6_share_93 : decode cX6_share 93 = .ok (.if_icmp .gt 80, 3) ∧ ((93 : Nat) : Int) + 80 = ((173 : Nat) : Int) ∧ 93 + 3 = 96 := ⟨by decide +kernel, by decide, rfl⟩
theorem eX6_share_96 : decode cX6_share 96 = .ok (.iload 5, 2) ∧ 96 + 2 = 98 := ⟨by decide +kernel, rfl⟩
theorem eX6_share_98 : decode cX6_share 98 = .ok (.iload_n 3, 1) ∧ 98 + 1 = 99 := ⟨by decide +kernel, rfl⟩
theorem eX6_share_99 : decode cX6_share 99 = .ok (.iconst (-1), 1) ∧ 99 + 1 = 100 := ⟨by decide +kernel, rfl⟩
theorem eX6_share_100 : decode cX6_share 100 = .ok (.ixor, 1) ∧ 100 + 1 = 101 := ⟨by decide +kernel, rfl⟩
theorem eX6_share_101 : decode cX6_share 101 = .ok (.iand, 1) ∧ 101 + 1 = 102 := ⟨by decide +kernel, rfl⟩
theorem eX6_share_102 : decode cX6_share 102 = .ok (.ifCond .ne 65, 3) ∧ ((102 : Nat) : Int) + 65 = ((167 : Nat) : Int) ∧ 102 + 3 = 105 := ⟨by decide +kernel, by decide, rfl⟩
theorem eX6_share_105 : decode cX6_share 105 = .ok (.iload 5, 2) ∧ 105 + 2 = 107 := ⟨by decide +kernel, rfl⟩
theorem eX6_share_107 : decode cX6_share 107 = .ok (.iload_n 1, 1) ∧ 107 + 1 = 108 := ⟨by decide +kernel, rfl⟩
theorem eX6_share_108 : decode cX6_share 108 = .ok (.invokestatic 94, 3) ∧ 108 + 3 = 111 := ⟨by decide +kernel, rfl⟩
theorem eX6_share_111 : decode cX6_share 111 = .ok (.ifCond .ne 56, 3) ∧ ((111 : Nat) : Int) + 56 = ((167 : Nat) : Int) ∧ 111 + 3 = 114 := ⟨by decide +kernel, by decide, rfl⟩
theorem eX6_share_114 : decode cX6_share 114 = .ok (.iload 5, 2) ∧ 114 + 2 = 116 := ⟨by decide +kernel, rfl⟩
theorem eX6_share_116 : decode cX6_share 116 = .ok (.invokestatic 130, 3) ∧ 116 + 3 = 119 := ⟨by decide +kernel, rfl⟩
theorem eX6_share_119 : decode cX6_share 119 = .ok (.invokestatic 172, 3) ∧ 119 + 3 = 122 := ⟨by decide +kernel, rfl⟩
theorem eX6_share_122 : decode cX6_share 122 = .ok (.iload_n 3, 1) ∧ 122 + 1 = 123 := ⟨by decide +kernel, rfl⟩
theorem eX6_share_123 : decode cX6_share 123 = .ok (.invokestatic 130, 3) ∧ 123 + 3 = 126 := ⟨by decide +kernel, rfl⟩
theorem eX6_share_126 : decode cX6_share 126 = .ok (.iconst 1, 1) ∧ 126 + 1 = 127 := ⟨by decide +kernel, rfl⟩
theorem eX6_share_127 : decode cX6_share 127 = .ok (.isub, 1) ∧ 127 + 1 = 128 := ⟨by decide +kernel, rfl⟩
theorem eX6_share_128 : decode cX6_share 128 = .ok (.iload 5, 2) ∧ 128 + 2 = 130 := ⟨by decide +kernel, rfl⟩
theorem eX6_share_130 : decode cX6_share 130 = .ok (.invokestatic 130, 3) ∧ 130 + 3 = 133 := ⟨by decide +kernel, rfl⟩
theorem eX6_share_133 : decode cX6_share 133 = .ok (.isub, 1) ∧ 133 + 1 = 134 := ⟨by decide +kernel, rfl⟩
theorem eX6_share_134 : decode cX6_share 134 = .ok (.invokestatic 172, 3) ∧ 134 + 3 = 137 := ⟨by decide +kernel, rfl⟩
theorem eX6_share_137 : decode cX6_share 137 = .ok (.imul, 1) ∧ 137 + 1 = 138 := ⟨by decide +kernel, rfl⟩
theorem eX6_share_138 : decode cX6_share 138 = .ok (.istore 6, 2) ∧ 138 + 2 = 140 := ⟨by decide +kernel, rfl⟩
theorem eX6_share_140 : decode cX6_share 140 = .ok (.iload 4, 2) ∧ 140 + 2 = 142 := ⟨by decide +kernel, rfl⟩
theorem eX6_share_142 : decode cX6_share 142 = .ok (.iload 6, 2) ∧ 142 + 2 = 144 := ⟨by decide +kernel, rfl⟩
theorem eX6_share_144 : decode cX6_share 144 = .ok (.aload_n 0, 1) ∧ 144 + 1 = 145 := ⟨by decide +kernel, rfl⟩
theorem eX6_share_145 : decode cX6_share 145 = .ok (.getfield 43, 3) ∧ 145 + 3 = 148 := ⟨by decide +kernel, rfl⟩
theorem eX6_share_148 : decode cX6_share 148 = .ok (.iload 5, 2) ∧ 148 + 2 = 150 := ⟨by decide +kernel, rfl⟩
theorem eX6_share_150 : decode cX6_share 150 = .ok (.iconst 1, 1) ∧ 150 + 1 = 151 := ⟨by decide +kernel, rfl⟩
theorem eX6_share_151 : decode cX6_share 151 = .ok (.iload_n 1, 1) ∧ 151 + 1 = 152 := ⟨by decide +kernel, rfl⟩
theorem eX6_share_152 : decode cX6_share 152 = .ok (.ishl, 1) ∧ 152 + 1 = 153 := ⟨by decide +kernel, rfl⟩
theorem eX6_share_153 : decode cX6_share 153 = .ok (.ior, 1) ∧ 153 + 1 = 154 := ⟨by decide +kernel, rfl⟩
theorem eX6_share_154 : decode cX6_share 154 = .ok (.iaload, 1) ∧ 154 + 1 = 155 := ⟨by decide +kernel, rfl⟩
theorem eX6_share_155 : decode cX6_share 155 = .ok (.aload_n 0, 1) ∧ 155 + 1 = 156 := ⟨by decide +kernel, rfl⟩
theorem eX6_share_156 : decode cX6_share 156 = .ok (.getfield 43, 3) ∧ 156 + 3 = 159 := ⟨by decide +kernel, rfl⟩
theorem eX6_share_159 : decode cX6_share 159 = .ok (.iload 5, 2) ∧ 159 + 2 = 161 := ⟨by decide +kernel, rfl⟩
theorem eX6_share_161 : decode cX6_share 161 = .ok (.iaload, 1) ∧ 161 + 1 = 162 := ⟨by decide +kernel, rfl⟩
theorem eX6_share_162 : decode cX6_share 162 = .ok (.isub, 1) ∧ 162 + 1 = 163 := ⟨by decide +kernel, rfl⟩
theorem eX6_share_163 : decode cX6_share 163 = .ok (.imul, 1) ∧ 163 + 1 = 164 := ⟨by decide +kernel, rfl⟩
theorem eX6_share_164 : decode cX6_share 164 = .ok (.iadd, 1) ∧ 164 + 1 = 165 := ⟨by decide +kernel, rfl⟩
theorem eX6_share_165 : decode cX6_share 165 = .ok (.istore 4, 2) ∧ 165 + 2 = 167 := ⟨by decide +kernel, rfl⟩
theorem eX6_share_167 : decode cX6_share 167 = .ok (.iinc 5 1, 3) ∧ 167 + 3 = 170 := ⟨by decide +kernel, rfl⟩
theorem eX6_share_170 : decode cX6_share 170 = .ok (.goto (-80), 3) ∧ ((170 : Nat) : Int) + (-80) = ((90 : Nat) : Int) := ⟨by decide +kernel, by decide⟩
theorem eX6_share_173 : decode cX6_share 173 = .ok (.iload 4, 2) ∧ 173 + 2 = 175 := ⟨by decide +kernel, rfl⟩
theorem eX6_share_175 : decode cX6_share 175 = .ok (.iload_n 3, 1) ∧ 175 + 1 = 176 := ⟨by decide +kernel, rfl⟩
theorem eX6_share_176 : decode cX6_share 176 = .ok (.invokestatic 130, 3) ∧ 176 + 3 = 179 := ⟨by decide +kernel, rfl⟩
theorem eX6_share_179 : decode cX6_share 179 = .ok (.invokestatic 172, 3) ∧ 179 + 3 = 182 := ⟨by decide +kernel, rfl⟩
theorem eX6_share_182 : decode cX6_share 182 = .ok (.invokestatic 175, 3) ∧ 182 + 3 = 185 := ⟨by decide +kernel, rfl⟩
theorem eX6_share_185 : decode cX6_share 185 = .ok (.istore 5, 2) ∧ 185 + 2 = 187 := ⟨by decide +kernel, rfl⟩
theorem eX6_share_187 : decode cX6_share 187 = .ok (.iload_n 2, 1) ∧ 187 + 1 = 188 := ⟨by decide +kernel, rfl⟩
theorem eX6_share_188 : decode cX6_share 188 = .ok (.ifCond .eq 11, 3) ∧ ((188 : Nat) : Int) + 11 = ((199 : Nat) : Int) ∧ 188 + 3 = 191 := ⟨by decide +kernel, by decide, rfl⟩
theorem eX6_share_191 : decode cX6_share 191 = .ok (.iload 4, 2) ∧ 191 + 2 = 193 := ⟨by decide +kernel, rfl⟩
theorem eX6_share_193 : decode cX6_share 193 = .ok (.iload 5, 2) ∧ 193 + 2 = 195 := ⟨by decide +kernel, rfl⟩
theorem eX6_share_195 : decode cX6_share 195 = .ok (.idiv, 1) ∧ 195 + 1 = 196 := ⟨by decide +kernel, rfl⟩
theorem eX6_share_196 : decode cX6_share 196 = .ok (.goto 13, 3) ∧ ((196 : Nat) : Int) + 13 = ((209 : Nat) : Int) := ⟨by decide +kernel, by decide⟩
theorem eX6_share_199 : decode cX6_share 199 = .ok (.iload_n 3, 1) ∧ 199 + 1 = 200 := ⟨by decide +kernel, rfl⟩
theorem eX6_share_200 : decode cX6_share 200 = .ok (.invokestatic 130, 3) ∧ 200 + 3 = 203 := ⟨by decide +kernel, rfl⟩
theorem eX6_share_203 : decode cX6_share 203 = .ok (.invokestatic 172, 3) ∧ 203 + 3 = 206 := ⟨by decide +kernel, rfl⟩
theorem eX6_share_206 : decode cX6_share 206 = .ok (.iload 5, 2) ∧ 206 + 2 = 208 := ⟨by decide +kernel, rfl⟩
theorem eX6_share_208 : decode cX6_share 208 = .ok (.idiv, 1) ∧ 208 + 1 = 209 := ⟨by decide +kernel, rfl⟩
theorem eX6_share_209 : decode cX6_share 209 = .ok (.ireturn, 1) := by decide +kernel
theorem eX6_bringsOf_0 : decode cX6_bringsOf 0 = .ok (.iload_n 1, 1) ∧ 0 + 1 = 1 := ⟨by decide +kernel, rfl⟩
theorem eX6_bringsOf_1 : decode cX6_bringsOf 1 = .ok (.aload_n 0, 1) ∧ 1 + 1 = 2 := ⟨by decide +kernel, rfl⟩
theorem eX6_bringsOf_2 : decode cX6_bringsOf 2 = .ok (.getfield 25, 3) ∧ 2 + 3 = 5 := ⟨by decide +kernel, rfl⟩
theorem eX6_bringsOf_5 : decode cX6_bringsOf 5 = .ok (.iconst 0, 1) ∧ 5 + 1 = 6 := ⟨by decide +kernel, rfl⟩
theorem eX6_bringsOf_6 : decode cX6_bringsOf 6 = .ok (.iaload, 1) ∧ 6 + 1 = 7 := ⟨by decide +kernel, rfl⟩
theorem eX6_bringsOf_7 : decode cX6_bringsOf 7 = .ok (.isub, 1) ∧ 7 + 1 = 8 := ⟨by decide +kernel, rfl⟩
theorem eX6_bringsOf_8 : decode cX6_bringsOf 8 = .ok (.istore_n 2, 1) ∧ 8 + 1 = 9 := ⟨by decide +kernel, rfl⟩
theorem eX6_bringsOf_9 : decode cX6_bringsOf 9 = .ok (.iload_n 1, 1) ∧ 9 + 1 = 10 := ⟨by decide +kernel, rfl⟩
theorem eX6_bringsOf_10 : decode cX6_bringsOf 10 = .ok (.bipush (-9), 2) ∧ 10 + 2 = 12 := ⟨by decide +kernel, rfl⟩
theorem eX6_bringsOf_12 : decode cX6_bringsOf 12 = .ok (.if_icmp .eq 8, 3) ∧ ((12 : Nat) : Int) + 8 = ((20 : Nat) : Int) ∧ 12 + 3 = 15 := ⟨by decide +kernel, by decide, rfl⟩
theorem eX6_bringsOf_15 : decode cX6_bringsOf 15 = .ok (.iload_n 2, 1) ∧ 15 + 1 = 16 := ⟨by decide +kernel, rfl⟩
theorem eX6_bringsOf_16 : decode cX6_bringsOf 16 = .ok (.iconst 4, 1) ∧ 16 + 1 = 17 := ⟨by decide +kernel, rfl⟩
theorem eX6_bringsOf_17 : decode cX6_bringsOf 17 = .ok (.if_icmp .le 7, 3) ∧ ((17 : Nat) : Int) + 7 = ((24 : Nat) : Int) ∧ 17 + 3 = 20 := ⟨by decide +kernel, by decide, rfl⟩
theorem eX6_bringsOf_20 : decode cX6_bringsOf 20 = .ok (.iconst 0, 1) ∧ 20 + 1 = 21 := ⟨by decide +kernel, rfl⟩
theorem eX6_bringsOf_21 : decode cX6_bringsOf 21 = .ok (.goto 6, 3) ∧ ((21 : Nat) : Int) + 6 = ((27 : Nat) : Int) := ⟨by decide +kernel, by decide⟩
theorem eX6_bringsOf_24 : decode cX6_bringsOf 24 = .ok (.iconst 4, 1) ∧ 24 + 1 = 25 := ⟨by decide +kernel, rfl⟩
theorem eX6_bringsOf_25 : decode cX6_bringsOf 25 = .ok (.iload_n 2, 1) ∧ 25 + 1 = 26 := ⟨by decide +kernel, rfl⟩
theorem eX6_bringsOf_26 : decode cX6_bringsOf 26 = .ok (.isub, 1) ∧ 26 + 1 = 27 := ⟨by decide +kernel, rfl⟩
theorem eX6_bringsOf_27 : decode cX6_bringsOf 27 = .ok (.ireturn, 1) := by decide +kernel
theorem eX6_gain_0 : decode cX6_gain 0 = .ok (.iload_n 3, 1) ∧ 0 + 1 = 1 := ⟨by decide +kernel, rfl⟩
theorem eX6_gain_1 : decode cX6_gain 1 = .ok (.iload 4, 2) ∧ 1 + 2 = 3 := ⟨by decide +kernel, rfl⟩
theorem eX6_gain_3 : decode cX6_gain 3 = .ok (.if_icmp .ne 16, 3) ∧ ((3 : Nat) : Int) + 16 = ((19 : Nat) : Int) ∧ 3 + 3 = 6 := ⟨by decide +kernel, by decide, rfl⟩
theorem eX6_gain_6 : decode cX6_gain 6 = .ok (.iload_n 1, 1) ∧ 6 + 1 = 7 := ⟨by decide +kernel, rfl⟩
theorem eX6_gain_7 : decode cX6_gain 7 = .ok (.iload_n 2, 1) ∧ 7 + 1 = 8 := ⟨by decide +kernel, rfl⟩
theorem eX6_gain_8 : decode cX6_gain 8 = .ok (.if_icmp .ge 7, 3) ∧ ((8 : Nat) : Int) + 7 = ((15 : Nat) : Int) ∧ 8 + 3 = 11 := ⟨by decide +kernel, by decide, rfl⟩
theorem eX6_gain_11 : decode cX6_gain 11 = .ok (.iconst 1, 1) ∧ 11 + 1 = 12 := ⟨by decide +kernel, rfl⟩
theorem eX6_gain_12 : decode cX6_gain 12 = .ok (.goto 18, 3) ∧ ((12 : Nat) : Int) + 18 = ((30 : Nat) : Int) := ⟨by decide +kernel, by decide⟩
theorem eX6_gain_15 : decode cX6_gain 15 = .ok (.iconst 0, 1) ∧ 15 + 1 = 16 := ⟨by decide +kernel, rfl⟩
theorem eX6_gain_16 : decode cX6_gain 16 = .ok (.goto 14, 3) ∧ ((16 : Nat) : Int) + 14 = ((30 : Nat) : Int) := ⟨by decide +kernel, by decide⟩
theorem eX6_gain_19 : decode cX6_gain 19 = .ok (.iload_n 3, 1) ∧ 19 + 1 = 20 := ⟨by decide +kernel, rfl⟩
theorem eX6_gain_20 : decode cX6_gain 20 = .ok (.iload 4, 2) ∧ 20 + 2 = 22 := ⟨by decide +kernel, rfl⟩
theorem eX6_gain_22 : decode cX6_gain 22 = .ok (.if_icmp .le 7, 3) ∧ ((22 : Nat) : Int) + 7 = ((29 : Nat) : Int) ∧ 22 + 3 = 25 := ⟨by decide +kernel, by decide, rfl⟩
theorem eX6_gain_25 : decode cX6_gain 25 = .ok (.iconst 1, 1) ∧ 25 + 1 = 26 := ⟨by decide +kernel, rfl⟩
theorem eX6_gain_26 : decode cX6_gain 26 = .ok (.goto 4, 3) ∧ ((26 : Nat) : Int) + 4 = ((30 : Nat) : Int) := ⟨by decide +kernel, by decide⟩
theorem eX6_gain_29 : decode cX6_gain 29 = .ok (.iconst 0, 1) ∧ 29 + 1 = 30 := ⟨by decide +kernel, rfl⟩
theorem eX6_gain_30 : decode cX6_gain 30 = .ok (.istore 5, 2) ∧ 30 + 2 = 32 := ⟨by decide +kernel, rfl⟩
theorem eX6_gain_32 : decode cX6_gain 32 = .ok (.aload_n 0, 1) ∧ 32 + 1 = 33 := ⟨by decide +kernel, rfl⟩
theorem eX6_gain_33 : decode cX6_gain 33 = .ok (.invokevirtual 137, 3) ∧ 33 + 3 = 36 := ⟨by decide +kernel, rfl⟩
theorem eX6_gain_36 : decode cX6_gain 36 = .ok (.iload 5, 2) ∧ 36 + 2 = 38 := ⟨by decide +kernel, rfl⟩
theorem eX6_gain_38 : decode cX6_gain 38 = .ok (.ifCond .ne 10, 3) ∧ ((38 : Nat) : Int) + 10 = ((48 : Nat) : Int) ∧ 38 + 3 = 41 := ⟨by decide +kernel, by decide, rfl⟩
theorem eX6_gain_41 : decode cX6_gain 41 = .ok (.aload_n 0, 1) ∧ 41 + 1 = 42 := ⟨by decide +kernel, rfl⟩
theorem eX6_gain_42 : decode cX6_gain 42 = .ok (.iconst 1, 1) ∧ 42 + 1 = 43 := ⟨by decide +kernel, rfl⟩
theorem eX6_gain_43 : decode cX6_gain 43 = .ok (.iload_n 2, 1) ∧ 43 + 1 = 44 := ⟨by decide +kernel, rfl⟩
theorem eX6_gain_44 : decode cX6_gain 44 = .ok (.invokevirtual 123, 3) ∧ 44 + 3 = 47 := ⟨by decide +kernel, rfl⟩
theorem eX6_gain_47 : decode cX6_gain 47 = .ok (.pop, 1) ∧ 47 + 1 = 48 := ⟨by decide +kernel, rfl⟩
theorem eX6_gain_48 : decode cX6_gain 48 = .ok (.aload_n 0, 1) ∧ 48 + 1 = 49 := ⟨by decide +kernel, rfl⟩
theorem eX6_gain_49 : decode cX6_gain 49 = .ok (.aload_n 0, 1) ∧ 49 + 1 = 50 := ⟨by decide +kernel, rfl⟩
theorem eX6_gain_50 : decode cX6_gain 50 = .ok (.iconst 1, 1) ∧ 50 + 1 = 51 := ⟨by decide +kernel, rfl⟩
theorem eX6_gain_51 : decode cX6_gain 51 = .ok (.iload_n 1, 1) ∧ 51 + 1 = 52 := ⟨by decide +kernel, rfl⟩
theorem eX6_gain_52 : decode cX6_gain 52 = .ok (.invokevirtual 102, 3) ∧ 52 + 3 = 55 := ⟨by decide +kernel, rfl⟩
theorem eX6_gain_55 : decode cX6_gain 55 = .ok (.invokevirtual 178, 3) ∧ 55 + 3 = 58 := ⟨by decide +kernel, rfl⟩
theorem eX6_gain_58 : decode cX6_gain 58 = .ok (.iload_n 3, 1) ∧ 58 + 1 = 59 := ⟨by decide +kernel, rfl⟩
theorem eX6_gain_59 : decode cX6_gain 59 = .ok (.isub, 1) ∧ 59 + 1 = 60 := ⟨by decide +kernel, rfl⟩
theorem eX6_gain_60 : decode cX6_gain 60 = .ok (.ireturn, 1) := by decide +kernel
theorem eX6_isRest_0 : decode cX6_isRest 0 = .ok (.aload_n 0, 1) ∧ 0 + 1 = 1 := ⟨by decide +kernel, rfl⟩
theorem eX6_isRest_1 : decode cX6_isRest 1 = .ok (.iload_n 1, 1) ∧ 1 + 1 = 2 := ⟨by decide +kernel, rfl⟩
theorem eX6_isRest_2 : decode cX6_isRest 2 = .ok (.iload_n 2, 1) ∧ 2 + 1 = 3 := ⟨by decide +kernel, rfl⟩
theorem eX6_isRest_3 : decode cX6_isRest 3 = .ok (.iconst 1, 1) ∧ 3 + 1 = 4 := ⟨by decide +kernel, rfl⟩
theorem eX6_isRest_4 : decode cX6_isRest 4 = .ok (.iload_n 3, 1) ∧ 4 + 1 = 5 := ⟨by decide +kernel, rfl⟩
theorem eX6_isRest_5 : decode cX6_isRest 5 = .ok (.isub, 1) ∧ 5 + 1 = 6 := ⟨by decide +kernel, rfl⟩
theorem eX6_isRest_6 : decode cX6_isRest 6 = .ok (.iload 4, 2) ∧ 6 + 2 = 8 := ⟨by decide +kernel, rfl⟩
theorem eX6_isRest_8 : decode cX6_isRest 8 = .ok (.invokevirtual 181, 3) ∧ 8 + 3 = 11 := ⟨by decide +kernel, rfl⟩
theorem eX6_isRest_11 : decode cX6_isRest 11 = .ok (.aload_n 0, 1) ∧ 11 + 1 = 12 := ⟨by decide +kernel, rfl⟩
theorem eX6_isRest_12 : decode cX6_isRest 12 = .ok (.iload_n 1, 1) ∧ 12 + 1 = 13 := ⟨by decide +kernel, rfl⟩
theorem eX6_isRest_13 : decode cX6_isRest 13 = .ok (.iload_n 2, 1) ∧ 13 + 1 = 14 := ⟨by decide +kernel, rfl⟩
theorem eX6_isRest_14 : decode cX6_isRest 14 = .ok (.iload_n 3, 1) ∧ 14 + 1 = 15 := ⟨by decide +kernel, rfl⟩
theorem eX6_isRest_15 : decode cX6_isRest 15 = .ok (.iload 4, 2) ∧ 15 + 2 = 17 := ⟨by decide +kernel, rfl⟩
theorem eX6_isRest_17 : decode cX6_isRest 17 = .ok (.invokevirtual 181, 3) ∧ 17 + 3 = 20 := ⟨by decide +kernel, rfl⟩
theorem eX6_isRest_20 : decode cX6_isRest 20 = .ok (.if_icmp .gt 30, 3) ∧ ((20 : Nat) : Int) + 30 = ((50 : Nat) : Int) ∧ 20 + 3 = 23 := ⟨by decide +kernel, by decide, rfl⟩
theorem eX6_isRest_23 : decode cX6_isRest 23 = .ok (.aload_n 0, 1) ∧ 23 + 1 = 24 := ⟨by decide +kernel, rfl⟩
theorem eX6_isRest_24 : decode cX6_isRest 24 = .ok (.iload_n 2, 1) ∧ 24 + 1 = 25 := ⟨by decide +kernel, rfl⟩
theorem eX6_isRest_25 : decode cX6_isRest 25 = .ok (.iload_n 1, 1) ∧ 25 + 1 = 26 := ⟨by decide +kernel, rfl⟩
theorem eX6_isRest_26 : decode cX6_isRest 26 = .ok (.iconst 1, 1) ∧ 26 + 1 = 27 := ⟨by decide +kernel, rfl⟩
theorem eX6_isRest_27 : decode cX6_isRest 27 = .ok (.iload 4, 2) ∧ 27 + 2 = 29 := ⟨by decide +kernel, rfl⟩
theorem eX6_isRest_29 : decode cX6_isRest 29 = .ok (.isub, 1) ∧ 29 + 1 = 30 := ⟨by decide +kernel, rfl⟩
theorem eX6_isRest_30 : decode cX6_isRest 30 = .ok (.iload_n 3, 1) ∧ 30 + 1 = 31 := ⟨by decide +kernel, rfl⟩
theorem eX6_isRest_31 : decode cX6_isRest 31 = .ok (.invokevirtual 181, 3) ∧ 31 + 3 = 34 := ⟨by decide +kernel, rfl⟩
theorem eX6_isRest_34 : decode cX6_isRest 34 = .ok (.aload_n 0, 1) ∧ 34 + 1 = 35 := ⟨by decide +kernel, rfl⟩
theorem eX6_isRest_35 : decode cX6_isRest 35 = .ok (.iload_n 2, 1) ∧ 35 + 1 = 36 := ⟨by decide +kernel, rfl⟩
theorem eX6_isRest_36 : decode cX6_isRest 36 = .ok (.iload_n 1, 1) ∧ 36 + 1 = 37 := ⟨by decide +kernel, rfl⟩
theorem eX6_isRest_37 : decode cX6_isRest 37 = .ok (.iload 4, 2) ∧ 37 + 2 = 39 := ⟨by decide +kernel, rfl⟩
theorem eX6_isRest_39 : decode cX6_isRest 39 = .ok (.iload_n 3, 1) ∧ 39 + 1 = 40 := ⟨by decide +kernel, rfl⟩
theorem eX6_isRest_40 : decode cX6_isRest 40 = .ok (.invokevirtual 181, 3) ∧ 40 + 3 = 43 := ⟨by decide +kernel, rfl⟩
theorem eX6_isRest_43 : decode cX6_isRest 43 = .ok (.if_icmp .gt 7, 3) ∧ ((43 : Nat) : Int) + 7 = ((50 : Nat) : Int) ∧ 43 + 3 = 46 := ⟨by decide +kernel, by decide, rfl⟩
theorem eX6_isRest_46 : decode cX6_isRest 46 = .ok (.iconst 1, 1) ∧ 46 + 1 = 47 := ⟨by decide +kernel, rfl⟩
theorem eX6_isRest_47 : decode cX6_isRest 47 = .ok (.goto 4, 3) ∧ ((47 : Nat) : Int) + 4 = ((51 : Nat) : Int) := ⟨by decide +kernel, by decide⟩
theorem eX6_isRest_50 : decode cX6_isRest 50 = .ok (.iconst 0, 1) ∧ 50 + 1 = 51 := ⟨by decide +kernel, rfl⟩
theorem eX6_isRest_51 : decode cX6_isRest 51 = .ok (.ireturn, 1) := by decide +kernel
theorem eX6_rests_0 : decode cX6_rests 0 = .ok (.aload_n 0, 1) ∧ 0 + 1 = 1 := ⟨by decide +kernel, rfl⟩
theorem eX6_rests_1 : decode cX6_rests 1 = .ok (.iload_n 1, 1) ∧ 1 + 1 = 2 := ⟨by decide +kernel, rfl⟩
theorem eX6_rests_2 : decode cX6_rests 2 = .ok (.invokevirtual 109, 3) ∧ 2 + 3 = 5 := ⟨by decide +kernel, rfl⟩
theorem eX6_rests_5 : decode cX6_rests 5 = .ok (.ifCond .eq 11, 3) ∧ ((5 : Nat) : Int) + 11 = ((16 : Nat) : Int) ∧ 5 + 3 = 8 := ⟨by decide +kernel, by decide, rfl⟩
theorem eX6_rests_8 : decode cX6_rests 8 = .ok (.aload_n 0, 1) ∧ 8 + 1 = 9 := ⟨by decide +kernel, rfl⟩
theorem eX6_rests_9 : decode cX6_rests 9 = .ok (.iload_n 2, 1) ∧ 9 + 1 = 10 := ⟨by decide +kernel, rfl⟩
theorem eX6_rests_10 : decode cX6_rests 10 = .ok (.invokevirtual 109, 3) ∧ 10 + 3 = 13 := ⟨by decide +kernel, rfl⟩
theorem eX6_rests_13 : decode cX6_rests 13 = .ok (.ifCond .ne 5, 3) ∧ ((13 : Nat) : Int) + 5 = ((18 : Nat) : Int) ∧ 13 + 3 = 16 := ⟨by decide +kernel, by decide, rfl⟩
theorem eX6_rests_16 : decode cX6_rests 16 = .ok (.iconst (-1), 1) ∧ 16 + 1 = 17 := ⟨by decide +kernel, rfl⟩
theorem eX6_rests_17 : decode cX6_rests 17 = .ok (.ireturn, 1) := by decide +kernel
theorem eX6_rests_18 : decode cX6_rests 18 = .ok (.iload_n 1, 1) ∧ 18 + 1 = 19 := ⟨by decide +kernel, rfl⟩
theorem eX6_rests_19 : decode cX6_rests 19 = .ok (.iload_n 2, 1) ∧ 19 + 1 = 20 := ⟨by decide +kernel, rfl⟩
theorem eX6_rests_20 : decode cX6_rests 20 = .ok (.if_icmp .eq 13, 3) ∧ ((20 : Nat) : Int) + 13 = ((33 : Nat) : Int) ∧ 20 + 3 = 23 := ⟨by decide +kernel, by decide, rfl⟩
theorem eX6_rests_23 : decode cX6_rests 23 = .ok (.iload_n 3, 1) ∧ 23 + 1 = 24 := ⟨by decide +kernel, rfl⟩
theorem eX6_rests_24 : decode cX6_rests 24 = .ok (.i2l, 1) ∧ 24 + 1 = 25 := ⟨by decide +kernel, rfl⟩
theorem eX6_rests_25 : decode cX6_rests 25 = .ok (.lconst 0, 1) ∧ 25 + 1 = 26 := ⟨by decide +kernel, rfl⟩
theorem eX6_rests_26 : decode cX6_rests 26 = .ok (.lconst 1, 1) ∧ 26 + 1 = 27 := ⟨by decide +kernel, rfl⟩
theorem eX6_rests_27 : decode cX6_rests 27 = .ok (.invokestatic 59, 3) ∧ 27 + 3 = 30 := ⟨by decide +kernel, rfl⟩
theorem eX6_rests_30 : decode cX6_rests 30 = .ok (.ifCond .ne 6, 3) ∧ ((30 : Nat) : Int) + 6 = ((36 : Nat) : Int) ∧ 30 + 3 = 33 := ⟨by decide +kernel, by decide, rfl⟩
theorem eX6_rests_33 : decode cX6_rests 33 = .ok (.bipush (-2), 2) ∧ 33 + 2 = 35 := ⟨by decide +kernel, rfl⟩
theorem eX6_rests_35 : decode cX6_rests 35 = .ok (.ireturn, 1) := by decide +kernel
theorem eX6_rests_36 : decode cX6_rests 36 = .ok (.aload_n 0, 1) ∧ 36 + 1 = 37 := ⟨by decide +kernel, rfl⟩
theorem eX6_rests_37 : decode cX6_rests 37 = .ok (.getfield 25, 3) ∧ 37 + 3 = 40 := ⟨by decide +kernel, rfl⟩
theorem eX6_rests_40 : decode cX6_rests 40 = .ok (.iconst 2, 1) ∧ 40 + 1 = 41 := ⟨by decide +kernel, rfl⟩
theorem eX6_rests_41 : decode cX6_rests 41 = .ok (.iaload, 1) ∧ 41 + 1 = 42 := ⟨by decide +kernel, rfl⟩
theorem eX6_rests_42 : decode cX6_rests 42 = .ok (.iload_n 1, 1) ∧ 42 + 1 = 43 := ⟨by decide +kernel, rfl⟩
theorem eX6_rests_43 : decode cX6_rests 43 = .ok (.invokestatic 94, 3) ∧ 43 + 3 = 46 := ⟨by decide +kernel, rfl⟩
theorem eX6_rests_46 : decode cX6_rests 46 = .ok (.ifCond .ne 16, 3) ∧ ((46 : Nat) : Int) + 16 = ((62 : Nat) : Int) ∧ 46 + 3 = 49 := ⟨by decide +kernel, by decide, rfl⟩
theorem eX6_rests_49 : decode cX6_rests 49 = .ok (.aload_n 0, 1) ∧ 49 + 1 = 50 := ⟨by decide +kernel, rfl⟩
theorem eX6_rests_50 : decode cX6_rests 50 = .ok (.getfield 25, 3) ∧ 50 + 3 = 53 := ⟨by decide +kernel, rfl⟩
theorem eX6_rests_53 : decode cX6_rests 53 = .ok (.iconst 2, 1) ∧ 53 + 1 = 54 := ⟨by decide +kernel, rfl⟩
theorem eX6_rests_54 : decode cX6_rests 54 = .ok (.iaload, 1) ∧ 54 + 1 = 55 := ⟨by decide +kernel, rfl⟩
theorem eX6_rests_55 : decode cX6_rests 55 = .ok (.iload_n 2, 1) ∧ 55 + 1 = 56 := ⟨by decide +kernel, rfl⟩
theorem eX6_rests_56 : decode cX6_rests 56 = .ok (.invokestatic 94, 3) ∧ 56 + 3 = 59 := ⟨by decide +kernel, rfl⟩
theorem eX6_rests_59 : decode cX6_rests 59 = .ok (.ifCond .eq 6, 3) ∧ ((59 : Nat) : Int) + 6 = ((65 : Nat) : Int) ∧ 59 + 3 = 62 := ⟨by decide +kernel, by decide, rfl⟩
theorem eX6_rests_62 : decode cX6_rests 62 = .ok (.bipush (-3), 2) ∧ 62 + 2 = 64 := ⟨by decide +kernel, rfl⟩
theorem eX6_rests_64 : decode cX6_rests 64 = .ok (.ireturn, 1) := by decide +kernel
theorem eX6_rests_65 : decode cX6_rests 65 = .ok (.iconst 0, 1) ∧ 65 + 1 = 66 := ⟨by decide +kernel, rfl⟩
theorem eX6_rests_66 : decode cX6_rests 66 = .ok (.istore 4, 2) ∧ 66 + 2 = 68 := ⟨by decide +kernel, rfl⟩
theorem eX6_rests_68 : decode cX6_rests 68 = .ok (.bipush (-9), 2) ∧ 68 + 2 = 70 := ⟨by decide +kernel, rfl⟩
theorem eX6_rests_70 : decode cX6_rests 70 = .ok (.istore 5, 2) ∧ 70 + 2 = 72 := ⟨by decide +kernel, rfl⟩
theorem eX6_rests_72 : decode cX6_rests 72 = .ok (.iconst 0, 1) ∧ 72 + 1 = 73 := ⟨by decide +kernel, rfl⟩
theorem eX6_rests_73 : decode cX6_rests 73 = .ok (.istore 6, 2) ∧ 73 + 2 = 75 := ⟨by decide +kernel, rfl⟩
theorem eX6_rests_75 : decode cX6_rests 75 = .ok (.iload 6, 2) ∧ 75 + 2 = 77 := ⟨by decide +kernel, rfl⟩
theorem eX6_rests_77 : decode cX6_rests 77 = .ok (.iconst 4, 1) ∧ 77 + 1 = 78 := ⟨by decide +kernel, rfl⟩
theorem eX6_rests_78 : decode cX6_rests 78 = .ok (.if_icmp .ge 53, 3) ∧ ((78 : Nat) : Int) + 53 = ((131 : Nat) : Int) ∧ 78 + 3 = 81 := ⟨by decide +kernel, by decide, rfl⟩
theorem eX6_rests_81 : decode cX6_rests 81 = .ok (.aload_n 0, 1) ∧ 81 + 1 = 82 := ⟨by decide +kernel, rfl⟩
theorem eX6_rests_82 : decode cX6_rests 82 = .ok (.iload_n 1, 1) ∧ 82 + 1 = 83 := ⟨by decide +kernel, rfl⟩
theorem eX6_rests_83 : decode cX6_rests 83 = .ok (.iload_n 2, 1) ∧ 83 + 1 = 84 := ⟨by decide +kernel, rfl⟩
theorem eX6_rests_84 : decode cX6_rests 84 = .ok (.iload 6, 2) ∧ 84 + 2 = 86 := ⟨by decide +kernel, rfl⟩
theorem eX6_rests_86 : decode cX6_rests 86 = .ok (.iconst 2, 1) ∧ 86 + 1 = 87 := ⟨by decide +kernel, rfl⟩
theorem eX6_rests_87 : decode cX6_rests 87 = .ok (.idiv, 1) ∧ 87 + 1 = 88 := ⟨by decide +kernel, rfl⟩
theorem eX6_rests_88 : decode cX6_rests 88 = .ok (.iload 6, 2) ∧ 88 + 2 = 90 := ⟨by decide +kernel, rfl⟩
theorem eX6_rests_90 : decode cX6_rests 90 = .ok (.iconst 2, 1) ∧ 90 + 1 = 91 := ⟨by decide +kernel, rfl⟩
theorem eX6_rests_91 : decode cX6_rests 91 = .ok (.irem, 1) ∧ 91 + 1 = 92 := ⟨by decide +kernel, rfl⟩
theorem eX6_rests_92 : decode cX6_rests 92 = .ok (.invokevirtual 185, 3) ∧ 92 + 3 = 95 := ⟨by decide +kernel, rfl⟩
theorem eX6_rests_95 : decode cX6_rests 95 = .ok (.ifCond .eq 30, 3) ∧ ((95 : Nat) : Int) + 30 = ((125 : Nat) : Int) ∧ 95 + 3 = 98 := ⟨by decide +kernel, by decide, rfl⟩
theorem eX6_rests_98 : decode cX6_rests 98 = .ok (.iload 4, 2) ∧ 98 + 2 = 100 := ⟨by decide +kernel, rfl⟩
theorem eX6_rests_100 : decode cX6_rests 100 = .ok (.ifCond .ne 18, 3) ∧ ((100 : Nat) : Int) + 18 = ((118 : Nat) : Int) ∧ 100 + 3 = 103 := ⟨by decide +kernel, by decide, rfl⟩
theorem eX6_rests_103 : decode cX6_rests 103 = .ok (.bipush 10, 2) ∧ 103 + 2 = 105 := ⟨by decide +kernel, rfl⟩
theorem eX6_rests_105 : decode cX6_rests 105 = .ok (.iload 6, 2) ∧ 105 + 2 = 107 := ⟨by decide +kernel, rfl⟩
theorem eX6_rests_107 : decode cX6_rests 107 = .ok (.iconst 2, 1) ∧ 107 + 1 = 108 := ⟨by decide +kernel, rfl⟩
theorem eX6_rests_108 : decode cX6_rests 108 = .ok (.idiv, 1) ∧ 108 + 1 = 109 := ⟨by decide +kernel, rfl⟩
theorem eX6_rests_109 : decode cX6_rests 109 = .ok (.imul, 1) ∧ 109 + 1 = 110 := ⟨by decide +kernel, rfl⟩
theorem eX6_rests_110 : decode cX6_rests 110 = .ok (.iload 6, 2) ∧ 110 + 2 = 112 := ⟨by decide +kernel, rfl⟩
theorem eX6_rests_112 : decode cX6_rests 112 = .ok (.iconst 2, 1) ∧ 112 + 1 = 113 := ⟨by decide +kernel, rfl⟩
theorem eX6_rests_113 : decode cX6_rests 113 = .ok (.irem, 1) ∧ 113 + 1 = 114 := ⟨by decide +kernel, rfl⟩
theorem eX6_rests_114 : decode cX6_rests 114 = .ok (.iadd, 1) ∧ 114 + 1 = 115 := ⟨by decide +kernel, rfl⟩
theorem eX6_rests_115 : decode cX6_rests 115 = .ok (.goto 5, 3) ∧ ((115 : Nat) : Int) + 5 = ((120 : Nat) : Int) := ⟨by decide +kernel, by decide⟩
theorem eX6_rests_118 : decode cX6_rests 118 = .ok (.iload 5, 2) ∧ 118 + 2 = 120 := ⟨by decide +kernel, rfl⟩
theorem eX6_rests_120 : decode cX6_rests 120 = .ok (.istore 5, 2) ∧ 120 + 2 = 122 := ⟨by decide +kernel, rfl⟩
theorem eX6_rests_122 : decode cX6_rests 122 = .ok (.iinc 4 1, 3) ∧ 122 + 3 = 125 := ⟨by decide +kernel, rfl⟩
theorem eX6_rests_125 : decode cX6_rests 125 = .ok (.iinc 6 1, 3) ∧ 125 + 3 = 128 := ⟨by decide +kernel, rfl⟩
theorem eX6_rests_128 : decode cX6_rests 128 = .ok (.goto (-53), 3) ∧ ((128 : Nat) : Int) + (-53) = ((75 : Nat) : Int) := ⟨by decide +kernel, by decide⟩
theorem eX6_rests_131 : decode cX6_rests 131 = .ok (.iload_n 3, 1) ∧ 131 + 1 = 132 := ⟨by decide +kernel, rfl⟩
theorem eX6_rests_132 : decode cX6_rests 132 = .ok (.ifCond .ne 8, 3) ∧ ((132 : Nat) : Int) + 8 = ((140 : Nat) : Int) ∧ 132 + 3 = 135 := ⟨by decide +kernel, by decide, rfl⟩
theorem eX6_rests_135 : decode cX6_rests 135 = .ok (.iload 4, 2) ∧ 135 + 2 = 137 := ⟨by decide +kernel, rfl⟩
theorem eX6_rests_137 : decode cX6_rests 137 = .ok (.goto 5, 3) ∧ ((137 : Nat) : Int) + 5 = ((142 : Nat) : Int) := ⟨by decide +kernel, by decide⟩
theorem eX6_rests_140 : decode cX6_rests 140 = .ok (.iload 5, 2) ∧ 140 + 2 = 142 := ⟨by decide +kernel, rfl⟩
theorem eX6_rests_142 : decode cX6_rests 142 = .ok (.ireturn, 1) := by decide +kernel
theorem eX6_areOpen_0 : decode cX6_areOpen 0 = .ok (.aload_n 0, 1) ∧ 0 + 1 = 1 := ⟨by decide +kernel, rfl⟩
theorem eX6_areOpen_1 : decode cX6_areOpen 1 = .ok (.invokevirtual 141, 3) ∧ 1 + 3 = 4 := ⟨by decide +kernel, rfl⟩
theorem eX6_areOpen_4 : decode cX6_areOpen 4 = .ok (.aload_n 0, 1) ∧ 4 + 1 = 5 := ⟨by decide +kernel, rfl⟩
theorem eX6_areOpen_5 : decode cX6_areOpen 5 = .ok (.getfield 25, 3) ∧ 5 + 3 = 8 := ⟨by decide +kernel, rfl⟩
theorem eX6_areOpen_8 : decode cX6_areOpen 8 = .ok (.iconst 2, 1) ∧ 8 + 1 = 9 := ⟨by decide +kernel, rfl⟩
theorem eX6_areOpen_9 : decode cX6_areOpen 9 = .ok (.iaload, 1) ∧ 9 + 1 = 10 := ⟨by decide +kernel, rfl⟩
theorem eX6_areOpen_10 : decode cX6_areOpen 10 = .ok (.iconst (-1), 1) ∧ 10 + 1 = 11 := ⟨by decide +kernel, rfl⟩
theorem eX6_areOpen_11 : decode cX6_areOpen 11 = .ok (.ixor, 1) ∧ 11 + 1 = 12 := ⟨by decide +kernel, rfl⟩
theorem eX6_areOpen_12 : decode cX6_areOpen 12 = .ok (.iand, 1) ∧ 12 + 1 = 13 := ⟨by decide +kernel, rfl⟩
theorem eX6_areOpen_13 : decode cX6_areOpen 13 = .ok (.istore_n 3, 1) ∧ 13 + 1 = 14 := ⟨by decide +kernel, rfl⟩
theorem eX6_areOpen_14 : decode cX6_areOpen 14 = .ok (.iconst 1, 1) ∧ 14 + 1 = 15 := ⟨by decide +kernel, rfl⟩
theorem eX6_areOpen_15 : decode cX6_areOpen 15 = .ok (.istore 4, 2) ∧ 15 + 2 = 17 := ⟨by decide +kernel, rfl⟩
theorem eX6_areOpen_17 : decode cX6_areOpen 17 = .ok (.iconst 0, 1) ∧ 17 + 1 = 18 := ⟨by decide +kernel, rfl⟩
theorem eX6_areOpen_18 : decode cX6_areOpen 18 = .ok (.istore 5, 2) ∧ 18 + 2 = 20 := ⟨by decide +kernel, rfl⟩
theorem eX6_areOpen_20 : decode cX6_areOpen 20 = .ok (.iload 5, 2) ∧ 20 + 2 = 22 := ⟨by decide +kernel, rfl⟩
theorem eX6_areOpen_22 : decode cX6_areOpen 22 = .ok (.iload_n 1, 1) ∧ 22 + 1 = 23 := ⟨by decide +kernel, rfl⟩
theorem eX6_areOpen_23 : decode cX6_areOpen 23 = .ok (.if_icmp .ge 71, 3) ∧ ((23 : Nat) : Int) + 71 = ((94 : Nat) : Int) ∧ 23 + 3 = 26 := ⟨by decide +kernel, by decide, rfl⟩
theorem eX6_areOpen_26 : decode cX6_areOpen 26 = .ok (.iload_n 2, 1) ∧ 26 + 1 = 27 := ⟨by decide +kernel, rfl⟩
theorem eX6_areOpen_27 : decode cX6_areOpen 27 = .ok (.iload 5, 2) ∧ 27 + 2 = 29 := ⟨by decide +kernel, rfl⟩
theorem eX6_areOpen_29 : decode cX6_areOpen 29 = .ok (.invokestatic 157, 3) ∧ 29 + 3 = 32 := ⟨by decide +kernel, rfl⟩
theorem eX6_areOpen_32 : decode cX6_areOpen 32 = .ok (.idiv, 1) ∧ 32 + 1 = 33 := ⟨by decide +kernel, rfl⟩
theorem eX6_areOpen_33 : decode cX6_areOpen 33 = .ok (.bipush 10, 2) ∧ 33 + 2 = 35 := ⟨by decide +kernel, rfl⟩
theorem eX6_areOpen_35 : decode cX6_areOpen 35 = .ok (.irem, 1) ∧ 35 + 1 = 36 := ⟨by decide +kernel, rfl⟩
theorem eX6_areOpen_36 : decode cX6_areOpen 36 = .ok (.iconst 1, 1) ∧ 36 + 1 = 37 := ⟨by decide +kernel, rfl⟩
theorem eX6_areOpen_37 : decode cX6_areOpen 37 = .ok (.isub, 1) ∧ 37 + 1 = 38 := ⟨by decide +kernel, rfl⟩
theorem eX6_areOpen_38 : decode cX6_areOpen 38 = .ok (.istore 6, 2) ∧ 38 + 2 = 40 := ⟨by decide +kernel, rfl⟩
theorem eX6_areOpen_40 : decode cX6_areOpen 40 = .ok (.iload 4, 2) ∧ 40 + 2 = 42 := ⟨by decide +kernel, rfl⟩
theorem eX6_areOpen_42 : decode cX6_areOpen 42 = .ok (.ifCond .eq 25, 3) ∧ ((42 : Nat) : Int) + 25 = ((67 : Nat) : Int) ∧ 42 + 3 = 45 := ⟨by decide +kernel, by decide, rfl⟩
theorem eX6_areOpen_45 : decode cX6_areOpen 45 = .ok (.aload_n 0, 1) ∧ 45 + 1 = 46 := ⟨by decide +kernel, rfl⟩
theorem eX6_areOpen_46 : decode cX6_areOpen 46 = .ok (.iload 6, 2) ∧ 46 + 2 = 48 := ⟨by decide +kernel, rfl⟩
theorem eX6_areOpen_48 : decode cX6_areOpen 48 = .ok (.invokevirtual 109, 3) ∧ 48 + 3 = 51 := ⟨by decide +kernel, rfl⟩
theorem eX6_areOpen_51 : decode cX6_areOpen 51 = .ok (.ifCond .eq 16, 3) ∧ ((51 : Nat) : Int) + 16 = ((67 : Nat) : Int) ∧ 51 + 3 = 54 := ⟨by decide +kernel, by decide, rfl⟩
theorem eX6_areOpen_54 : decode cX6_areOpen 54 = .ok (.iload_n 3, 1) ∧ 54 + 1 = 55 := ⟨by decide +kernel, rfl⟩
theorem eX6_areOpen_55 : decode cX6_areOpen 55 = .ok (.iload 6, 2) ∧ 55 + 2 = 57 := ⟨by decide +kernel, rfl⟩
theorem eX6_areOpen_57 : decode cX6_areOpen 57 = .ok (.invokestatic 94, 3) ∧ 57 + 3 = 60 := ⟨by decide +kernel, rfl⟩
theorem eX6_areOpen_60 : decode cX6_areOpen 60 = .ok (.ifCond .eq 7, 3) ∧ ((60 : Nat) : Int) + 7 = ((67 : Nat) : Int) ∧ 60 + 3 = 63 := ⟨by decide +kernel, by decide, rfl⟩
theorem eX6_areOpen_63 : decode cX6_areOpen 63 = .ok (.iconst 1, 1) ∧ 63 + 1 = 64 := ⟨by decide +kernel, rfl⟩
theorem eX6_areOpen_64 : decode cX6_areOpen 64 = .ok (.goto 4, 3) ∧ ((64 : Nat) : Int) + 4 = ((68 : Nat) : Int) := ⟨by decide +kernel, by decide⟩
theorem eX6_areOpen_67 : decode cX6_areOpen 67 = .ok (.iconst 0, 1) ∧ 67 + 1 = 68 := ⟨by decide +kernel, rfl⟩
theorem eX6_areOpen_68 : decode cX6_areOpen 68 = .ok (.istore 4, 2) ∧ 68 + 2 = 70 := ⟨by decide +kernel, rfl⟩
theorem eX6_areOpen_70 : decode cX6_areOpen 70 = .ok (.iload_n 3, 1) ∧ 70 + 1 = 71 := ⟨by decide +kernel, rfl⟩
theorem eX6_areOpen_71 : decode cX6_areOpen 71 = .ok (.iload 4, 2) ∧ 71 + 2 = 73 := ⟨by decide +kernel, rfl⟩
theorem eX6_areOpen_73 : decode cX6_areOpen 73 = .ok (.ifCond .eq 12, 3) ∧ ((73 : Nat) : Int) + 12 = ((85 : Nat) : Int) ∧ 73 + 3 = 76 := ⟨by decide +kernel, by decide, rfl⟩
theorem eX6_areOpen_76 : decode cX6_areOpen 76 = .ok (.iconst 1, 1) ∧ 76 + 1 = 77 := ⟨by decide +kernel, rfl⟩
theorem eX6_areOpen_77 : decode cX6_areOpen 77 = .ok (.iload 6, 2) ∧ 77 + 2 = 79 := ⟨by decide +kernel, rfl⟩
theorem eX6_areOpen_79 : decode cX6_areOpen 79 = .ok (.ishl, 1) ∧ 79 + 1 = 80 := ⟨by decide +kernel, rfl⟩
theorem eX6_areOpen_80 : decode cX6_areOpen 80 = .ok (.iconst (-1), 1) ∧ 80 + 1 = 81 := ⟨by decide +kernel, rfl⟩
theorem eX6_areOpen_81 : decode cX6_areOpen 81 = .ok (.ixor, 1) ∧ 81 + 1 = 82 := ⟨by decide +kernel, rfl⟩
theorem eX6_areOpen_82 : decode cX6_areOpen 82 = .ok (.goto 4, 3) ∧ ((82 : Nat) : Int) + 4 = ((86 : Nat) : Int) := ⟨by decide +kernel, by decide⟩
theorem eX6_areOpen_85 : decode cX6_areOpen 85 = .ok (.iconst (-1), 1) ∧ 85 + 1 = 86 := ⟨by decide +kernel, rfl⟩
theorem eX6_areOpen_86 : decode cX6_areOpen 86 = .ok (.iand, 1) ∧ 86 + 1 = 87 := ⟨by decide +kernel, rfl⟩
theorem eX6_areOpen_87 : decode cX6_areOpen 87 = .ok (.istore_n 3, 1) ∧ 87 + 1 = 88 := ⟨by decide +kernel, rfl⟩
theorem eX6_areOpen_88 : decode cX6_areOpen 88 = .ok (.iinc 5 1, 3) ∧ 88 + 3 = 91 := ⟨by decide +kernel, rfl⟩
theorem eX6_areOpen_91 : decode cX6_areOpen 91 = .ok (.goto (-71), 3) ∧ ((91 : Nat) : Int) + (-71) = ((20 : Nat) : Int) := ⟨by decide +kernel, by decide⟩
theorem eX6_areOpen_94 : decode cX6_areOpen 94 = .ok (.iload 4, 2) ∧ 94 + 2 = 96 := ⟨by decide +kernel, rfl⟩
theorem eX6_areOpen_96 : decode cX6_areOpen 96 = .ok (.ireturn, 1) := by decide +kernel
theorem eX6_holds_0 : decode cX6_holds 0 = .ok (.aload_n 0, 1) ∧ 0 + 1 = 1 := ⟨by decide +kernel, rfl⟩
theorem eX6_holds_1 : decode cX6_holds 1 = .ok (.getfield 25, 3) ∧ 1 + 3 = 4 := ⟨by decide +kernel, rfl⟩
theorem eX6_holds_4 : decode cX6_holds 4 = .ok (.iconst 1, 1) ∧ 4 + 1 = 5 := ⟨by decide +kernel, rfl⟩
theorem eX6_holds_5 : decode cX6_holds 5 = .ok (.iaload, 1) ∧ 5 + 1 = 6 := ⟨by decide +kernel, rfl⟩
theorem eX6_holds_6 : decode cX6_holds 6 = .ok (.istore 4, 2) ∧ 6 + 2 = 8 := ⟨by decide +kernel, rfl⟩
theorem eX6_holds_8 : decode cX6_holds 8 = .ok (.aload_n 0, 1) ∧ 8 + 1 = 9 := ⟨by decide +kernel, rfl⟩
theorem eX6_holds_9 : decode cX6_holds 9 = .ok (.getfield 25, 3) ∧ 9 + 3 = 12 := ⟨by decide +kernel, rfl⟩
theorem eX6_holds_12 : decode cX6_holds 12 = .ok (.iconst 0, 1) ∧ 12 + 1 = 13 := ⟨by decide +kernel, rfl⟩
theorem eX6_holds_13 : decode cX6_holds 13 = .ok (.iaload, 1) ∧ 13 + 1 = 14 := ⟨by decide +kernel, rfl⟩
theorem eX6_holds_14 : decode cX6_holds 14 = .ok (.istore 5, 2) ∧ 14 + 2 = 16 := ⟨by decide +kernel, rfl⟩
theorem eX6_holds_16 : decode cX6_holds 16 = .ok (.iconst 0, 1) ∧ 16 + 1 = 17 := ⟨by decide +kernel, rfl⟩
theorem eX6_holds_17 : decode cX6_holds 17 = .ok (.istore 6, 2) ∧ 17 + 2 = 19 := ⟨by decide +kernel, rfl⟩
theorem eX6_holds_19 : decode cX6_holds 19 = .ok (.iload 6, 2) ∧ 19 + 2 = 21 := ⟨by decide +kernel, rfl⟩
theorem eX6_holds_21 : decode cX6_holds 21 = .ok (.iload_n 1, 1) ∧ 21 + 1 = 22 := ⟨by decide +kernel, rfl⟩
theorem eX6_holds_22 : decode cX6_holds 22 = .ok (.if_icmp .ge 74, 3) ∧ ((22 : Nat) : Int) + 74 = ((96 : Nat) : Int) ∧ 22 + 3 = 25 := ⟨by decide +kernel, by decide, rfl⟩
theorem eX6_holds_25 : decode cX6_holds 25 = .ok (.iload_n 2, 1) ∧ 25 + 1 = 26 := ⟨by decide +kernel, rfl⟩
theorem eX6_holds_26 : decode cX6_holds 26 = .ok (.iload_n 1, 1) ∧ 26 + 1 = 27 := ⟨by decide +kernel, rfl⟩
theorem eX6_holds_27 : decode cX6_holds 27 = .ok (.iconst 1, 1) ∧ 27 + 1 = 28 := ⟨by decide +kernel, rfl⟩
theorem eX6_holds_28 : decode cX6_holds 28 = .ok (.isub, 1) ∧ 28 + 1 = 29 := ⟨by decide +kernel, rfl⟩
theorem eX6_holds_29 : decode cX6_holds 29 = .ok (.iload 6, 2) ∧ 29 + 2 = 31 := ⟨by decide +kernel, rfl⟩
theorem eX6_holds_31 : decode cX6_holds 31 = .ok (.isub, 1) ∧ 31 + 1 = 32 := ⟨by decide +kernel, rfl⟩
theorem eX6_holds_32 : decode cX6_holds 32 = .ok (.invokestatic 157, 3) ∧ 32 + 3 = 35 := ⟨by decide +kernel, rfl⟩
theorem eX6_holds_35 : decode cX6_holds 35 = .ok (.idiv, 1) ∧ 35 + 1 = 36 := ⟨by decide +kernel, rfl⟩
theorem eX6_holds_36 : decode cX6_holds 36 = .ok (.bipush 10, 2) ∧ 36 + 2 = 38 := ⟨by decide +kernel, rfl⟩
theorem eX6_holds_38 : decode cX6_holds 38 = .ok (.irem, 1) ∧ 38 + 1 = 39 := ⟨by decide +kernel, rfl⟩
theorem eX6_holds_39 : decode cX6_holds 39 = .ok (.iconst 1, 1) ∧ 39 + 1 = 40 := ⟨by decide +kernel, rfl⟩
theorem eX6_holds_40 : decode cX6_holds 40 = .ok (.isub, 1) ∧ 40 + 1 = 41 := ⟨by decide +kernel, rfl⟩
theorem eX6_holds_41 : decode cX6_holds 41 = .ok (.istore 7, 2) ∧ 41 + 2 = 43 := ⟨by decide +kernel, rfl⟩
theorem eX6_holds_43 : decode cX6_holds 43 = .ok (.aload_n 0, 1) ∧ 43 + 1 = 44 := ⟨by decide +kernel, rfl⟩
theorem eX6_holds_44 : decode cX6_holds 44 = .ok (.iconst 0, 1) ∧ 44 + 1 = 45 := ⟨by decide +kernel, rfl⟩
theorem eX6_holds_45 : decode cX6_holds 45 = .ok (.iload 7, 2) ∧ 45 + 2 = 47 := ⟨by decide +kernel, rfl⟩
theorem eX6_holds_47 : decode cX6_holds 47 = .ok (.iload 4, 2) ∧ 47 + 2 = 49 := ⟨by decide +kernel, rfl⟩
theorem eX6_holds_49 : decode cX6_holds 49 = .ok (.iload 5, 2) ∧ 49 + 2 = 51 := ⟨by decide +kernel, rfl⟩
theorem eX6_holds_51 : decode cX6_holds 51 = .ok (.iload_n 3, 1) ∧ 51 + 1 = 52 := ⟨by decide +kernel, rfl⟩
theorem eX6_holds_52 : decode cX6_holds 52 = .ok (.iload 6, 2) ∧ 52 + 2 = 54 := ⟨by decide +kernel, rfl⟩
theorem eX6_holds_54 : decode cX6_holds 54 = .ok (.ishr, 1) ∧ 54 + 1 = 55 := ⟨by decide +kernel, rfl⟩
theorem eX6_holds_55 : decode cX6_holds 55 = .ok (.iconst 1, 1) ∧ 55 + 1 = 56 := ⟨by decide +kernel, rfl⟩
theorem eX6_holds_56 : decode cX6_holds 56 = .ok (.iand, 1) ∧ 56 + 1 = 57 := ⟨by decide +kernel, rfl⟩
theorem eX6_holds_57 : decode cX6_holds 57 = .ok (.invokevirtual 98, 3) ∧ 57 + 3 = 60 := ⟨by decide +kernel, rfl⟩
theorem eX6_holds_60 : decode cX6_holds 60 = .ok (.istore 8, 2) ∧ 60 + 2 = 62 := ⟨by decide +kernel, rfl⟩
theorem eX6_holds_62 : decode cX6_holds 62 = .ok (.iload 8, 2) ∧ 62 + 2 = 64 := ⟨by decide +kernel, rfl⟩
theorem eX6_holds_64 : decode cX6_holds 64 = .ok (.bipush (-9), 2) ∧ 64 + 2 = 66 := ⟨by decide +kernel, rfl⟩
theorem eX6_holds_66 : decode cX6_holds 66 = .ok (.if_icmp .ne 5, 3) ∧ ((66 : Nat) : Int) + 5 = ((71 : Nat) : Int) ∧ 66 + 3 = 69 := ⟨by decide +kernel, by decide, rfl⟩
theorem eX6_holds_69 : decode cX6_holds 69 = .ok (.iconst 0, 1) ∧ 69 + 1 = 70 := ⟨by decide +kernel, rfl⟩
theorem eX6_holds_70 : decode cX6_holds 70 = .ok (.ireturn, 1) := by decide +kernel
theorem eX6_holds_71 : decode cX6_holds 71 = .ok (.aload_n 0, 1) ∧ 71 + 1 = 72 := ⟨by decide +kernel, rfl⟩
theorem eX6_holds_72 : decode cX6_holds 72 = .ok (.iload 7, 2) ∧ 72 + 2 = 74 := ⟨by decide +kernel, rfl⟩
theorem eX6_holds_74 : decode cX6_holds 74 = .ok (.iload 8, 2) ∧ 74 + 2 = 76 := ⟨by decide +kernel, rfl⟩
theorem eX6_holds_76 : decode cX6_holds 76 = .ok (.invokevirtual 106, 3) ∧ 76 + 3 = 79 := ⟨by decide +kernel, rfl⟩
theorem eX6_holds_79 : decode cX6_holds 79 = .ok (.istore 5, 2) ∧ 79 + 2 = 81 := ⟨by decide +kernel, rfl⟩
theorem eX6_holds_81 : decode cX6_holds 81 = .ok (.aload_n 0, 1) ∧ 81 + 1 = 82 := ⟨by decide +kernel, rfl⟩
theorem eX6_holds_82 : decode cX6_holds 82 = .ok (.getfield 7, 3) ∧ 82 + 3 = 85 := ⟨by decide +kernel, rfl⟩
theorem eX6_holds_85 : decode cX6_holds 85 = .ok (.iload 7, 2) ∧ 85 + 2 = 87 := ⟨by decide +kernel, rfl⟩
theorem eX6_holds_87 : decode cX6_holds 87 = .ok (.iaload, 1) ∧ 87 + 1 = 88 := ⟨by decide +kernel, rfl⟩
theorem eX6_holds_88 : decode cX6_holds 88 = .ok (.istore 4, 2) ∧ 88 + 2 = 90 := ⟨by decide +kernel, rfl⟩
theorem eX6_holds_90 : decode cX6_holds 90 = .ok (.iinc 6 1, 3) ∧ 90 + 3 = 93 := ⟨by decide +kernel, rfl⟩
theorem eX6_holds_93 : decode cX6_holds 93 = .ok (.goto (-74), 3) ∧ ((93 : Nat) : Int) + (-74) = ((19 : Nat) : Int) := ⟨by decide +kernel, by decide⟩
theorem eX6_holds_96 : decode cX6_holds 96 = .ok (.iconst 1, 1) ∧ 96 + 1 = 97 := ⟨by decide +kernel, rfl⟩
theorem eX6_holds_97 : decode cX6_holds 97 = .ok (.ireturn, 1) := by decide +kernel
theorem eX6_waysIn_0 : decode cX6_waysIn 0 = .ok (.aload_n 0, 1) ∧ 0 + 1 = 1 := ⟨by decide +kernel, rfl⟩
theorem eX6_waysIn_1 : decode cX6_waysIn 1 = .ok (.getfield 25, 3) ∧ 1 + 3 = 4 := ⟨by decide +kernel, rfl⟩
theorem eX6_waysIn_4 : decode cX6_waysIn 4 = .ok (.iconst 1, 1) ∧ 4 + 1 = 5 := ⟨by decide +kernel, rfl⟩
theorem eX6_waysIn_5 : decode cX6_waysIn 5 = .ok (.iaload, 1) ∧ 5 + 1 = 6 := ⟨by decide +kernel, rfl⟩
theorem eX6_waysIn_6 : decode cX6_waysIn 6 = .ok (.istore_n 3, 1) ∧ 6 + 1 = 7 := ⟨by decide +kernel, rfl⟩
theorem eX6_waysIn_7 : decode cX6_waysIn 7 = .ok (.iconst 0, 1) ∧ 7 + 1 = 8 := ⟨by decide +kernel, rfl⟩
theorem eX6_waysIn_8 : decode cX6_waysIn 8 = .ok (.istore 4, 2) ∧ 8 + 2 = 10 := ⟨by decide +kernel, rfl⟩
theorem eX6_waysIn_10 : decode cX6_waysIn 10 = .ok (.iconst 0, 1) ∧ 10 + 1 = 11 := ⟨by decide +kernel, rfl⟩
theorem eX6_waysIn_11 : decode cX6_waysIn 11 = .ok (.istore 5, 2) ∧ 11 + 2 = 13 := ⟨by decide +kernel, rfl⟩
theorem eX6_waysIn_13 : decode cX6_waysIn 13 = .ok (.iload 5, 2) ∧ 13 + 2 = 15 := ⟨by decide +kernel, rfl⟩
theorem eX6_waysIn_15 : decode cX6_waysIn 15 = .ok (.iload_n 1, 1) ∧ 15 + 1 = 16 := ⟨by decide +kernel, rfl⟩
theorem eX6_waysIn_16 : decode cX6_waysIn 16 = .ok (.if_icmp .ge 64, 3) ∧ ((16 : Nat) : Int) + 64 = ((80 : Nat) : Int) ∧ 16 + 3 = 19 := ⟨by decide +kernel, by decide, rfl⟩
theorem eX6_waysIn_19 : decode cX6_waysIn 19 = .ok (.iload_n 2, 1) ∧ 19 + 1 = 20 := ⟨by decide +kernel, rfl⟩
theorem eX6_waysIn_20 : decode cX6_waysIn 20 = .ok (.iload_n 1, 1) ∧ 20 + 1 = 21 := ⟨by decide +kernel, rfl⟩
theorem eX6_waysIn_21 : decode cX6_waysIn 21 = .ok (.iconst 1, 1) ∧ 21 + 1 = 22 := ⟨by decide +kernel, rfl⟩
theorem eX6_waysIn_22 : decode cX6_waysIn 22 = .ok (.isub, 1) ∧ 22 + 1 = 23 := ⟨by decide +kernel, rfl⟩
theorem eX6_waysIn_23 : decode cX6_waysIn 23 = .ok (.iload 5, 2) ∧ 23 + 2 = 25 := ⟨by decide +kernel, rfl⟩
theorem eX6_waysIn_25 : decode cX6_waysIn 25 = .ok (.isub, 1) ∧ 25 + 1 = 26 := ⟨by decide +kernel, rfl⟩
theorem eX6_waysIn_26 : decode cX6_waysIn 26 = .ok (.invokestatic 157, 3) ∧ 26 + 3 = 29 := ⟨by decide +kernel, rfl⟩
theorem eX6_waysIn_29 : decode cX6_waysIn 29 = .ok (.idiv, 1) ∧ 29 + 1 = 30 := ⟨by decide +kernel, rfl⟩
theorem eX6_waysIn_30 : decode cX6_waysIn 30 = .ok (.bipush 10, 2) ∧ 30 + 2 = 32 := ⟨by decide +kernel, rfl⟩
theorem eX6_waysIn_32 : decode cX6_waysIn 32 = .ok (.irem, 1) ∧ 32 + 1 = 33 := ⟨by decide +kernel, rfl⟩
theorem eX6_waysIn_33 : decode cX6_waysIn 33 = .ok (.iconst 1, 1) ∧ 33 + 1 = 34 := ⟨by decide +kernel, rfl⟩
theorem eX6_waysIn_34 : decode cX6_waysIn 34 = .ok (.isub, 1) ∧ 34 + 1 = 35 := ⟨by decide +kernel, rfl⟩
theorem eX6_waysIn_35 : decode cX6_waysIn 35 = .ok (.istore 6, 2) ∧ 35 + 2 = 37 := ⟨by decide +kernel, rfl⟩
theorem eX6_waysIn_37 : decode cX6_waysIn 37 = .ok (.iload 4, 2) ∧ 37 + 2 = 39 := ⟨by decide +kernel, rfl⟩
theorem eX6_waysIn_39 : decode cX6_waysIn 39 = .ok (.aload_n 0, 1) ∧ 39 + 1 = 40 := ⟨by decide +kernel, rfl⟩
theorem eX6_waysIn_40 : decode cX6_waysIn 40 = .ok (.iconst 0, 1) ∧ 40 + 1 = 41 := ⟨by decide +kernel, rfl⟩
theorem eX6_waysIn_41 : decode cX6_waysIn 41 = .ok (.iload_n 3, 1) ∧ 41 + 1 = 42 := ⟨by decide +kernel, rfl⟩
theorem eX6_waysIn_42 : decode cX6_waysIn 42 = .ok (.aload_n 0, 1) ∧ 42 + 1 = 43 := ⟨by decide +kernel, rfl⟩
theorem eX6_waysIn_43 : decode cX6_waysIn 43 = .ok (.getfield 7, 3) ∧ 43 + 3 = 46 := ⟨by decide +kernel, rfl⟩
theorem eX6_waysIn_46 : decode cX6_waysIn 46 = .ok (.iload 6, 2) ∧ 46 + 2 = 48 := ⟨by decide +kernel, rfl⟩
theorem eX6_waysIn_48 : decode cX6_waysIn 48 = .ok (.iaload, 1) ∧ 48 + 1 = 49 := ⟨by decide +kernel, rfl⟩
theorem eX6_waysIn_49 : decode cX6_waysIn 49 = .ok (.invokevirtual 86, 3) ∧ 49 + 3 = 52 := ⟨by decide +kernel, rfl⟩
theorem eX6_waysIn_52 : decode cX6_waysIn 52 = .ok (.ifCond .le 10, 3) ∧ ((52 : Nat) : Int) + 10 = ((62 : Nat) : Int) ∧ 52 + 3 = 55 := ⟨by decide +kernel, by decide, rfl⟩
theorem eX6_waysIn_55 : decode cX6_waysIn 55 = .ok (.iconst 1, 1) ∧ 55 + 1 = 56 := ⟨by decide +kernel, rfl⟩
theorem eX6_waysIn_56 : decode cX6_waysIn 56 = .ok (.iload 5, 2) ∧ 56 + 2 = 58 := ⟨by decide +kernel, rfl⟩
theorem eX6_waysIn_58 : decode cX6_waysIn 58 = .ok (.ishl, 1) ∧ 58 + 1 = 59 := ⟨by decide +kernel, rfl⟩
theorem eX6_waysIn_59 : decode cX6_waysIn 59 = .ok (.goto 4, 3) ∧ ((59 : Nat) : Int) + 4 = ((63 : Nat) : Int) := ⟨by decide +kernel, by decide⟩
theorem eX6_waysIn_62 : decode cX6_waysIn 62 = .ok (.iconst 0, 1) ∧ 62 + 1 = 63 := ⟨by decide +kernel, rfl⟩
theorem eX6_waysIn_63 : decode cX6_waysIn 63 = .ok (.ior, 1) ∧ 63 + 1 = 64 := ⟨by decide +kernel, rfl⟩
theorem eX6_waysIn_64 : decode cX6_waysIn 64 = .ok (.istore 4, 2) ∧ 64 + 2 = 66 := ⟨by decide +kernel, rfl⟩
theorem eX6_waysIn_66 : decode cX6_waysIn 66 = .ok (.aload_n 0, 1) ∧ 66 + 1 = 67 := ⟨by decide +kernel, rfl⟩
theorem eX6_waysIn_67 : decode cX6_waysIn 67 = .ok (.getfield 7, 3) ∧ 67 + 3 = 70 := ⟨by decide +kernel, rfl⟩
theorem eX6_waysIn_70 : decode cX6_waysIn 70 = .ok (.iload 6, 2) ∧ 70 + 2 = 72 := ⟨by decide +kernel, rfl⟩
theorem eX6_waysIn_72 : decode cX6_waysIn 72 = .ok (.iaload, 1) ∧ 72 + 1 = 73 := ⟨by decide +kernel, rfl⟩
theorem eX6_waysIn_73 : decode cX6_waysIn 73 = .ok (.istore_n 3, 1) ∧ 73 + 1 = 74 := ⟨by decide +kernel, rfl⟩
theorem eX6_waysIn_74 : decode cX6_waysIn 74 = .ok (.iinc 5 1, 3) ∧ 74 + 3 = 77 := ⟨by decide +kernel, rfl⟩
theorem eX6_waysIn_77 : decode cX6_waysIn 77 = .ok (.goto (-64), 3) ∧ ((77 : Nat) : Int) + (-64) = ((13 : Nat) : Int) := ⟨by decide +kernel, by decide⟩
theorem eX6_waysIn_80 : decode cX6_waysIn 80 = .ok (.iload 4, 2) ∧ 80 + 2 = 82 := ⟨by decide +kernel, rfl⟩
theorem eX6_waysIn_82 : decode cX6_waysIn 82 = .ok (.ireturn, 1) := by decide +kernel
theorem eX6_power_0 : decode cX6_power 0 = .ok (.iconst 1, 1) ∧ 0 + 1 = 1 := ⟨by decide +kernel, rfl⟩
theorem eX6_power_1 : decode cX6_power 1 = .ok (.istore_n 2, 1) ∧ 1 + 1 = 2 := ⟨by decide +kernel, rfl⟩
theorem eX6_power_2 : decode cX6_power 2 = .ok (.iconst 0, 1) ∧ 2 + 1 = 3 := ⟨by decide +kernel, rfl⟩
theorem eX6_power_3 : decode cX6_power 3 = .ok (.istore_n 3, 1) ∧ 3 + 1 = 4 := ⟨by decide +kernel, rfl⟩
theorem eX6_power_4 : decode cX6_power 4 = .ok (.iload_n 3, 1) ∧ 4 + 1 = 5 := ⟨by decide +kernel, rfl⟩
theorem eX6_power_5 : decode cX6_power 5 = .ok (.iload_n 1, 1) ∧ 5 + 1 = 6 := ⟨by decide +kernel, rfl⟩
theorem eX6_power_6 : decode cX6_power 6 = .ok (.if_icmp .ge 13, 3) ∧ ((6 : Nat) : Int) + 13 = ((19 : Nat) : Int) ∧ 6 + 3 = 9 := ⟨by decide +kernel, by decide, rfl⟩
theorem eX6_power_9 : decode cX6_power 9 = .ok (.iload_n 2, 1) ∧ 9 + 1 = 10 := ⟨by decide +kernel, rfl⟩
theorem eX6_power_10 : decode cX6_power 10 = .ok (.iload_n 0, 1) ∧ 10 + 1 = 11 := ⟨by decide +kernel, rfl⟩
theorem eX6_power_11 : decode cX6_power 11 = .ok (.imul, 1) ∧ 11 + 1 = 12 := ⟨by decide +kernel, rfl⟩
theorem eX6_power_12 : decode cX6_power 12 = .ok (.istore_n 2, 1) ∧ 12 + 1 = 13 := ⟨by decide +kernel, rfl⟩
theorem eX6_power_13 : decode cX6_power 13 = .ok (.iinc 3 1, 3) ∧ 13 + 3 = 16 := ⟨by decide +kernel, rfl⟩
theorem eX6_power_16 : decode cX6_power 16 = .ok (.goto (-12), 3) ∧ ((16 : Nat) : Int) + (-12) = ((4 : Nat) : Int) := ⟨by decide +kernel, by decide⟩
theorem eX6_power_19 : decode cX6_power 19 = .ok (.iload_n 2, 1) ∧ 19 + 1 = 20 := ⟨by decide +kernel, rfl⟩
theorem eX6_power_20 : decode cX6_power 20 = .ok (.ireturn, 1) := by decide +kernel
theorem eX6_falls_0 : decode cX6_falls 0 = .ok (.iload_n 1, 1) ∧ 0 + 1 = 1 := ⟨by decide +kernel, rfl⟩
theorem eX6_falls_1 : decode cX6_falls 1 = .ok (.i2l, 1) ∧ 1 + 1 = 2 := ⟨by decide +kernel, rfl⟩
theorem eX6_falls_2 : decode cX6_falls 2 = .ok (.lconst 1, 1) ∧ 2 + 1 = 3 := ⟨by decide +kernel, rfl⟩
theorem eX6_falls_3 : decode cX6_falls 3 = .ok (.ldc2_w 155, 3) ∧ 3 + 3 = 6 := ⟨by decide +kernel, rfl⟩
theorem eX6_falls_6 : decode cX6_falls 6 = .ok (.invokestatic 59, 3) ∧ 6 + 3 = 9 := ⟨by decide +kernel, rfl⟩
theorem eX6_falls_9 : decode cX6_falls 9 = .ok (.ifCond .eq 31, 3) ∧ ((9 : Nat) : Int) + 31 = ((40 : Nat) : Int) ∧ 9 + 3 = 12 := ⟨by decide +kernel, by decide, rfl⟩
theorem eX6_falls_12 : decode cX6_falls 12 = .ok (.iload_n 2, 1) ∧ 12 + 1 = 13 := ⟨by decide +kernel, rfl⟩
theorem eX6_falls_13 : decode cX6_falls 13 = .ok (.i2l, 1) ∧ 13 + 1 = 14 := ⟨by decide +kernel, rfl⟩
theorem eX6_falls_14 : decode cX6_falls 14 = .ok (.lconst 0, 1) ∧ 14 + 1 = 15 := ⟨by decide +kernel, rfl⟩
theorem eX6_falls_15 : decode cX6_falls 15 = .ok (.iload_n 1, 1) ∧ 15 + 1 = 16 := ⟨by decide +kernel, rfl⟩
theorem eX6_falls_16 : decode cX6_falls 16 = .ok (.invokestatic 157, 3) ∧ 16 + 3 = 19 := ⟨by decide +kernel, rfl⟩
theorem eX6_falls_19 : decode cX6_falls 19 = .ok (.iconst 1, 1) ∧ 19 + 1 = 20 := ⟨by decide +kernel, rfl⟩
theorem eX6_falls_20 : decode cX6_falls 20 = .ok (.isub, 1) ∧ 20 + 1 = 21 := ⟨by decide +kernel, rfl⟩
theorem eX6_falls_21 : decode cX6_falls 21 = .ok (.i2l, 1) ∧ 21 + 1 = 22 := ⟨by decide +kernel, rfl⟩
theorem eX6_falls_22 : decode cX6_falls 22 = .ok (.invokestatic 59, 3) ∧ 22 + 3 = 25 := ⟨by decide +kernel, rfl⟩
theorem eX6_falls_25 : decode cX6_falls 25 = .ok (.ifCond .eq 15, 3) ∧ ((25 : Nat) : Int) + 15 = ((40 : Nat) : Int) ∧ 25 + 3 = 28 := ⟨by decide +kernel, by decide, rfl⟩
theorem eX6_falls_28 : decode cX6_falls 28 = .ok (.iload_n 3, 1) ∧ 28 + 1 = 29 := ⟨by decide +kernel, rfl⟩
theorem eX6_falls_29 : decode cX6_falls 29 = .ok (.i2l, 1) ∧ 29 + 1 = 30 := ⟨by decide +kernel, rfl⟩
theorem eX6_falls_30 : decode cX6_falls 30 = .ok (.lconst 0, 1) ∧ 30 + 1 = 31 := ⟨by decide +kernel, rfl⟩
theorem eX6_falls_31 : decode cX6_falls 31 = .ok (.ldc2_w 189, 3) ∧ 31 + 3 = 34 := ⟨by decide +kernel, rfl⟩
theorem eX6_falls_34 : decode cX6_falls 34 = .ok (.invokestatic 59, 3) ∧ 34 + 3 = 37 := ⟨by decide +kernel, rfl⟩
theorem eX6_falls_37 : decode cX6_falls 37 = .ok (.ifCond .ne 6, 3) ∧ ((37 : Nat) : Int) + 6 = ((43 : Nat) : Int) ∧ 37 + 3 = 40 := ⟨by decide +kernel, by decide, rfl⟩
theorem eX6_falls_40 : decode cX6_falls 40 = .ok (.bipush (-2), 2) ∧ 40 + 2 = 42 := ⟨by decide +kernel, rfl⟩
theorem eX6_falls_42 : decode cX6_falls 42 = .ok (.ireturn, 1) := by decide +kernel
theorem eX6_falls_43 : decode cX6_falls 43 = .ok (.aload_n 0, 1) ∧ 43 + 1 = 44 := ⟨by decide +kernel, rfl⟩
theorem eX6_falls_44 : decode cX6_falls 44 = .ok (.iload_n 1, 1) ∧ 44 + 1 = 45 := ⟨by decide +kernel, rfl⟩
theorem eX6_falls_45 : decode cX6_falls 45 = .ok (.iload_n 2, 1) ∧ 45 + 1 = 46 := ⟨by decide +kernel, rfl⟩
theorem eX6_falls_46 : decode cX6_falls 46 = .ok (.invokevirtual 191, 3) ∧ 46 + 3 = 49 := ⟨by decide +kernel, rfl⟩
theorem eX6_falls_49 : decode cX6_falls 49 = .ok (.ifCond .ne 6, 3) ∧ ((49 : Nat) : Int) + 6 = ((55 : Nat) : Int) ∧ 49 + 3 = 52 := ⟨by decide +kernel, by decide, rfl⟩
theorem eX6_falls_52 : decode cX6_falls 52 = .ok (.bipush (-3), 2) ∧ 52 + 2 = 54 := ⟨by decide +kernel, rfl⟩
theorem eX6_falls_54 : decode cX6_falls 54 = .ok (.ireturn, 1) := by decide +kernel
theorem eX6_falls_55 : decode cX6_falls 55 = .ok (.aload_n 0, 1) ∧ 55 + 1 = 56 := ⟨by decide +kernel, rfl⟩
theorem eX6_falls_56 : decode cX6_falls 56 = .ok (.iload_n 1, 1) ∧ 56 + 1 = 57 := ⟨by decide +kernel, rfl⟩
theorem eX6_falls_57 : decode cX6_falls 57 = .ok (.iload_n 2, 1) ∧ 57 + 1 = 58 := ⟨by decide +kernel, rfl⟩
theorem eX6_falls_58 : decode cX6_falls 58 = .ok (.invokevirtual 194, 3) ∧ 58 + 3 = 61 := ⟨by decide +kernel, rfl⟩
theorem eX6_falls_61 : decode cX6_falls 61 = .ok (.istore 5, 2) ∧ 61 + 2 = 63 := ⟨by decide +kernel, rfl⟩
theorem eX6_falls_63 : decode cX6_falls 63 = .ok (.iconst 0, 1) ∧ 63 + 1 = 64 := ⟨by decide +kernel, rfl⟩
theorem eX6_falls_64 : decode cX6_falls 64 = .ok (.istore 6, 2) ∧ 64 + 2 = 66 := ⟨by decide +kernel, rfl⟩
theorem eX6_falls_66 : decode cX6_falls 66 = .ok (.iconst 0, 1) ∧ 66 + 1 = 67 := ⟨by decide +kernel, rfl⟩
theorem eX6_falls_67 : decode cX6_falls 67 = .ok (.istore 7, 2) ∧ 67 + 2 = 69 := ⟨by decide +kernel, rfl⟩
theorem eX6_falls_69 : decode cX6_falls 69 = .ok (.iconst 0, 1) ∧ 69 + 1 = 70 := ⟨by decide +kernel, rfl⟩
theorem eX6_falls_70 : decode cX6_falls 70 = .ok (.istore 8, 2) ∧ 70 + 2 = 72 := ⟨by decide +kernel, rfl⟩
theorem eX6_falls_72 : decode cX6_falls 72 = .ok (.iload 8, 2) ∧ 72 + 2 = 74 := ⟨by decide +kernel, rfl⟩
theorem eX6_falls_74 : decode cX6_falls 74 = .ok (.iload 5, 2) ∧ 74 + 2 = 76 := ⟨by decide +kernel, rfl⟩
theorem eX6_falls_76 : decode cX6_falls 76 = .ok (.if_icmp .gt 78, 3) ∧ ((76 : Nat) : Int) + 78 = ((154 : Nat) : Int) ∧ 76 + 3 = 79 := ⟨by decide +kernel, by decide, rfl⟩
theorem eX6_falls_79 : decode cX6_falls 79 = .ok (.iload 8, 2) ∧ 79 + 2 = 81 := ⟨by decide +kernel, rfl⟩
theorem eX6_falls_81 : decode cX6_falls 81 = .ok (.iload 5, 2) ∧ 81 + 2 = 83 := ⟨by decide +kernel, rfl⟩
theorem eX6_falls_83 : decode cX6_falls 83 = .ok (.iconst (-1), 1) ∧ 83 + 1 = 84 := ⟨by decide +kernel, rfl⟩
theorem eX6_falls_84 : decode cX6_falls 84 = .ok (.ixor, 1) ∧ 84 + 1 = 85 := ⟨by decide +kernel, rfl⟩
theorem eX6_falls_85 : decode cX6_falls 85 = .ok (.iand, 1) ∧ 85 + 1 = 86 := ⟨by decide +kernel, rfl⟩
theorem eX6_falls_86 : decode cX6_falls 86 = .ok (.ifCond .ne 62, 3) ∧ ((86 : Nat) : Int) + 62 = ((148 : Nat) : Int) ∧ 86 + 3 = 89 := ⟨by decide +kernel, by decide, rfl⟩
theorem eX6_falls_89 : decode cX6_falls 89 = .ok (.iload_n 3, 1) ∧ 89 + 1 = 90 := ⟨by decide +kernel, rfl⟩
theorem eX6_falls_90 : decode cX6_falls 90 = .ok (.iload 8, 2) ∧ 90 + 2 = 92 := ⟨by decide +kernel, rfl⟩
theorem eX6_falls_92 : decode cX6_falls 92 = .ok (.invokestatic 130, 3) ∧ 92 + 3 = 95 := ⟨by decide +kernel, rfl⟩
theorem eX6_falls_95 : decode cX6_falls 95 = .ok (.invokestatic 197, 3) ∧ 95 + 3 = 98 := ⟨by decide +kernel, rfl⟩
theorem eX6_falls_98 : decode cX6_falls 98 = .ok (.bipush 10, 2) ∧ 98 + 2 = 100 := ⟨by decide +kernel, rfl⟩
theorem eX6_falls_100 : decode cX6_falls 100 = .ok (.iload_n 3, 1) ∧ 100 + 1 = 101 := ⟨by decide +kernel, rfl⟩
theorem eX6_falls_101 : decode cX6_falls 101 = .ok (.isub, 1) ∧ 101 + 1 = 102 := ⟨by decide +kernel, rfl⟩
theorem eX6_falls_102 : decode cX6_falls 102 = .ok (.iload 5, 2) ∧ 102 + 2 = 104 := ⟨by decide +kernel, rfl⟩
theorem eX6_falls_104 : decode cX6_falls 104 = .ok (.invokestatic 130, 3) ∧ 104 + 3 = 107 := ⟨by decide +kernel, rfl⟩
theorem eX6_falls_107 : decode cX6_falls 107 = .ok (.iload 8, 2) ∧ 107 + 2 = 109 := ⟨by decide +kernel, rfl⟩
theorem eX6_falls_109 : decode cX6_falls 109 = .ok (.invokestatic 130, 3) ∧ 109 + 3 = 112 := ⟨by decide +kernel, rfl⟩
theorem eX6_falls_112 : decode cX6_falls 112 = .ok (.isub, 1) ∧ 112 + 1 = 113 := ⟨by decide +kernel, rfl⟩
theorem eX6_falls_113 : decode cX6_falls 113 = .ok (.invokestatic 197, 3) ∧ 113 + 3 = 116 := ⟨by decide +kernel, rfl⟩
theorem eX6_falls_116 : decode cX6_falls 116 = .ok (.imul, 1) ∧ 116 + 1 = 117 := ⟨by decide +kernel, rfl⟩
theorem eX6_falls_117 : decode cX6_falls 117 = .ok (.istore 9, 2) ∧ 117 + 2 = 119 := ⟨by decide +kernel, rfl⟩
theorem eX6_falls_119 : decode cX6_falls 119 = .ok (.iload 7, 2) ∧ 119 + 2 = 121 := ⟨by decide +kernel, rfl⟩
theorem eX6_falls_121 : decode cX6_falls 121 = .ok (.iload 9, 2) ∧ 121 + 2 = 123 := ⟨by decide +kernel, rfl⟩
theorem eX6_falls_123 : decode cX6_falls 123 = .ok (.iadd, 1) ∧ 123 + 1 = 124 := ⟨by decide +kernel, rfl⟩
theorem eX6_falls_124 : decode cX6_falls 124 = .ok (.istore 7, 2) ∧ 124 + 2 = 126 := ⟨by decide +kernel, rfl⟩
theorem eX6_falls_126 : decode cX6_falls 126 = .ok (.iload 6, 2) ∧ 126 + 2 = 128 := ⟨by decide +kernel, rfl⟩
theorem eX6_falls_128 : decode cX6_falls 128 = .ok (.aload_n 0, 1) ∧ 128 + 1 = 129 := ⟨by decide +kernel, rfl⟩
theorem eX6_falls_129 : decode cX6_falls 129 = .ok (.iload_n 1, 1) ∧ 129 + 1 = 130 := ⟨by decide +kernel, rfl⟩
theorem eX6_falls_130 : decode cX6_falls 130 = .ok (.iload_n 2, 1) ∧ 130 + 1 = 131 := ⟨by decide +kernel, rfl⟩
theorem eX6_falls_131 : decode cX6_falls 131 = .ok (.iload 8, 2) ∧ 131 + 2 = 133 := ⟨by decide +kernel, rfl⟩
theorem eX6_falls_133 : decode cX6_falls 133 = .ok (.invokevirtual 200, 3) ∧ 133 + 3 = 136 := ⟨by decide +kernel, rfl⟩
theorem eX6_falls_136 : decode cX6_falls 136 = .ok (.ifCond .eq 8, 3) ∧ ((136 : Nat) : Int) + 8 = ((144 : Nat) : Int) ∧ 136 + 3 = 139 := ⟨by decide +kernel, by decide, rfl⟩
theorem eX6_falls_139 : decode cX6_falls 139 = .ok (.iload 9, 2) ∧ 139 + 2 = 141 := ⟨by decide +kernel, rfl⟩
theorem eX6_falls_141 : decode cX6_falls 141 = .ok (.goto 4, 3) ∧ ((141 : Nat) : Int) + 4 = ((145 : Nat) : Int) := ⟨by decide +kernel, by decide⟩
theorem eX6_falls_144 : decode cX6_falls 144 = .ok (.iconst 0, 1) ∧ 144 + 1 = 145 := ⟨by decide +kernel, rfl⟩
theorem eX6_falls_145 : decode cX6_falls 145 = .ok (.iadd, 1) ∧ 145 + 1 = 146 := ⟨by decide +kernel, rfl⟩
theorem eX6_falls_146 : decode cX6_falls 146 = .ok (.istore 6, 2) ∧ 146 + 2 = 148 := ⟨by decide +kernel, rfl⟩
theorem eX6_falls_148 : decode cX6_falls 148 = .ok (.iinc 8 1, 3) ∧ 148 + 3 = 151 := ⟨by decide +kernel, rfl⟩
theorem eX6_falls_151 : decode cX6_falls 151 = .ok (.goto (-79), 3) ∧ ((151 : Nat) : Int) + (-79) = ((72 : Nat) : Int) := ⟨by decide +kernel, by decide⟩
theorem eX6_falls_154 : decode cX6_falls 154 = .ok (.iload 6, 2) ∧ 154 + 2 = 156 := ⟨by decide +kernel, rfl⟩
theorem eX6_falls_156 : decode cX6_falls 156 = .ok (.iload 7, 2) ∧ 156 + 2 = 158 := ⟨by decide +kernel, rfl⟩
theorem eX6_falls_158 : decode cX6_falls 158 = .ok (.invokestatic 175, 3) ∧ 158 + 3 = 161 := ⟨by decide +kernel, rfl⟩
theorem eX6_falls_161 : decode cX6_falls 161 = .ok (.istore 8, 2) ∧ 161 + 2 = 163 := ⟨by decide +kernel, rfl⟩
theorem eX6_falls_163 : decode cX6_falls 163 = .ok (.iload 4, 2) ∧ 163 + 2 = 165 := ⟨by decide +kernel, rfl⟩
theorem eX6_falls_165 : decode cX6_falls 165 = .ok (.ifCond .eq 11, 3) ∧ ((165 : Nat) : Int) + 11 = ((176 : Nat) : Int) ∧ 165 + 3 = 168 := ⟨by decide +kernel, by decide, rfl⟩
theorem eX6_falls_168 : decode cX6_falls 168 = .ok (.iload 6, 2) ∧ 168 + 2 = 170 := ⟨by decide +kernel, rfl⟩
theorem eX6_falls_170 : decode cX6_falls 170 = .ok (.iload 8, 2) ∧ 170 + 2 = 172 := ⟨by decide +kernel, rfl⟩
theorem eX6_falls_172 : decode cX6_falls 172 = .ok (.idiv, 1) ∧ 172 + 1 = 173 := ⟨by decide +kernel, rfl⟩
theorem eX6_falls_173 : decode cX6_falls 173 = .ok (.goto 8, 3) ∧ ((173 : Nat) : Int) + 8 = ((181 : Nat) : Int) := ⟨by decide +kernel, by decide⟩
theorem eX6_falls_176 : decode cX6_falls 176 = .ok (.iload 7, 2) ∧ 176 + 2 = 178 := ⟨by decide +kernel, rfl⟩
theorem eX6_falls_178 : decode cX6_falls 178 = .ok (.iload 8, 2) ∧ 178 + 2 = 180 := ⟨by decide +kernel, rfl⟩
theorem eX6_falls_180 : decode cX6_falls 180 = .ok (.idiv, 1) ∧ 180 + 1 = 181 := ⟨by decide +kernel, rfl⟩
theorem eX6_falls_181 : decode cX6_falls 181 = .ok (.ireturn, 1) := by decide +kernel
theorem eX6_seed_0 : decode cX6_seed 0 = .ok (.aload_n 0, 1) ∧ 0 + 1 = 1 := ⟨by decide +kernel, rfl⟩
theorem eX6_seed_1 : decode cX6_seed 1 = .ok (.getfield 203, 3) ∧ 1 + 3 = 4 := ⟨by decide +kernel, rfl⟩
theorem eX6_seed_4 : decode cX6_seed 4 = .ok (.lstore_n 3, 1) ∧ 4 + 1 = 5 := ⟨by decide +kernel, rfl⟩
theorem eX6_seed_5 : decode cX6_seed 5 = .ok (.aload_n 0, 1) ∧ 5 + 1 = 6 := ⟨by decide +kernel, rfl⟩
theorem eX6_seed_6 : decode cX6_seed 6 = .ok (.lload_n 1, 1) ∧ 6 + 1 = 7 := ⟨by decide +kernel, rfl⟩
theorem eX6_seed_7 : decode cX6_seed 7 = .ok (.putfield 203, 3) ∧ 7 + 3 = 10 := ⟨by decide +kernel, rfl⟩
theorem eX6_seed_10 : decode cX6_seed 10 = .ok (.lload_n 3, 1) ∧ 10 + 1 = 11 := ⟨by decide +kernel, rfl⟩
theorem eX6_seed_11 : decode cX6_seed 11 = .ok (.lreturn, 1) := by decide +kernel
theorem eX6_summers_0 : decode cX6_summers 0 = .ok (.iload_n 1, 1) ∧ 0 + 1 = 1 := ⟨by decide +kernel, rfl⟩
theorem eX6_summers_1 : decode cX6_summers 1 = .ok (.i2l, 1) ∧ 1 + 1 = 2 := ⟨by decide +kernel, rfl⟩
theorem eX6_summers_2 : decode cX6_summers 2 = .ok (.lconst 1, 1) ∧ 2 + 1 = 3 := ⟨by decide +kernel, rfl⟩
theorem eX6_summers_3 : decode cX6_summers 3 = .ok (.ldc2_w 207, 3) ∧ 3 + 3 = 6 := ⟨by decide +kernel, rfl⟩
theorem eX6_summers_6 : decode cX6_summers 6 = .ok (.invokestatic 59, 3) ∧ 6 + 3 = 9 := ⟨by decide +kernel, rfl⟩
theorem eX6_summers_9 : decode cX6_summers 9 = .ok (.ifCond .ne 6, 3) ∧ ((9 : Nat) : Int) + 6 = ((15 : Nat) : Int) ∧ 9 + 3 = 12 := ⟨by decide +kernel, by decide, rfl⟩
theorem eX6_summers_12 : decode cX6_summers 12 = .ok (.bipush (-2), 2) ∧ 12 + 2 = 14 := ⟨by decide +kernel, rfl⟩
theorem eX6_summers_14 : decode cX6_summers 14 = .ok (.ireturn, 1) := by decide +kernel
theorem eX6_summers_15 : decode cX6_summers 15 = .ok (.aload_n 0, 1) ∧ 15 + 1 = 16 := ⟨by decide +kernel, rfl⟩
theorem eX6_summers_16 : decode cX6_summers 16 = .ok (.invokevirtual 137, 3) ∧ 16 + 3 = 19 := ⟨by decide +kernel, rfl⟩
theorem eX6_summers_19 : decode cX6_summers 19 = .ok (.iconst 0, 1) ∧ 19 + 1 = 20 := ⟨by decide +kernel, rfl⟩
theorem eX6_summers_20 : decode cX6_summers 20 = .ok (.istore_n 2, 1) ∧ 20 + 1 = 21 := ⟨by decide +kernel, rfl⟩
theorem eX6_summers_21 : decode cX6_summers 21 = .ok (.iconst 0, 1) ∧ 21 + 1 = 22 := ⟨by decide +kernel, rfl⟩
theorem eX6_summers_22 : decode cX6_summers 22 = .ok (.istore_n 3, 1) ∧ 22 + 1 = 23 := ⟨by decide +kernel, rfl⟩
theorem eX6_summers_23 : decode cX6_summers 23 = .ok (.iload_n 3, 1) ∧ 23 + 1 = 24 := ⟨by decide +kernel, rfl⟩
theorem eX6_summers_24 : decode cX6_summers 24 = .ok (.iload_n 1, 1) ∧ 24 + 1 = 25 := ⟨by decide +kernel, rfl⟩
theorem eX6_summers_25 : decode cX6_summers 25 = .ok (.if_icmp .ge 113, 3) ∧ ((25 : Nat) : Int) + 113 = ((138 : Nat) : Int) ∧ 25 + 3 = 28 := ⟨by decide +kernel, by decide, rfl⟩
theorem eX6_summers_28 : decode cX6_summers 28 = .ok (.aload_n 0, 1) ∧ 28 + 1 = 29 := ⟨by decide +kernel, rfl⟩
theorem eX6_summers_29 : decode cX6_summers 29 = .ok (.aload_n 0, 1) ∧ 29 + 1 = 30 := ⟨by decide +kernel, rfl⟩
theorem eX6_summers_30 : decode cX6_summers 30 = .ok (.getfield 203, 3) ∧ 30 + 3 = 33 := ⟨by decide +kernel, rfl⟩
theorem eX6_summers_33 : decode cX6_summers 33 = .ok (.ldc2_w 209, 3) ∧ 33 + 3 = 36 := ⟨by decide +kernel, rfl⟩
theorem eX6_summers_36 : decode cX6_summers 36 = .ok (.lmul, 1) ∧ 36 + 1 = 37 := ⟨by decide +kernel, rfl⟩
theorem eX6_summers_37 : decode cX6_summers 37 = .ok (.ldc2_w 211, 3) ∧ 37 + 3 = 40 := ⟨by decide +kernel, rfl⟩
theorem eX6_summers_40 : decode cX6_summers 40 = .ok (.ladd, 1) ∧ 40 + 1 = 41 := ⟨by decide +kernel, rfl⟩
theorem eX6_summers_41 : decode cX6_summers 41 = .ok (.putfield 203, 3) ∧ 41 + 3 = 44 := ⟨by decide +kernel, rfl⟩
theorem eX6_summers_44 : decode cX6_summers 44 = .ok (.aload_n 0, 1) ∧ 44 + 1 = 45 := ⟨by decide +kernel, rfl⟩
theorem eX6_summers_45 : decode cX6_summers 45 = .ok (.getfield 203, 3) ∧ 45 + 3 = 48 := ⟨by decide +kernel, rfl⟩
theorem eX6_summers_48 : decode cX6_summers 48 = .ok (.bipush 33, 2) ∧ 48 + 2 = 50 := ⟨by decide +kernel, rfl⟩
theorem eX6_summers_50 : decode cX6_summers 50 = .ok (.lushr, 1) ∧ 50 + 1 = 51 := ⟨by decide +kernel, rfl⟩
theorem eX6_summers_51 : decode cX6_summers 51 = .ok (.ldc2_w 213, 3) ∧ 51 + 3 = 54 := ⟨by decide +kernel, rfl⟩
theorem eX6_summers_54 : decode cX6_summers 54 = .ok (.lrem, 1) ∧ 54 + 1 = 55 := ⟨by decide +kernel, rfl⟩
theorem eX6_summers_55 : decode cX6_summers 55 = .ok (.l2i, 1) ∧ 55 + 1 = 56 := ⟨by decide +kernel, rfl⟩
theorem eX6_summers_56 : decode cX6_summers 56 = .ok (.istore 4, 2) ∧ 56 + 2 = 58 := ⟨by decide +kernel, rfl⟩
theorem eX6_summers_58 : decode cX6_summers 58 = .ok (.iload 4, 2) ∧ 58 + 2 = 60 := ⟨by decide +kernel, rfl⟩
theorem eX6_summers_60 : decode cX6_summers 60 = .ok (.bipush 6, 2) ∧ 60 + 2 = 62 := ⟨by decide +kernel, rfl⟩
theorem eX6_summers_62 : decode cX6_summers 62 = .ok (.if_icmp .ne 17, 3) ∧ ((62 : Nat) : Int) + 17 = ((79 : Nat) : Int) ∧ 62 + 3 = 65 := ⟨by decide +kernel, by decide, rfl⟩
theorem eX6_summers_65 : decode cX6_summers 65 = .ok (.aload_n 0, 1) ∧ 65 + 1 = 66 := ⟨by decide +kernel, rfl⟩
theorem eX6_summers_66 : decode cX6_summers 66 = .ok (.getfield 25, 3) ∧ 66 + 3 = 69 := ⟨by decide +kernel, rfl⟩
theorem eX6_summers_69 : decode cX6_summers 69 = .ok (.bipush 8, 2) ∧ 69 + 2 = 71 := ⟨by decide +kernel, rfl⟩
theorem eX6_summers_71 : decode cX6_summers 71 = .ok (.dup2, 1) ∧ 71 + 1 = 72 := ⟨by decide +kernel, rfl⟩
theorem eX6_summers_72 : decode cX6_summers 72 = .ok (.iaload, 1) ∧ 72 + 1 = 73 := ⟨by decide +kernel, rfl⟩
theorem eX6_summers_73 : decode cX6_summers 73 = .ok (.iconst 1, 1) ∧ 73 + 1 = 74 := ⟨by decide +kernel, rfl⟩
theorem eX6_summers_74 : decode cX6_summers 74 = .ok (.iadd, 1) ∧ 74 + 1 = 75 := ⟨by decide +kernel, rfl⟩
theorem eX6_summers_75 : decode cX6_summers 75 = .ok (.iastore, 1) ∧ 75 + 1 = 76 := ⟨by decide +kernel, rfl⟩
theorem eX6_summers_76 : decode cX6_summers 76 = .ok (.goto 56, 3) ∧ ((76 : Nat) : Int) + 56 = ((132 : Nat) : Int) := ⟨by decide +kernel, by decide⟩
theorem eX6_summers_79 : decode cX6_summers 79 = .ok (.iload 4, 2) ∧ 79 + 2 = 81 := ⟨by decide +kernel, rfl⟩
theorem eX6_summers_81 : decode cX6_summers 81 = .ok (.bipush 7, 2) ∧ 81 + 2 = 83 := ⟨by decide +kernel, rfl⟩
theorem eX6_summers_83 : decode cX6_summers 83 = .ok (.if_icmp .ne 22, 3) ∧ ((83 : Nat) : Int) + 22 = ((105 : Nat) : Int) ∧ 83 + 3 = 86 := ⟨by decide +kernel, by decide, rfl⟩
theorem eX6_summers_86 : decode cX6_summers 86 = .ok (.aload_n 0, 1) ∧ 86 + 1 = 87 := ⟨by decide +kernel, rfl⟩
theorem eX6_summers_87 : decode cX6_summers 87 = .ok (.getfield 25, 3) ∧ 87 + 3 = 90 := ⟨by decide +kernel, rfl⟩
theorem eX6_summers_90 : decode cX6_summers 90 = .ok (.bipush 8, 2) ∧ 90 + 2 = 92 := ⟨by decide +kernel, rfl⟩
theorem eX6_summers_92 : decode cX6_summers 92 = .ok (.iconst 0, 1) ∧ 92 + 1 = 93 := ⟨by decide +kernel, rfl⟩
theorem eX6_summers_93 : decode cX6_summers 93 = .ok (.iastore, 1) ∧ 93 + 1 = 94 := ⟨by decide +kernel, rfl⟩
theorem eX6_summers_94 : decode cX6_summers 94 = .ok (.aload_n 0, 1) ∧ 94 + 1 = 95 := ⟨by decide +kernel, rfl⟩
theorem eX6_summers_95 : decode cX6_summers 95 = .ok (.getfield 25, 3) ∧ 95 + 3 = 98 := ⟨by decide +kernel, rfl⟩
theorem eX6_summers_98 : decode cX6_summers 98 = .ok (.bipush 10, 2) ∧ 98 + 2 = 100 := ⟨by decide +kernel, rfl⟩
theorem eX6_summers_100 : decode cX6_summers 100 = .ok (.iconst 0, 1) ∧ 100 + 1 = 101 := ⟨by decide +kernel, rfl⟩
theorem eX6_summers_101 : decode cX6_summers 101 = .ok (.iastore, 1) ∧ 101 + 1 = 102 := ⟨by decide +kernel, rfl⟩
theorem eX6_summers_102 : decode cX6_summers 102 = .ok (.goto 30, 3) ∧ ((102 : Nat) : Int) + 30 = ((132 : Nat) : Int) := ⟨by decide +kernel, by decide⟩
theorem eX6_summers_105 : decode cX6_summers 105 = .ok (.aload_n 0, 1) ∧ 105 + 1 = 106 := ⟨by decide +kernel, rfl⟩
theorem eX6_summers_106 : decode cX6_summers 106 = .ok (.iload 4, 2) ∧ 106 + 2 = 108 := ⟨by decide +kernel, rfl⟩
theorem eX6_summers_108 : decode cX6_summers 108 = .ok (.invokevirtual 109, 3) ∧ 108 + 3 = 111 := ⟨by decide +kernel, rfl⟩
theorem eX6_summers_111 : decode cX6_summers 111 = .ok (.ifCond .eq 21, 3) ∧ ((111 : Nat) : Int) + 21 = ((132 : Nat) : Int) ∧ 111 + 3 = 114 := ⟨by decide +kernel, by decide, rfl⟩
theorem eX6_summers_114 : decode cX6_summers 114 = .ok (.iload_n 2, 1) ∧ 114 + 1 = 115 := ⟨by decide +kernel, rfl⟩
theorem eX6_summers_115 : decode cX6_summers 115 = .ok (.aload_n 0, 1) ∧ 115 + 1 = 116 := ⟨by decide +kernel, rfl⟩
theorem eX6_summers_116 : decode cX6_summers 116 = .ok (.iconst 1, 1) ∧ 116 + 1 = 117 := ⟨by decide +kernel, rfl⟩
theorem eX6_summers_117 : decode cX6_summers 117 = .ok (.iload 4, 2) ∧ 117 + 2 = 119 := ⟨by decide +kernel, rfl⟩
theorem eX6_summers_119 : decode cX6_summers 119 = .ok (.invokevirtual 123, 3) ∧ 119 + 3 = 122 := ⟨by decide +kernel, rfl⟩
theorem eX6_summers_122 : decode cX6_summers 122 = .ok (.ifCond .eq 7, 3) ∧ ((122 : Nat) : Int) + 7 = ((129 : Nat) : Int) ∧ 122 + 3 = 125 := ⟨by decide +kernel, by decide, rfl⟩
theorem eX6_summers_125 : decode cX6_summers 125 = .ok (.iconst 1, 1) ∧ 125 + 1 = 126 := ⟨by decide +kernel, rfl⟩
theorem eX6_summers_126 : decode cX6_summers 126 = .ok (.goto 4, 3) ∧ ((126 : Nat) : Int) + 4 = ((130 : Nat) : Int) := ⟨by decide +kernel, by decide⟩
theorem eX6_summers_129 : decode cX6_summers 129 = .ok (.iconst 0, 1) ∧ 129 + 1 = 130 := ⟨by decide +kernel, rfl⟩
theorem eX6_summers_130 : decode cX6_summers 130 = .ok (.iadd, 1) ∧ 130 + 1 = 131 := ⟨by decide +kernel, rfl⟩
theorem eX6_summers_131 : decode cX6_summers 131 = .ok (.istore_n 2, 1) ∧ 131 + 1 = 132 := ⟨by decide +kernel, rfl⟩
theorem eX6_summers_132 : decode cX6_summers 132 = .ok (.iinc 3 1, 3) ∧ 132 + 3 = 135 := ⟨by decide +kernel, rfl⟩
theorem eX6_summers_135 : decode cX6_summers 135 = .ok (.goto (-112), 3) ∧ ((135 : Nat) : Int) + (-112) = ((23 : Nat) : Int) := ⟨by decide +kernel, by decide⟩
theorem eX6_summers_138 : decode cX6_summers 138 = .ok (.iload_n 2, 1) ∧ 138 + 1 = 139 := ⟨by decide +kernel, rfl⟩
theorem eX6_summers_139 : decode cX6_summers 139 = .ok (.ireturn, 1) := by decide +kernel
theorem eX6_keep_0 : decode cX6_keep 0 = .ok (.iload_n 1, 1) ∧ 0 + 1 = 1 := ⟨by decide +kernel, rfl⟩
theorem eX6_keep_1 : decode cX6_keep 1 = .ok (.i2l, 1) ∧ 1 + 1 = 2 := ⟨by decide +kernel, rfl⟩
theorem eX6_keep_2 : decode cX6_keep 2 = .ok (.lconst 0, 1) ∧ 2 + 1 = 3 := ⟨by decide +kernel, rfl⟩
theorem eX6_keep_3 : decode cX6_keep 3 = .ok (.lconst 1, 1) ∧ 3 + 1 = 4 := ⟨by decide +kernel, rfl⟩
theorem eX6_keep_4 : decode cX6_keep 4 = .ok (.invokestatic 59, 3) ∧ 4 + 3 = 7 := ⟨by decide +kernel, rfl⟩
theorem eX6_keep_7 : decode cX6_keep 7 = .ok (.ifCond .ne 5, 3) ∧ ((7 : Nat) : Int) + 5 = ((12 : Nat) : Int) ∧ 7 + 3 = 10 := ⟨by decide +kernel, by decide, rfl⟩
theorem eX6_keep_10 : decode cX6_keep 10 = .ok (.iconst (-1), 1) ∧ 10 + 1 = 11 := ⟨by decide +kernel, rfl⟩
theorem eX6_keep_11 : decode cX6_keep 11 = .ok (.ireturn, 1) := by decide +kernel
theorem eX6_keep_12 : decode cX6_keep 12 = .ok (.aload_n 0, 1) ∧ 12 + 1 = 13 := ⟨by decide +kernel, rfl⟩
theorem eX6_keep_13 : decode cX6_keep 13 = .ok (.getfield 46, 3) ∧ 13 + 3 = 16 := ⟨by decide +kernel, rfl⟩
theorem eX6_keep_16 : decode cX6_keep 16 = .ok (.iload_n 1, 1) ∧ 16 + 1 = 17 := ⟨by decide +kernel, rfl⟩
theorem eX6_keep_17 : decode cX6_keep 17 = .ok (.iconst 1, 1) ∧ 17 + 1 = 18 := ⟨by decide +kernel, rfl⟩
theorem eX6_keep_18 : decode cX6_keep 18 = .ok (.bastore, 1) ∧ 18 + 1 = 19 := ⟨by decide +kernel, rfl⟩
theorem eX6_keep_19 : decode cX6_keep 19 = .ok (.iconst 0, 1) ∧ 19 + 1 = 20 := ⟨by decide +kernel, rfl⟩
theorem eX6_keep_20 : decode cX6_keep 20 = .ok (.istore_n 2, 1) ∧ 20 + 1 = 21 := ⟨by decide +kernel, rfl⟩
theorem eX6_keep_21 : decode cX6_keep 21 = .ok (.iload_n 2, 1) ∧ 21 + 1 = 22 := ⟨by decide +kernel, rfl⟩
theorem eX6_keep_22 : decode cX6_keep 22 = .ok (.bipush 8, 2) ∧ 22 + 2 = 24 := ⟨by decide +kernel, rfl⟩
theorem eX6_keep_24 : decode cX6_keep 24 = .ok (.if_icmp .ge 26, 3) ∧ ((24 : Nat) : Int) + 26 = ((50 : Nat) : Int) ∧ 24 + 3 = 27 := ⟨by decide +kernel, by decide, rfl⟩
theorem eX6_keep_27 : decode cX6_keep 27 = .ok (.aload_n 0, 1) ∧ 27 + 1 = 28 := ⟨by decide +kernel, rfl⟩
theorem eX6_keep_28 : decode cX6_keep 28 = .ok (.getfield 50, 3) ∧ 28 + 3 = 31 := ⟨by decide +kernel, rfl⟩
theorem eX6_keep_31 : decode cX6_keep 31 = .ok (.bipush 8, 2) ∧ 31 + 2 = 33 := ⟨by decide +kernel, rfl⟩
theorem eX6_keep_33 : decode cX6_keep 33 = .ok (.iload_n 1, 1) ∧ 33 + 1 = 34 := ⟨by decide +kernel, rfl⟩
theorem eX6_keep_34 : decode cX6_keep 34 = .ok (.imul, 1) ∧ 34 + 1 = 35 := ⟨by decide +kernel, rfl⟩
theorem eX6_keep_35 : decode cX6_keep 35 = .ok (.iload_n 2, 1) ∧ 35 + 1 = 36 := ⟨by decide +kernel, rfl⟩
theorem eX6_keep_36 : decode cX6_keep 36 = .ok (.iadd, 1) ∧ 36 + 1 = 37 := ⟨by decide +kernel, rfl⟩
theorem eX6_keep_37 : decode cX6_keep 37 = .ok (.aload_n 0, 1) ∧ 37 + 1 = 38 := ⟨by decide +kernel, rfl⟩
theorem eX6_keep_38 : decode cX6_keep 38 = .ok (.getfield 25, 3) ∧ 38 + 3 = 41 := ⟨by decide +kernel, rfl⟩
theorem eX6_keep_41 : decode cX6_keep 41 = .ok (.iload_n 2, 1) ∧ 41 + 1 = 42 := ⟨by decide +kernel, rfl⟩
theorem eX6_keep_42 : decode cX6_keep 42 = .ok (.iaload, 1) ∧ 42 + 1 = 43 := ⟨by decide +kernel, rfl⟩
theorem eX6_keep_43 : decode cX6_keep 43 = .ok (.iastore, 1) ∧ 43 + 1 = 44 := ⟨by decide +kernel, rfl⟩
theorem eX6_keep_44 : decode cX6_keep 44 = .ok (.iinc 2 1, 3) ∧ 44 + 3 = 47 := ⟨by decide +kernel, rfl⟩
theorem eX6_keep_47 : decode cX6_keep 47 = .ok (.goto (-26), 3) ∧ ((47 : Nat) : Int) + (-26) = ((21 : Nat) : Int) := ⟨by decide +kernel, by decide⟩
theorem eX6_keep_50 : decode cX6_keep 50 = .ok (.aload_n 0, 1) ∧ 50 + 1 = 51 := ⟨by decide +kernel, rfl⟩
theorem eX6_keep_51 : decode cX6_keep 51 = .ok (.getfield 25, 3) ∧ 51 + 3 = 54 := ⟨by decide +kernel, rfl⟩
theorem eX6_keep_54 : decode cX6_keep 54 = .ok (.iconst 0, 1) ∧ 54 + 1 = 55 := ⟨by decide +kernel, rfl⟩
theorem eX6_keep_55 : decode cX6_keep 55 = .ok (.iaload, 1) ∧ 55 + 1 = 56 := ⟨by decide +kernel, rfl⟩
theorem eX6_keep_56 : decode cX6_keep 56 = .ok (.ireturn, 1) := by decide +kernel
theorem eX6_again_0 : decode cX6_again 0 = .ok (.iload_n 1, 1) ∧ 0 + 1 = 1 := ⟨by decide +kernel, rfl⟩
theorem eX6_again_1 : decode cX6_again 1 = .ok (.i2l, 1) ∧ 1 + 1 = 2 := ⟨by decide +kernel, rfl⟩
theorem eX6_again_2 : decode cX6_again 2 = .ok (.lconst 0, 1) ∧ 2 + 1 = 3 := ⟨by decide +kernel, rfl⟩
theorem eX6_again_3 : decode cX6_again 3 = .ok (.lconst 1, 1) ∧ 3 + 1 = 4 := ⟨by decide +kernel, rfl⟩
theorem eX6_again_4 : decode cX6_again 4 = .ok (.invokestatic 59, 3) ∧ 4 + 3 = 7 := ⟨by decide +kernel, rfl⟩
theorem eX6_again_7 : decode cX6_again 7 = .ok (.ifCond .ne 5, 3) ∧ ((7 : Nat) : Int) + 5 = ((12 : Nat) : Int) ∧ 7 + 3 = 10 := ⟨by decide +kernel, by decide, rfl⟩
theorem eX6_again_10 : decode cX6_again 10 = .ok (.iconst (-1), 1) ∧ 10 + 1 = 11 := ⟨by decide +kernel, rfl⟩
theorem eX6_again_11 : decode cX6_again 11 = .ok (.ireturn, 1) := by decide +kernel
theorem eX6_again_12 : decode cX6_again 12 = .ok (.aload_n 0, 1) ∧ 12 + 1 = 13 := ⟨by decide +kernel, rfl⟩
theorem eX6_again_13 : decode cX6_again 13 = .ok (.getfield 46, 3) ∧ 13 + 3 = 16 := ⟨by decide +kernel, rfl⟩
theorem eX6_again_16 : decode cX6_again 16 = .ok (.iload_n 1, 1) ∧ 16 + 1 = 17 := ⟨by decide +kernel, rfl⟩
theorem eX6_again_17 : decode cX6_again 17 = .ok (.baload, 1) ∧ 17 + 1 = 18 := ⟨by decide +kernel, rfl⟩
theorem eX6_again_18 : decode cX6_again 18 = .ok (.ifCond .ne 6, 3) ∧ ((18 : Nat) : Int) + 6 = ((24 : Nat) : Int) ∧ 18 + 3 = 21 := ⟨by decide +kernel, by decide, rfl⟩
theorem eX6_again_21 : decode cX6_again 21 = .ok (.bipush (-3), 2) ∧ 21 + 2 = 23 := ⟨by decide +kernel, rfl⟩
theorem eX6_again_23 : decode cX6_again 23 = .ok (.ireturn, 1) := by decide +kernel
theorem eX6_again_24 : decode cX6_again 24 = .ok (.iconst 0, 1) ∧ 24 + 1 = 25 := ⟨by decide +kernel, rfl⟩
theorem eX6_again_25 : decode cX6_again 25 = .ok (.istore_n 2, 1) ∧ 25 + 1 = 26 := ⟨by decide +kernel, rfl⟩
theorem eX6_again_26 : decode cX6_again 26 = .ok (.iload_n 2, 1) ∧ 26 + 1 = 27 := ⟨by decide +kernel, rfl⟩
theorem eX6_again_27 : decode cX6_again 27 = .ok (.bipush 8, 2) ∧ 27 + 2 = 29 := ⟨by decide +kernel, rfl⟩
theorem eX6_again_29 : decode cX6_again 29 = .ok (.if_icmp .ge 26, 3) ∧ ((29 : Nat) : Int) + 26 = ((55 : Nat) : Int) ∧ 29 + 3 = 32 := ⟨by decide +kernel, by decide, rfl⟩
theorem eX6_again_32 : decode cX6_again 32 = .ok (.aload_n 0, 1) ∧ 32 + 1 = 33 := ⟨by decide +kernel, rfl⟩
theorem eX6_again_33 : decode cX6_again 33 = .ok (.getfield 25, 3) ∧ 33 + 3 = 36 := ⟨by decide +kernel, rfl⟩
theorem eX6_again_36 : decode cX6_again 36 = .ok (.iload_n 2, 1) ∧ 36 + 1 = 37 := ⟨by decide +kernel, rfl⟩
theorem eX6_again_37 : decode cX6_again 37 = .ok (.aload_n 0, 1) ∧ 37 + 1 = 38 := ⟨by decide +kernel, rfl⟩
theorem eX6_again_38 : decode cX6_again 38 = .ok (.getfield 50, 3) ∧ 38 + 3 = 41 := ⟨by decide +kernel, rfl⟩
theorem eX6_again_41 : decode cX6_again 41 = .ok (.bipush 8, 2) ∧ 41 + 2 = 43 := ⟨by decide +kernel, rfl⟩
theorem eX6_again_43 : decode cX6_again 43 = .ok (.iload_n 1, 1) ∧ 43 + 1 = 44 := ⟨by decide +kernel, rfl⟩
theorem eX6_again_44 : decode cX6_again 44 = .ok (.imul, 1) ∧ 44 + 1 = 45 := ⟨by decide +kernel, rfl⟩
theorem eX6_again_45 : decode cX6_again 45 = .ok (.iload_n 2, 1) ∧ 45 + 1 = 46 := ⟨by decide +kernel, rfl⟩
theorem eX6_again_46 : decode cX6_again 46 = .ok (.iadd, 1) ∧ 46 + 1 = 47 := ⟨by decide +kernel, rfl⟩
theorem eX6_again_47 : decode cX6_again 47 = .ok (.iaload, 1) ∧ 47 + 1 = 48 := ⟨by decide +kernel, rfl⟩
theorem eX6_again_48 : decode cX6_again 48 = .ok (.iastore, 1) ∧ 48 + 1 = 49 := ⟨by decide +kernel, rfl⟩
theorem eX6_again_49 : decode cX6_again 49 = .ok (.iinc 2 1, 3) ∧ 49 + 3 = 52 := ⟨by decide +kernel, rfl⟩
theorem eX6_again_52 : decode cX6_again 52 = .ok (.goto (-26), 3) ∧ ((52 : Nat) : Int) + (-26) = ((26 : Nat) : Int) := ⟨by decide +kernel, by decide⟩
theorem eX6_again_55 : decode cX6_again 55 = .ok (.aload_n 0, 1) ∧ 55 + 1 = 56 := ⟨by decide +kernel, rfl⟩
theorem eX6_again_56 : decode cX6_again 56 = .ok (.iconst 0, 1) ∧ 56 + 1 = 57 := ⟨by decide +kernel, rfl⟩
theorem eX6_again_57 : decode cX6_again 57 = .ok (.putfield 83, 3) ∧ 57 + 3 = 60 := ⟨by decide +kernel, rfl⟩
theorem eX6_again_60 : decode cX6_again 60 = .ok (.aload_n 0, 1) ∧ 60 + 1 = 61 := ⟨by decide +kernel, rfl⟩
theorem eX6_again_61 : decode cX6_again 61 = .ok (.getfield 25, 3) ∧ 61 + 3 = 64 := ⟨by decide +kernel, rfl⟩
theorem eX6_again_64 : decode cX6_again 64 = .ok (.iconst 0, 1) ∧ 64 + 1 = 65 := ⟨by decide +kernel, rfl⟩
theorem eX6_again_65 : decode cX6_again 65 = .ok (.iaload, 1) ∧ 65 + 1 = 66 := ⟨by decide +kernel, rfl⟩
theorem eX6_again_66 : decode cX6_again 66 = .ok (.ireturn, 1) := by decide +kernel
theorem eX6_count_0 : decode cX6_count 0 = .ok (.iconst 0, 1) ∧ 0 + 1 = 1 := ⟨by decide +kernel, rfl⟩
theorem eX6_count_1 : decode cX6_count 1 = .ok (.istore_n 2, 1) ∧ 1 + 1 = 2 := ⟨by decide +kernel, rfl⟩
theorem eX6_count_2 : decode cX6_count 2 = .ok (.iconst 0, 1) ∧ 2 + 1 = 3 := ⟨by decide +kernel, rfl⟩
theorem eX6_count_3 : decode cX6_count 3 = .ok (.istore_n 3, 1) ∧ 3 + 1 = 4 := ⟨by decide +kernel, rfl⟩
theorem eX6_count_4 : decode cX6_count 4 = .ok (.iload_n 3, 1) ∧ 4 + 1 = 5 := ⟨by decide +kernel, rfl⟩
theorem eX6_count_5 : decode cX6_count 5 = .ok (.aload_n 0, 1) ∧ 5 + 1 = 6 := ⟨by decide +kernel, rfl⟩
theorem eX6_count_6 : decode cX6_count 6 = .ok (.getfield 80, 3) ∧ 6 + 3 = 9 := ⟨by decide +kernel, rfl⟩
theorem eX6_count_9 : decode cX6_count 9 = .ok (.if_icmp .ge 30, 3) ∧ ((9 : Nat) : Int) + 30 = ((39 : Nat) : Int) ∧ 9 + 3 = 12 := ⟨by decide +kernel, by decide, rfl⟩
theorem eX6_count_12 : decode cX6_count 12 = .ok (.iload_n 2, 1) ∧ 12 + 1 = 13 := ⟨by decide +kernel, rfl⟩
theorem eX6_count_13 : decode cX6_count 13 = .ok (.aload_n 0, 1) ∧ 13 + 1 = 14 := ⟨by decide +kernel, rfl⟩
theorem eX6_count_14 : decode cX6_count 14 = .ok (.iconst 0, 1) ∧ 14 + 1 = 15 := ⟨by decide +kernel, rfl⟩
theorem eX6_count_15 : decode cX6_count 15 = .ok (.iload_n 3, 1) ∧ 15 + 1 = 16 := ⟨by decide +kernel, rfl⟩
theorem eX6_count_16 : decode cX6_count 16 = .ok (.invokevirtual 102, 3) ∧ 16 + 3 = 19 := ⟨by decide +kernel, rfl⟩
theorem eX6_count_19 : decode cX6_count 19 = .ok (.bipush (-9), 2) ∧ 19 + 2 = 21 := ⟨by decide +kernel, rfl⟩
theorem eX6_count_21 : decode cX6_count 21 = .ok (.if_icmp .eq 9, 3) ∧ ((21 : Nat) : Int) + 9 = ((30 : Nat) : Int) ∧ 21 + 3 = 24 := ⟨by decide +kernel, by decide, rfl⟩
theorem eX6_count_24 : decode cX6_count 24 = .ok (.iconst 1, 1) ∧ 24 + 1 = 25 := ⟨by decide +kernel, rfl⟩
theorem eX6_count_25 : decode cX6_count 25 = .ok (.iload_n 3, 1) ∧ 25 + 1 = 26 := ⟨by decide +kernel, rfl⟩
theorem eX6_count_26 : decode cX6_count 26 = .ok (.ishl, 1) ∧ 26 + 1 = 27 := ⟨by decide +kernel, rfl⟩
theorem eX6_count_27 : decode cX6_count 27 = .ok (.goto 4, 3) ∧ ((27 : Nat) : Int) + 4 = ((31 : Nat) : Int) := ⟨by decide +kernel, by decide⟩
theorem eX6_count_30 : decode cX6_count 30 = .ok (.iconst 0, 1) ∧ 30 + 1 = 31 := ⟨by decide +kernel, rfl⟩
theorem eX6_count_31 : decode cX6_count 31 = .ok (.ior, 1) ∧ 31 + 1 = 32 := ⟨by decide +kernel, rfl⟩
theorem eX6_count_32 : decode cX6_count 32 = .ok (.istore_n 2, 1) ∧ 32 + 1 = 33 := ⟨by decide +kernel, rfl⟩
theorem eX6_count_33 : decode cX6_count 33 = .ok (.iinc 3 1, 3) ∧ 33 + 3 = 36 := ⟨by decide +kernel, rfl⟩
theorem eX6_count_36 : decode cX6_count 36 = .ok (.goto (-32), 3) ∧ ((36 : Nat) : Int) + (-32) = ((4 : Nat) : Int) := ⟨by decide +kernel, by decide⟩
theorem eX6_count_39 : decode cX6_count 39 = .ok (.iload_n 1, 1) ∧ 39 + 1 = 40 := ⟨by decide +kernel, rfl⟩
theorem eX6_count_40 : decode cX6_count 40 = .ok (.tableswitch 100 0 8 #[52, 57, 62, 67, 74, 81, 88, 90, 95], 52) := by decide +kernel
theorem eX6_count_92 : decode cX6_count 92 = .ok (.aload_n 0, 1) ∧ 92 + 1 = 93 := ⟨by decide +kernel, rfl⟩
theorem eX6_count_93 : decode cX6_count 93 = .ok (.getfield 63, 3) ∧ 93 + 3 = 96 := ⟨by decide +kernel, rfl⟩
theorem eX6_count_96 : decode cX6_count 96 = .ok (.ireturn, 1) := by decide +kernel
theorem eX6_count_97 : decode cX6_count 97 = .ok (.aload_n 0, 1) ∧ 97 + 1 = 98 := ⟨by decide +kernel, rfl⟩
theorem eX6_count_98 : decode cX6_count 98 = .ok (.getfield 80, 3) ∧ 98 + 3 = 101 := ⟨by decide +kernel, rfl⟩
theorem eX6_count_101 : decode cX6_count 101 = .ok (.ireturn, 1) := by decide +kernel
theorem eX6_count_102 : decode cX6_count 102 = .ok (.aload_n 0, 1) ∧ 102 + 1 = 103 := ⟨by decide +kernel, rfl⟩
theorem eX6_count_103 : decode cX6_count 103 = .ok (.getfield 53, 3) ∧ 103 + 3 = 106 := ⟨by decide +kernel, rfl⟩
theorem eX6_count_106 : decode cX6_count 106 = .ok (.ireturn, 1) := by decide +kernel
theorem eX6_count_107 : decode cX6_count 107 = .ok (.aload_n 0, 1) ∧ 107 + 1 = 108 := ⟨by decide +kernel, rfl⟩
theorem eX6_count_108 : decode cX6_count 108 = .ok (.getfield 25, 3) ∧ 108 + 3 = 111 := ⟨by decide +kernel, rfl⟩
theorem eX6_count_111 : decode cX6_count 111 = .ok (.iconst 0, 1) ∧ 111 + 1 = 112 := ⟨by decide +kernel, rfl⟩
theorem eX6_count_112 : decode cX6_count 112 = .ok (.iaload, 1) ∧ 112 + 1 = 113 := ⟨by decide +kernel, rfl⟩
theorem eX6_count_113 : decode cX6_count 113 = .ok (.ireturn, 1) := by decide +kernel
theorem eX6_count_114 : decode cX6_count 114 = .ok (.aload_n 0, 1) ∧ 114 + 1 = 115 := ⟨by decide +kernel, rfl⟩
theorem eX6_count_115 : decode cX6_count 115 = .ok (.getfield 25, 3) ∧ 115 + 3 = 118 := ⟨by decide +kernel, rfl⟩
theorem eX6_count_118 : decode cX6_count 118 = .ok (.iconst 1, 1) ∧ 118 + 1 = 119 := ⟨by decide +kernel, rfl⟩
theorem eX6_count_119 : decode cX6_count 119 = .ok (.iaload, 1) ∧ 119 + 1 = 120 := ⟨by decide +kernel, rfl⟩
theorem eX6_count_120 : decode cX6_count 120 = .ok (.ireturn, 1) := by decide +kernel
theorem eX6_count_121 : decode cX6_count 121 = .ok (.aload_n 0, 1) ∧ 121 + 1 = 122 := ⟨by decide +kernel, rfl⟩
theorem eX6_count_122 : decode cX6_count 122 = .ok (.getfield 25, 3) ∧ 122 + 3 = 125 := ⟨by decide +kernel, rfl⟩
theorem eX6_count_125 : decode cX6_count 125 = .ok (.iconst 2, 1) ∧ 125 + 1 = 126 := ⟨by decide +kernel, rfl⟩
theorem eX6_count_126 : decode cX6_count 126 = .ok (.iaload, 1) ∧ 126 + 1 = 127 := ⟨by decide +kernel, rfl⟩
theorem eX6_count_127 : decode cX6_count 127 = .ok (.ireturn, 1) := by decide +kernel
theorem eX6_count_128 : decode cX6_count 128 = .ok (.iload_n 2, 1) ∧ 128 + 1 = 129 := ⟨by decide +kernel, rfl⟩
theorem eX6_count_129 : decode cX6_count 129 = .ok (.ireturn, 1) := by decide +kernel
theorem eX6_count_130 : decode cX6_count 130 = .ok (.aload_n 0, 1) ∧ 130 + 1 = 131 := ⟨by decide +kernel, rfl⟩
theorem eX6_count_131 : decode cX6_count 131 = .ok (.getfield 83, 3) ∧ 131 + 3 = 134 := ⟨by decide +kernel, rfl⟩
theorem eX6_count_134 : decode cX6_count 134 = .ok (.ireturn, 1) := by decide +kernel
theorem eX6_count_135 : decode cX6_count 135 = .ok (.aload_n 0, 1) ∧ 135 + 1 = 136 := ⟨by decide +kernel, rfl⟩
theorem eX6_count_136 : decode cX6_count 136 = .ok (.getfield 160, 3) ∧ 136 + 3 = 139 := ⟨by decide +kernel, rfl⟩
theorem eX6_count_139 : decode cX6_count 139 = .ok (.ireturn, 1) := by decide +kernel
theorem eX6_count_140 : decode cX6_count 140 = .ok (.bipush (-2), 2) ∧ 140 + 2 = 142 := ⟨by decide +kernel, rfl⟩
theorem eX6_count_142 : decode cX6_count 142 = .ok (.ireturn, 1) := by decide +kernel
end
section
theorem eL_law_0 : decode cL_law 0 = .ok (.new 7, 3) ∧ 0 + 3 = 3 := ⟨by decide +kernel, rfl⟩
theorem eL_law_3 : decode cL_law 3 = .ok (.dup, 1) ∧ 3 + 1 = 4 := ⟨by decide +kernel, rfl⟩
theorem eL_law_4 : decode cL_law 4 = .ok (.invokespecial 9, 3) ∧ 4 + 3 = 7 := ⟨by decide +kernel, rfl⟩
theorem eL_law_7 : decode cL_law 7 = .ok (.astore_n 1, 1) ∧ 7 + 1 = 8 := ⟨by decide +kernel, rfl⟩
theorem eL_law_8 : decode cL_law 8 = .ok (.new 10, 3) ∧ 8 + 3 = 11 := ⟨by decide +kernel, rfl⟩
theorem eL_law_11 : decode cL_law 11 = .ok (.dup, 1) ∧ 11 + 1 = 12 := ⟨by decide +kernel, rfl⟩
theorem eL_law_12 : decode cL_law 12 = .ok (.invokespecial 12, 3) ∧ 12 + 3 = 15 := ⟨by decide +kernel, rfl⟩
theorem eL_law_15 : decode cL_law 15 = .ok (.astore_n 2, 1) ∧ 15 + 1 = 16 := ⟨by decide +kernel, rfl⟩
theorem eL_law_16 : decode cL_law 16 = .ok (.iconst 0, 1) ∧ 16 + 1 = 17 := ⟨by decide +kernel, rfl⟩
theorem eL_law_17 : decode cL_law 17 = .ok (.istore_n 3, 1) ∧ 17 + 1 = 18 := ⟨by decide +kernel, rfl⟩
theorem eL_law_18 : decode cL_law 18 = .ok (.iload_n 3, 1) ∧ 18 + 1 = 19 := ⟨by decide +kernel, rfl⟩
theorem eL_law_19 : decode cL_law 19 = .ok (.aload_n 0, 1) ∧ 19 + 1 = 20 := ⟨by decide +kernel, rfl⟩
theorem eL_law_20 : decode cL_law 20 = .ok (.arraylength, 1) ∧ 20 + 1 = 21 := ⟨by decide +kernel, rfl⟩
theorem eL_law_21 : decode cL_law 21 = .ok (.iconst 5, 1) ∧ 21 + 1 = 22 := ⟨by decide +kernel, rfl⟩
theorem eL_law_22 : decode cL_law 22 = .ok (.isub, 1) ∧ 22 + 1 = 23 := ⟨by decide +kernel, rfl⟩
theorem eL_law_23 : decode cL_law 23 = .ok (.if_icmp .gt 906, 3) ∧ ((23 : Nat) : Int) + 906 = ((929 : Nat) : Int) ∧ 23 + 3 = 26 := ⟨by decide +kernel, by decide, rfl⟩
theorem eL_law_26 : decode cL_law 26 = .ok (.aload_n 0, 1) ∧ 26 + 1 = 27 := ⟨by decide +kernel, rfl⟩
theorem eL_law_27 : decode cL_law 27 = .ok (.iload_n 3, 1) ∧ 27 + 1 = 28 := ⟨by decide +kernel, rfl⟩
theorem eL_law_28 : decode cL_law 28 = .ok (.iaload, 1) ∧ 28 + 1 = 29 := ⟨by decide +kernel, rfl⟩
theorem eL_law_29 : decode cL_law 29 = .ok (.bipush 31, 2) ∧ 29 + 2 = 31 := ⟨by decide +kernel, rfl⟩
theorem eL_law_31 : decode cL_law 31 = .ok (.iand, 1) ∧ 31 + 1 = 32 := ⟨by decide +kernel, rfl⟩
theorem eL_law_32 : decode cL_law 32 = .ok (.tableswitch 891 0 27 #[128, 151, 164, 177, 190, 223, 246, 279, 302, 325, 338, 361, 374, 397, 410, 449, 482, 505, 538, 551, 584, 633, 676, 745, 799, 822, 845, 868], 128) := by decide +kernel
theorem eL_law_160 : decode cL_law 160 = .ok (.aload_n 1, 1) ∧ 160 + 1 = 161 := ⟨by decide +kernel, rfl⟩
theorem eL_law_161 : decode cL_law 161 = .ok (.aload_n 0, 1) ∧ 161 + 1 = 162 := ⟨by decide +kernel, rfl⟩
theorem eL_law_162 : decode cL_law 162 = .ok (.iload_n 3, 1) ∧ 162 + 1 = 163 := ⟨by decide +kernel, rfl⟩
theorem eL_law_163 : decode cL_law 163 = .ok (.iconst 1, 1) ∧ 163 + 1 = 164 := ⟨by decide +kernel, rfl⟩
theorem eL_law_164 : decode cL_law 164 = .ok (.iadd, 1) ∧ 164 + 1 = 165 := ⟨by decide +kernel, rfl⟩
theorem eL_law_165 : decode cL_law 165 = .ok (.iaload, 1) ∧ 165 + 1 = 166 := ⟨by decide +kernel, rfl⟩
theorem eL_law_166 : decode cL_law 166 = .ok (.invokevirtual 13, 3) ∧ 166 + 3 = 169 := ⟨by decide +kernel, rfl⟩
theorem eL_law_169 : decode cL_law 169 = .ok (.aload_n 2, 1) ∧ 169 + 1 = 170 := ⟨by decide +kernel, rfl⟩
theorem eL_law_170 : decode cL_law 170 = .ok (.aload_n 0, 1) ∧ 170 + 1 = 171 := ⟨by decide +kernel, rfl⟩
theorem eL_law_171 : decode cL_law 171 = .ok (.iload_n 3, 1) ∧ 171 + 1 = 172 := ⟨by decide +kernel, rfl⟩
theorem eL_law_172 : decode cL_law 172 = .ok (.iconst 1, 1) ∧ 172 + 1 = 173 := ⟨by decide +kernel, rfl⟩
theorem eL_law_173 : decode cL_law 173 = .ok (.iadd, 1) ∧ 173 + 1 = 174 := ⟨by decide +kernel, rfl⟩
theorem eL_law_174 : decode cL_law 174 = .ok (.iaload, 1) ∧ 174 + 1 = 175 := ⟨by decide +kernel, rfl⟩
theorem eL_law_175 : decode cL_law 175 = .ok (.invokevirtual 17, 3) ∧ 175 + 3 = 178 := ⟨by decide +kernel, rfl⟩
theorem eL_law_178 : decode cL_law 178 = .ok (.if_icmp .eq 745, 3) ∧ ((178 : Nat) : Int) + 745 = ((923 : Nat) : Int) ∧ 178 + 3 = 181 := ⟨by decide +kernel, by decide, rfl⟩
theorem eL_law_181 : decode cL_law 181 = .ok (.iconst 0, 1) ∧ 181 + 1 = 182 := ⟨by decide +kernel, rfl⟩
theorem eL_law_182 : decode cL_law 182 = .ok (.ireturn, 1) := by decide +kernel
theorem eL_law_183 : decode cL_law 183 = .ok (.aload_n 1, 1) ∧ 183 + 1 = 184 := ⟨by decide +kernel, rfl⟩
theorem eL_law_184 : decode cL_law 184 = .ok (.invokevirtual 18, 3) ∧ 184 + 3 = 187 := ⟨by decide +kernel, rfl⟩
theorem eL_law_187 : decode cL_law 187 = .ok (.aload_n 2, 1) ∧ 187 + 1 = 188 := ⟨by decide +kernel, rfl⟩
theorem eL_law_188 : decode cL_law 188 = .ok (.invokevirtual 22, 3) ∧ 188 + 3 = 191 := ⟨by decide +kernel, rfl⟩
theorem eL_law_191 : decode cL_law 191 = .ok (.if_icmp .eq 732, 3) ∧ ((191 : Nat) : Int) + 732 = ((923 : Nat) : Int) ∧ 191 + 3 = 194 := ⟨by decide +kernel, by decide, rfl⟩
theorem eL_law_194 : decode cL_law 194 = .ok (.iconst 0, 1) ∧ 194 + 1 = 195 := ⟨by decide +kernel, rfl⟩
theorem eL_law_195 : decode cL_law 195 = .ok (.ireturn, 1) := by decide +kernel
theorem eL_law_196 : decode cL_law 196 = .ok (.aload_n 1, 1) ∧ 196 + 1 = 197 := ⟨by decide +kernel, rfl⟩
theorem eL_law_197 : decode cL_law 197 = .ok (.invokevirtual 23, 3) ∧ 197 + 3 = 200 := ⟨by decide +kernel, rfl⟩
theorem eL_law_200 : decode cL_law 200 = .ok (.aload_n 2, 1) ∧ 200 + 1 = 201 := ⟨by decide +kernel, rfl⟩
theorem eL_law_201 : decode cL_law 201 = .ok (.invokevirtual 26, 3) ∧ 201 + 3 = 204 := ⟨by decide +kernel, rfl⟩
theorem eL_law_204 : decode cL_law 204 = .ok (.if_icmp .eq 719, 3) ∧ ((204 : Nat) : Int) + 719 = ((923 : Nat) : Int) ∧ 204 + 3 = 207 := ⟨by decide +kernel, by decide, rfl⟩
theorem eL_law_207 : decode cL_law 207 = .ok (.iconst 0, 1) ∧ 207 + 1 = 208 := ⟨by decide +kernel, rfl⟩
theorem eL_law_208 : decode cL_law 208 = .ok (.ireturn, 1) := by decide +kernel
theorem eL_law_209 : decode cL_law 209 = .ok (.aload_n 1, 1) ∧ 209 + 1 = 210 := ⟨by decide +kernel, rfl⟩
theorem eL_law_210 : decode cL_law 210 = .ok (.invokevirtual 27, 3) ∧ 210 + 3 = 213 := ⟨by decide +kernel, rfl⟩
theorem eL_law_213 : decode cL_law 213 = .ok (.aload_n 2, 1) ∧ 213 + 1 = 214 := ⟨by decide +kernel, rfl⟩
theorem eL_law_214 : decode cL_law 214 = .ok (.invokevirtual 30, 3) ∧ 214 + 3 = 217 := ⟨by decide +kernel, rfl⟩
theorem eL_law_217 : decode cL_law 217 = .ok (.if_icmp .eq 706, 3) ∧ ((217 : Nat) : Int) + 706 = ((923 : Nat) : Int) ∧ 217 + 3 = 220 := ⟨by decide +kernel, by decide, rfl⟩
theorem eL_law_220 : decode cL_law 220 = .ok (.iconst 0, 1) ∧ 220 + 1 = 221 := ⟨by decide +kernel, rfl⟩
theorem eL_law_221 : decode cL_law 221 = .ok (.ireturn, 1) := by decide +kernel
theorem eL_law_222 : decode cL_law 222 = .ok (.aload_n 1, 1) ∧ 222 + 1 = 223 := ⟨by decide +kernel, rfl⟩
theorem eL_law_223 : decode cL_law 223 = .ok (.aload_n 0, 1) ∧ 223 + 1 = 224 := ⟨by decide +kernel, rfl⟩
theorem eL_law_224 : decode cL_law 224 = .ok (.iload_n 3, 1) ∧ 224 + 1 = 225 := ⟨by decide +kernel, rfl⟩
theorem eL_law_225 : decode cL_law 225 = .ok (.iconst 1, 1) ∧ 225 + 1 = 226 := ⟨by decide +kernel, rfl⟩
theorem eL_law_226 : decode cL_law 226 = .ok (.iadd, 1) ∧ 226 + 1 = 227 := ⟨by decide +kernel, rfl⟩
theorem eL_law_227 : decode cL_law 227 = .ok (.iaload, 1) ∧ 227 + 1 = 228 := ⟨by decide +kernel, rfl⟩
theorem eL_law_228 : decode cL_law 228 = .ok (.aload_n 0, 1) ∧ 228 + 1 = 229 := ⟨by decide +kernel, rfl⟩
theorem eL_law_229 : decode cL_law 229 = .ok (.iload_n 3, 1) ∧ 229 + 1 = 230 := ⟨by decide +kernel, rfl⟩
theorem eL_law_230 : decode cL_law 230 = .ok (.iconst 2, 1) ∧ 230 + 1 = 231 := ⟨by decide +kernel, rfl⟩
theorem eL_law_231 : decode cL_law 231 = .ok (.iadd, 1) ∧ 231 + 1 = 232 := ⟨by decide +kernel, rfl⟩
theorem eL_law_232 : decode cL_law 232 = .ok (.iaload, 1) ∧ 232 + 1 = 233 := ⟨by decide +kernel, rfl⟩
theorem eL_law_233 : decode cL_law 233 = .ok (.invokevirtual 31, 3) ∧ 233 + 3 = 236 := ⟨by decide +kernel, rfl⟩
theorem eL_law_236 : decode cL_law 236 = .ok (.aload_n 2, 1) ∧ 236 + 1 = 237 := ⟨by decide +kernel, rfl⟩
theorem eL_law_237 : decode cL_law 237 = .ok (.aload_n 0, 1) ∧ 237 + 1 = 238 := ⟨by decide +kernel, rfl⟩
theorem eL_law_238 : decode cL_law 238 = .ok (.iload_n 3, 1) ∧ 238 + 1 = 239 := ⟨by decide +kernel, rfl⟩
theorem eL_law_239 : decode cL_law 239 = .ok (.iconst 1, 1) ∧ 239 + 1 = 240 := ⟨by decide +kernel, rfl⟩
theorem eL_law_240 : decode cL_law 240 = .ok (.iadd, 1) ∧ 240 + 1 = 241 := ⟨by decide +kernel, rfl⟩
theorem eL_law_241 : decode cL_law 241 = .ok (.iaload, 1) ∧ 241 + 1 = 242 := ⟨by decide +kernel, rfl⟩
theorem eL_law_242 : decode cL_law 242 = .ok (.aload_n 0, 1) ∧ 242 + 1 = 243 := ⟨by decide +kernel, rfl⟩
theorem eL_law_243 : decode cL_law 243 = .ok (.iload_n 3, 1) ∧ 243 + 1 = 244 := ⟨by decide +kernel, rfl⟩
theorem eL_law_244 : decode cL_law 244 = .ok (.iconst 2, 1) ∧ 244 + 1 = 245 := ⟨by decide +kernel, rfl⟩
theorem eL_law_245 : decode cL_law 245 = .ok (.iadd, 1) ∧ 245 + 1 = 246 := ⟨by decide +kernel, rfl⟩
theorem eL_law_246 : decode cL_law 246 = .ok (.iaload, 1) ∧ 246 + 1 = 247 := ⟨by decide +kernel, rfl⟩
theorem eL_law_247 : decode cL_law 247 = .ok (.invokevirtual 35, 3) ∧ 247 + 3 = 250 := ⟨by decide +kernel, rfl⟩
theorem eL_law_250 : decode cL_law 250 = .ok (.if_icmp .eq 673, 3) ∧ ((250 : Nat) : Int) + 673 = ((923 : Nat) : Int) ∧ 250 + 3 = 253 := ⟨by decide +kernel, by decide, rfl⟩
theorem eL_law_253 : decode cL_law 253 = .ok (.iconst 0, 1) ∧ 253 + 1 = 254 := ⟨by decide +kernel, rfl⟩
theorem eL_law_254 : decode cL_law 254 = .ok (.ireturn, 1) := by decide +kernel
theorem eL_law_255 : decode cL_law 255 = .ok (.aload_n 1, 1) ∧ 255 + 1 = 256 := ⟨by decide +kernel, rfl⟩
theorem eL_law_256 : decode cL_law 256 = .ok (.aload_n 0, 1) ∧ 256 + 1 = 257 := ⟨by decide +kernel, rfl⟩
theorem eL_law_257 : decode cL_law 257 = .ok (.iload_n 3, 1) ∧ 257 + 1 = 258 := ⟨by decide +kernel, rfl⟩
theorem eL_law_258 : decode cL_law 258 = .ok (.iconst 1, 1) ∧ 258 + 1 = 259 := ⟨by decide +kernel, rfl⟩
theorem eL_law_259 : decode cL_law 259 = .ok (.iadd, 1) ∧ 259 + 1 = 260 := ⟨by decide +kernel, rfl⟩
theorem eL_law_260 : decode cL_law 260 = .ok (.iaload, 1) ∧ 260 + 1 = 261 := ⟨by decide +kernel, rfl⟩
theorem eL_law_261 : decode cL_law 261 = .ok (.invokevirtual 36, 3) ∧ 261 + 3 = 264 := ⟨by decide +kernel, rfl⟩
theorem eL_law_264 : decode cL_law 264 = .ok (.aload_n 2, 1) ∧ 264 + 1 = 265 := ⟨by decide +kernel, rfl⟩
theorem eL_law_265 : decode cL_law 265 = .ok (.aload_n 0, 1) ∧ 265 + 1 = 266 := ⟨by decide +kernel, rfl⟩
theorem eL_law_266 : decode cL_law 266 = .ok (.iload_n 3, 1) ∧ 266 + 1 = 267 := ⟨by decide +kernel, rfl⟩
theorem eL_law_267 : decode cL_law 267 = .ok (.iconst 1, 1) ∧ 267 + 1 = 268 := ⟨by decide +kernel, rfl⟩
theorem eL_law_268 : decode cL_law 268 = .ok (.iadd, 1) ∧ 268 + 1 = 269 := ⟨by decide +kernel, rfl⟩
theorem eL_law_269 : decode cL_law 269 = .ok (.iaload, 1) ∧ 269 + 1 = 270 := ⟨by decide +kernel, rfl⟩
theorem eL_law_270 : decode cL_law 270 = .ok (.invokevirtual 39, 3) ∧ 270 + 3 = 273 := ⟨by decide +kernel, rfl⟩
theorem eL_law_273 : decode cL_law 273 = .ok (.if_icmp .eq 650, 3) ∧ ((273 : Nat) : Int) + 650 = ((923 : Nat) : Int) ∧ 273 + 3 = 276 := ⟨by decide +kernel, by decide, rfl⟩
theorem eL_law_276 : decode cL_law 276 = .ok (.iconst 0, 1) ∧ 276 + 1 = 277 := ⟨by decide +kernel, rfl⟩
theorem eL_law_277 : decode cL_law 277 = .ok (.ireturn, 1) := by decide +kernel
theorem eL_law_278 : decode cL_law 278 = .ok (.aload_n 1, 1) ∧ 278 + 1 = 279 := ⟨by decide +kernel, rfl⟩
theorem eL_law_279 : decode cL_law 279 = .ok (.aload_n 0, 1) ∧ 279 + 1 = 280 := ⟨by decide +kernel, rfl⟩
theorem eL_law_280 : decode cL_law 280 = .ok (.iload_n 3, 1) ∧ 280 + 1 = 281 := ⟨by decide +kernel, rfl⟩
theorem eL_law_281 : decode cL_law 281 = .ok (.iconst 1, 1) ∧ 281 + 1 = 282 := ⟨by decide +kernel, rfl⟩
theorem eL_law_282 : decode cL_law 282 = .ok (.iadd, 1) ∧ 282 + 1 = 283 := ⟨by decide +kernel, rfl⟩
theorem eL_law_283 : decode cL_law 283 = .ok (.iaload, 1) ∧ 283 + 1 = 284 := ⟨by decide +kernel, rfl⟩
theorem eL_law_284 : decode cL_law 284 = .ok (.aload_n 0, 1) ∧ 284 + 1 = 285 := ⟨by decide +kernel, rfl⟩
theorem eL_law_285 : decode cL_law 285 = .ok (.iload_n 3, 1) ∧ 285 + 1 = 286 := ⟨by decide +kernel, rfl⟩
theorem eL_law_286 : decode cL_law 286 = .ok (.iconst 2, 1) ∧ 286 + 1 = 287 := ⟨by decide +kernel, rfl⟩
theorem eL_law_287 : decode cL_law 287 = .ok (.iadd, 1) ∧ 287 + 1 = 288 := ⟨by decide +kernel, rfl⟩
theorem eL_law_288 : decode cL_law 288 = .ok (.iaload, 1) ∧ 288 + 1 = 289 := ⟨by decide +kernel, rfl⟩
theorem eL_law_289 : decode cL_law 289 = .ok (.invokevirtual 40, 3) ∧ 289 + 3 = 292 := ⟨by decide +kernel, rfl⟩
theorem eL_law_292 : decode cL_law 292 = .ok (.aload_n 2, 1) ∧ 292 + 1 = 293 := ⟨by decide +kernel, rfl⟩
theorem eL_law_293 : decode cL_law 293 = .ok (.aload_n 0, 1) ∧ 293 + 1 = 294 := ⟨by decide +kernel, rfl⟩
theorem eL_law_294 : decode cL_law 294 = .ok (.iload_n 3, 1) ∧ 294 + 1 = 295 := ⟨by decide +kernel, rfl⟩
theorem eL_law_295 : decode cL_law 295 = .ok (.iconst 1, 1) ∧ 295 + 1 = 296 := ⟨by decide +kernel, rfl⟩
theorem eL_law_296 : decode cL_law 296 = .ok (.iadd, 1) ∧ 296 + 1 = 297 := ⟨by decide +kernel, rfl⟩
theorem eL_law_297 : decode cL_law 297 = .ok (.iaload, 1) ∧ 297 + 1 = 298 := ⟨by decide +kernel, rfl⟩
theorem eL_law_298 : decode cL_law 298 = .ok (.aload_n 0, 1) ∧ 298 + 1 = 299 := ⟨by decide +kernel, rfl⟩
theorem eL_law_299 : decode cL_law 299 = .ok (.iload_n 3, 1) ∧ 299 + 1 = 300 := ⟨by decide +kernel, rfl⟩
theorem eL_law_300 : decode cL_law 300 = .ok (.iconst 2, 1) ∧ 300 + 1 = 301 := ⟨by decide +kernel, rfl⟩
theorem eL_law_301 : decode cL_law 301 = .ok (.iadd, 1) ∧ 301 + 1 = 302 := ⟨by decide +kernel, rfl⟩
theorem eL_law_302 : decode cL_law 302 = .ok (.iaload, 1) ∧ 302 + 1 = 303 := ⟨by decide +kernel, rfl⟩
theorem eL_law_303 : decode cL_law 303 = .ok (.invokevirtual 43, 3) ∧ 303 + 3 = 306 := ⟨by decide +kernel, rfl⟩
theorem eL_law_306 : decode cL_law 306 = .ok (.if_icmp .eq 617, 3) ∧ ((306 : Nat) : Int) + 617 = ((923 : Nat) : Int) ∧ 306 + 3 = 309 := ⟨by decide +kernel, by decide, rfl⟩
theorem eL_law_309 : decode cL_law 309 = .ok (.iconst 0, 1) ∧ 309 + 1 = 310 := ⟨by decide +kernel, rfl⟩
theorem eL_law_310 : decode cL_law 310 = .ok (.ireturn, 1) := by decide +kernel
theorem eL_law_311 : decode cL_law 311 = .ok (.aload_n 1, 1) ∧ 311 + 1 = 312 := ⟨by decide +kernel, rfl⟩
theorem eL_law_312 : decode cL_law 312 = .ok (.aload_n 0, 1) ∧ 312 + 1 = 313 := ⟨by decide +kernel, rfl⟩
theorem eL_law_313 : decode cL_law 313 = .ok (.iload_n 3, 1) ∧ 313 + 1 = 314 := ⟨by decide +kernel, rfl⟩
theorem eL_law_314 : decode cL_law 314 = .ok (.iconst 1, 1) ∧ 314 + 1 = 315 := ⟨by decide +kernel, rfl⟩
theorem eL_law_315 : decode cL_law 315 = .ok (.iadd, 1) ∧ 315 + 1 = 316 := ⟨by decide +kernel, rfl⟩
theorem eL_law_316 : decode cL_law 316 = .ok (.iaload, 1) ∧ 316 + 1 = 317 := ⟨by decide +kernel, rfl⟩
theorem eL_law_317 : decode cL_law 317 = .ok (.invokevirtual 44, 3) ∧ 317 + 3 = 320 := ⟨by decide +kernel, rfl⟩
theorem eL_law_320 : decode cL_law 320 = .ok (.aload_n 2, 1) ∧ 320 + 1 = 321 := ⟨by decide +kernel, rfl⟩
theorem eL_law_321 : decode cL_law 321 = .ok (.aload_n 0, 1) ∧ 321 + 1 = 322 := ⟨by decide +kernel, rfl⟩
theorem eL_law_322 : decode cL_law 322 = .ok (.iload_n 3, 1) ∧ 322 + 1 = 323 := ⟨by decide +kernel, rfl⟩
theorem eL_law_323 : decode cL_law 323 = .ok (.iconst 1, 1) ∧ 323 + 1 = 324 := ⟨by decide +kernel, rfl⟩
theorem eL_law_324 : decode cL_law 324 = .ok (.iadd, 1) ∧ 324 + 1 = 325 := ⟨by decide +kernel, rfl⟩
theorem eL_law_325 : decode cL_law 325 = .ok (.iaload, 1) ∧ 325 + 1 = 326 := ⟨by decide +kernel, rfl⟩
theorem eL_law_326 : decode cL_law 326 = .ok (.invokevirtual 47, 3) ∧ 326 + 3 = 329 := ⟨by decide +kernel, rfl⟩
theorem eL_law_329 : decode cL_law 329 = .ok (.if_icmp .eq 594, 3) ∧ ((329 : Nat) : Int) + 594 = ((923 : Nat) : Int) ∧ 329 + 3 = 332 := ⟨by decide +kernel, by decide, rfl⟩
theorem eL_law_332 : decode cL_law 332 = .ok (.iconst 0, 1) ∧ 332 + 1 = 333 := ⟨by decide +kernel, rfl⟩
theorem eL_law_333 : decode cL_law 333 = .ok (.ireturn, 1) := by decide +kernel
theorem eL_law_334 : decode cL_law 334 = .ok (.aload_n 1, 1) ∧ 334 + 1 = 335 := ⟨by decide +kernel, rfl⟩
theorem eL_law_335 : decode cL_law 335 = .ok (.aload_n 0, 1) ∧ 335 + 1 = 336 := ⟨by decide +kernel, rfl⟩
theorem eL_law_336 : decode cL_law 336 = .ok (.iload_n 3, 1) ∧ 336 + 1 = 337 := ⟨by decide +kernel, rfl⟩
theorem eL_law_337 : decode cL_law 337 = .ok (.iconst 1, 1) ∧ 337 + 1 = 338 := ⟨by decide +kernel, rfl⟩
theorem eL_law_338 : decode cL_law 338 = .ok (.iadd, 1) ∧ 338 + 1 = 339 := ⟨by decide +kernel, rfl⟩
theorem eL_law_339 : decode cL_law 339 = .ok (.iaload, 1) ∧ 339 + 1 = 340 := ⟨by decide +kernel, rfl⟩
theorem eL_law_340 : decode cL_law 340 = .ok (.invokevirtual 48, 3) ∧ 340 + 3 = 343 := ⟨by decide +kernel, rfl⟩
theorem eL_law_343 : decode cL_law 343 = .ok (.aload_n 2, 1) ∧ 343 + 1 = 344 := ⟨by decide +kernel, rfl⟩
theorem eL_law_344 : decode cL_law 344 = .ok (.aload_n 0, 1) ∧ 344 + 1 = 345 := ⟨by decide +kernel, rfl⟩
theorem eL_law_345 : decode cL_law 345 = .ok (.iload_n 3, 1) ∧ 345 + 1 = 346 := ⟨by decide +kernel, rfl⟩
theorem eL_law_346 : decode cL_law 346 = .ok (.iconst 1, 1) ∧ 346 + 1 = 347 := ⟨by decide +kernel, rfl⟩
theorem eL_law_347 : decode cL_law 347 = .ok (.iadd, 1) ∧ 347 + 1 = 348 := ⟨by decide +kernel, rfl⟩
theorem eL_law_348 : decode cL_law 348 = .ok (.iaload, 1) ∧ 348 + 1 = 349 := ⟨by decide +kernel, rfl⟩
theorem eL_law_349 : decode cL_law 349 = .ok (.invokevirtual 51, 3) ∧ 349 + 3 = 352 := ⟨by decide +kernel, rfl⟩
theorem eL_law_352 : decode cL_law 352 = .ok (.if_icmp .eq 571, 3) ∧ ((352 : Nat) : Int) + 571 = ((923 : Nat) : Int) ∧ 352 + 3 = 355 := ⟨by decide +kernel, by decide, rfl⟩
theorem eL_law_355 : decode cL_law 355 = .ok (.iconst 0, 1) ∧ 355 + 1 = 356 := ⟨by decide +kernel, rfl⟩
theorem eL_law_356 : decode cL_law 356 = .ok (.ireturn, 1) := by decide +kernel
theorem eL_law_357 : decode cL_law 357 = .ok (.aload_n 1, 1) ∧ 357 + 1 = 358 := ⟨by decide +kernel, rfl⟩
theorem eL_law_358 : decode cL_law 358 = .ok (.invokevirtual 52, 3) ∧ 358 + 3 = 361 := ⟨by decide +kernel, rfl⟩
theorem eL_law_361 : decode cL_law 361 = .ok (.aload_n 2, 1) ∧ 361 + 1 = 362 := ⟨by decide +kernel, rfl⟩
theorem eL_law_362 : decode cL_law 362 = .ok (.invokevirtual 55, 3) ∧ 362 + 3 = 365 := ⟨by decide +kernel, rfl⟩
theorem eL_law_365 : decode cL_law 365 = .ok (.if_icmp .eq 558, 3) ∧ ((365 : Nat) : Int) + 558 = ((923 : Nat) : Int) ∧ 365 + 3 = 368 := ⟨by decide +kernel, by decide, rfl⟩
theorem eL_law_368 : decode cL_law 368 = .ok (.iconst 0, 1) ∧ 368 + 1 = 369 := ⟨by decide +kernel, rfl⟩
theorem eL_law_369 : decode cL_law 369 = .ok (.ireturn, 1) := by decide +kernel
theorem eL_law_370 : decode cL_law 370 = .ok (.aload_n 1, 1) ∧ 370 + 1 = 371 := ⟨by decide +kernel, rfl⟩
theorem eL_law_371 : decode cL_law 371 = .ok (.aload_n 0, 1) ∧ 371 + 1 = 372 := ⟨by decide +kernel, rfl⟩
theorem eL_law_372 : decode cL_law 372 = .ok (.iload_n 3, 1) ∧ 372 + 1 = 373 := ⟨by decide +kernel, rfl⟩
theorem eL_law_373 : decode cL_law 373 = .ok (.iconst 1, 1) ∧ 373 + 1 = 374 := ⟨by decide +kernel, rfl⟩
theorem eL_law_374 : decode cL_law 374 = .ok (.iadd, 1) ∧ 374 + 1 = 375 := ⟨by decide +kernel, rfl⟩
theorem eL_law_375 : decode cL_law 375 = .ok (.iaload, 1) ∧ 375 + 1 = 376 := ⟨by decide +kernel, rfl⟩
theorem eL_law_376 : decode cL_law 376 = .ok (.invokevirtual 56, 3) ∧ 376 + 3 = 379 := ⟨by decide +kernel, rfl⟩
theorem eL_law_379 : decode cL_law 379 = .ok (.aload_n 2, 1) ∧ 379 + 1 = 380 := ⟨by decide +kernel, rfl⟩
theorem eL_law_380 : decode cL_law 380 = .ok (.aload_n 0, 1) ∧ 380 + 1 = 381 := ⟨by decide +kernel, rfl⟩
theorem eL_law_381 : decode cL_law 381 = .ok (.iload_n 3, 1) ∧ 381 + 1 = 382 := ⟨by decide +kernel, rfl⟩
theorem eL_law_382 : decode cL_law 382 = .ok (.iconst 1, 1) ∧ 382 + 1 = 383 := ⟨by decide +kernel, rfl⟩
theorem eL_law_383 : decode cL_law 383 = .ok (.iadd, 1) ∧ 383 + 1 = 384 := ⟨by decide +kernel, rfl⟩
theorem eL_law_384 : decode cL_law 384 = .ok (.iaload, 1) ∧ 384 + 1 = 385 := ⟨by decide +kernel, rfl⟩
theorem eL_law_385 : decode cL_law 385 = .ok (.invokevirtual 59, 3) ∧ 385 + 3 = 388 := ⟨by decide +kernel, rfl⟩
theorem eL_law_388 : decode cL_law 388 = .ok (.if_icmp .eq 535, 3) ∧ ((388 : Nat) : Int) + 535 = ((923 : Nat) : Int) ∧ 388 + 3 = 391 := ⟨by decide +kernel, by decide, rfl⟩
theorem eL_law_391 : decode cL_law 391 = .ok (.iconst 0, 1) ∧ 391 + 1 = 392 := ⟨by decide +kernel, rfl⟩
theorem eL_law_392 : decode cL_law 392 = .ok (.ireturn, 1) := by decide +kernel
theorem eL_law_393 : decode cL_law 393 = .ok (.aload_n 1, 1) ∧ 393 + 1 = 394 := ⟨by decide +kernel, rfl⟩
theorem eL_law_394 : decode cL_law 394 = .ok (.invokevirtual 60, 3) ∧ 394 + 3 = 397 := ⟨by decide +kernel, rfl⟩
theorem eL_law_397 : decode cL_law 397 = .ok (.aload_n 2, 1) ∧ 397 + 1 = 398 := ⟨by decide +kernel, rfl⟩
theorem eL_law_398 : decode cL_law 398 = .ok (.invokevirtual 63, 3) ∧ 398 + 3 = 401 := ⟨by decide +kernel, rfl⟩
theorem eL_law_401 : decode cL_law 401 = .ok (.if_icmp .eq 522, 3) ∧ ((401 : Nat) : Int) + 522 = ((923 : Nat) : Int) ∧ 401 + 3 = 404 := ⟨by decide +kernel, by decide, rfl⟩
theorem eL_law_404 : decode cL_law 404 = .ok (.iconst 0, 1) ∧ 404 + 1 = 405 := ⟨by decide +kernel, rfl⟩
theorem eL_law_405 : decode cL_law 405 = .ok (.ireturn, 1) := by decide +kernel
theorem eL_law_406 : decode cL_law 406 = .ok (.aload_n 1, 1) ∧ 406 + 1 = 407 := ⟨by decide +kernel, rfl⟩
theorem eL_law_407 : decode cL_law 407 = .ok (.aload_n 0, 1) ∧ 407 + 1 = 408 := ⟨by decide +kernel, rfl⟩
theorem eL_law_408 : decode cL_law 408 = .ok (.iload_n 3, 1) ∧ 408 + 1 = 409 := ⟨by decide +kernel, rfl⟩
theorem eL_law_409 : decode cL_law 409 = .ok (.iconst 1, 1) ∧ 409 + 1 = 410 := ⟨by decide +kernel, rfl⟩
theorem eL_law_410 : decode cL_law 410 = .ok (.iadd, 1) ∧ 410 + 1 = 411 := ⟨by decide +kernel, rfl⟩
theorem eL_law_411 : decode cL_law 411 = .ok (.iaload, 1) ∧ 411 + 1 = 412 := ⟨by decide +kernel, rfl⟩
theorem eL_law_412 : decode cL_law 412 = .ok (.invokevirtual 64, 3) ∧ 412 + 3 = 415 := ⟨by decide +kernel, rfl⟩
theorem eL_law_415 : decode cL_law 415 = .ok (.aload_n 2, 1) ∧ 415 + 1 = 416 := ⟨by decide +kernel, rfl⟩
theorem eL_law_416 : decode cL_law 416 = .ok (.aload_n 0, 1) ∧ 416 + 1 = 417 := ⟨by decide +kernel, rfl⟩
theorem eL_law_417 : decode cL_law 417 = .ok (.iload_n 3, 1) ∧ 417 + 1 = 418 := ⟨by decide +kernel, rfl⟩
theorem eL_law_418 : decode cL_law 418 = .ok (.iconst 1, 1) ∧ 418 + 1 = 419 := ⟨by decide +kernel, rfl⟩
theorem eL_law_419 : decode cL_law 419 = .ok (.iadd, 1) ∧ 419 + 1 = 420 := ⟨by decide +kernel, rfl⟩
theorem eL_law_420 : decode cL_law 420 = .ok (.iaload, 1) ∧ 420 + 1 = 421 := ⟨by decide +kernel, rfl⟩
theorem eL_law_421 : decode cL_law 421 = .ok (.invokevirtual 67, 3) ∧ 421 + 3 = 424 := ⟨by decide +kernel, rfl⟩
theorem eL_law_424 : decode cL_law 424 = .ok (.if_icmp .eq 499, 3) ∧ ((424 : Nat) : Int) + 499 = ((923 : Nat) : Int) ∧ 424 + 3 = 427 := ⟨by decide +kernel, by decide, rfl⟩
theorem eL_law_427 : decode cL_law 427 = .ok (.iconst 0, 1) ∧ 427 + 1 = 428 := ⟨by decide +kernel, rfl⟩
theorem eL_law_428 : decode cL_law 428 = .ok (.ireturn, 1) := by decide +kernel
theorem eL_law_429 : decode cL_law 429 = .ok (.aload_n 1, 1) ∧ 429 + 1 = 430 := ⟨by decide +kernel, rfl⟩
theorem eL_law_430 : decode cL_law 430 = .ok (.invokevirtual 68, 3) ∧ 430 + 3 = 433 := ⟨by decide +kernel, rfl⟩
theorem eL_law_433 : decode cL_law 433 = .ok (.aload_n 2, 1) ∧ 433 + 1 = 434 := ⟨by decide +kernel, rfl⟩
theorem eL_law_434 : decode cL_law 434 = .ok (.invokevirtual 71, 3) ∧ 434 + 3 = 437 := ⟨by decide +kernel, rfl⟩
theorem eL_law_437 : decode cL_law 437 = .ok (.if_icmp .eq 486, 3) ∧ ((437 : Nat) : Int) + 486 = ((923 : Nat) : Int) ∧ 437 + 3 = 440 := ⟨by decide +kernel, by decide, rfl⟩
theorem eL_law_440 : decode cL_law 440 = .ok (.iconst 0, 1) ∧ 440 + 1 = 441 := ⟨by decide +kernel, rfl⟩
theorem eL_law_441 : decode cL_law 441 = .ok (.ireturn, 1) := by decide +kernel
theorem eL_law_442 : decode cL_law 442 = .ok (.aload_n 1, 1) ∧ 442 + 1 = 443 := ⟨by decide +kernel, rfl⟩
theorem eL_law_443 : decode cL_law 443 = .ok (.aload_n 0, 1) ∧ 443 + 1 = 444 := ⟨by decide +kernel, rfl⟩
theorem eL_law_444 : decode cL_law 444 = .ok (.iload_n 3, 1) ∧ 444 + 1 = 445 := ⟨by decide +kernel, rfl⟩
theorem eL_law_445 : decode cL_law 445 = .ok (.iconst 1, 1) ∧ 445 + 1 = 446 := ⟨by decide +kernel, rfl⟩
theorem eL_law_446 : decode cL_law 446 = .ok (.iadd, 1) ∧ 446 + 1 = 447 := ⟨by decide +kernel, rfl⟩
theorem eL_law_447 : decode cL_law 447 = .ok (.iaload, 1) ∧ 447 + 1 = 448 := ⟨by decide +kernel, rfl⟩
theorem eL_law_448 : decode cL_law 448 = .ok (.ifCond .eq 7, 3) ∧ ((448 : Nat) : Int) + 7 = ((455 : Nat) : Int) ∧ 448 + 3 = 451 := ⟨by decide +kernel, by decide, rfl⟩
theorem eL_law_451 : decode cL_law 451 = .ok (.iconst 1, 1) ∧ 451 + 1 = 452 := ⟨by decide +kernel, rfl⟩
theorem eL_law_452 : decode cL_law 452 = .ok (.goto 4, 3) ∧ ((452 : Nat) : Int) + 4 = ((456 : Nat) : Int) := ⟨by decide +kernel, by decide⟩
theorem eL_law_455 : decode cL_law 455 = .ok (.iconst 0, 1) ∧ 455 + 1 = 456 := ⟨by decide +kernel, rfl⟩
theorem eL_law_456 : decode cL_law 456 = .ok (.invokevirtual 72, 3) ∧ 456 + 3 = 459 := ⟨by decide +kernel, rfl⟩
theorem eL_law_459 : decode cL_law 459 = .ok (.aload_n 2, 1) ∧ 459 + 1 = 460 := ⟨by decide +kernel, rfl⟩
theorem eL_law_460 : decode cL_law 460 = .ok (.aload_n 0, 1) ∧ 460 + 1 = 461 := ⟨by decide +kernel, rfl⟩
theorem eL_law_461 : decode cL_law 461 = .ok (.iload_n 3, 1) ∧ 461 + 1 = 462 := ⟨by decide +kernel, rfl⟩
theorem eL_law_462 : decode cL_law 462 = .ok (.iconst 1, 1) ∧ 462 + 1 = 463 := ⟨by decide +kernel, rfl⟩
theorem eL_law_463 : decode cL_law 463 = .ok (.iadd, 1) ∧ 463 + 1 = 464 := ⟨by decide +kernel, rfl⟩
theorem eL_law_464 : decode cL_law 464 = .ok (.iaload, 1) ∧ 464 + 1 = 465 := ⟨by decide +kernel, rfl⟩
theorem eL_law_465 : decode cL_law 465 = .ok (.ifCond .eq 7, 3) ∧ ((465 : Nat) : Int) + 7 = ((472 : Nat) : Int) ∧ 465 + 3 = 468 := ⟨by decide +kernel, by decide, rfl⟩
theorem eL_law_468 : decode cL_law 468 = .ok (.iconst 1, 1) ∧ 468 + 1 = 469 := ⟨by decide +kernel, rfl⟩
theorem eL_law_469 : decode cL_law 469 = .ok (.goto 4, 3) ∧ ((469 : Nat) : Int) + 4 = ((473 : Nat) : Int) := ⟨by decide +kernel, by decide⟩
theorem eL_law_472 : decode cL_law 472 = .ok (.iconst 0, 1) ∧ 472 + 1 = 473 := ⟨by decide +kernel, rfl⟩
theorem eL_law_473 : decode cL_law 473 = .ok (.invokevirtual 76, 3) ∧ 473 + 3 = 476 := ⟨by decide +kernel, rfl⟩
theorem eL_law_476 : decode cL_law 476 = .ok (.if_icmp .eq 447, 3) ∧ ((476 : Nat) : Int) + 447 = ((923 : Nat) : Int) ∧ 476 + 3 = 479 := ⟨by decide +kernel, by decide, rfl⟩
theorem eL_law_479 : decode cL_law 479 = .ok (.iconst 0, 1) ∧ 479 + 1 = 480 := ⟨by decide +kernel, rfl⟩
theorem eL_law_480 : decode cL_law 480 = .ok (.ireturn, 1) := by decide +kernel
theorem eL_law_481 : decode cL_law 481 = .ok (.aload_n 1, 1) ∧ 481 + 1 = 482 := ⟨by decide +kernel, rfl⟩
theorem eL_law_482 : decode cL_law 482 = .ok (.aload_n 0, 1) ∧ 482 + 1 = 483 := ⟨by decide +kernel, rfl⟩
theorem eL_law_483 : decode cL_law 483 = .ok (.iload_n 3, 1) ∧ 483 + 1 = 484 := ⟨by decide +kernel, rfl⟩
theorem eL_law_484 : decode cL_law 484 = .ok (.iconst 1, 1) ∧ 484 + 1 = 485 := ⟨by decide +kernel, rfl⟩
theorem eL_law_485 : decode cL_law 485 = .ok (.iadd, 1) ∧ 485 + 1 = 486 := ⟨by decide +kernel, rfl⟩
theorem eL_law_486 : decode cL_law 486 = .ok (.iaload, 1) ∧ 486 + 1 = 487 := ⟨by decide +kernel, rfl⟩
theorem eL_law_487 : decode cL_law 487 = .ok (.aload_n 0, 1) ∧ 487 + 1 = 488 := ⟨by decide +kernel, rfl⟩
theorem eL_law_488 : decode cL_law 488 = .ok (.iload_n 3, 1) ∧ 488 + 1 = 489 := ⟨by decide +kernel, rfl⟩
theorem eL_law_489 : decode cL_law 489 = .ok (.iconst 2, 1) ∧ 489 + 1 = 490 := ⟨by decide +kernel, rfl⟩
theorem eL_law_490 : decode cL_law 490 = .ok (.iadd, 1) ∧ 490 + 1 = 491 := ⟨by decide +kernel, rfl⟩
theorem eL_law_491 : decode cL_law 491 = .ok (.iaload, 1) ∧ 491 + 1 = 492 := ⟨by decide +kernel, rfl⟩
theorem eL_law_492 : decode cL_law 492 = .ok (.invokevirtual 77, 3) ∧ 492 + 3 = 495 := ⟨by decide +kernel, rfl⟩
theorem eL_law_495 : decode cL_law 495 = .ok (.aload_n 2, 1) ∧ 495 + 1 = 496 := ⟨by decide +kernel, rfl⟩
theorem eL_law_496 : decode cL_law 496 = .ok (.aload_n 0, 1) ∧ 496 + 1 = 497 := ⟨by decide +kernel, rfl⟩
theorem eL_law_497 : decode cL_law 497 = .ok (.iload_n 3, 1) ∧ 497 + 1 = 498 := ⟨by decide +kernel, rfl⟩
theorem eL_law_498 : decode cL_law 498 = .ok (.iconst 1, 1) ∧ 498 + 1 = 499 := ⟨by decide +kernel, rfl⟩
theorem eL_law_499 : decode cL_law 499 = .ok (.iadd, 1) ∧ 499 + 1 = 500 := ⟨by decide +kernel, rfl⟩
theorem eL_law_500 : decode cL_law 500 = .ok (.iaload, 1) ∧ 500 + 1 = 501 := ⟨by decide +kernel, rfl⟩
theorem eL_law_501 : decode cL_law 501 = .ok (.aload_n 0, 1) ∧ 501 + 1 = 502 := ⟨by decide +kernel, rfl⟩
theorem eL_law_502 : decode cL_law 502 = .ok (.iload_n 3, 1) ∧ 502 + 1 = 503 := ⟨by decide +kernel, rfl⟩
theorem eL_law_503 : decode cL_law 503 = .ok (.iconst 2, 1) ∧ 503 + 1 = 504 := ⟨by decide +kernel, rfl⟩
theorem eL_law_504 : decode cL_law 504 = .ok (.iadd, 1) ∧ 504 + 1 = 505 := ⟨by decide +kernel, rfl⟩
theorem eL_law_505 : decode cL_law 505 = .ok (.iaload, 1) ∧ 505 + 1 = 506 := ⟨by decide +kernel, rfl⟩
theorem eL_law_506 : decode cL_law 506 = .ok (.invokevirtual 80, 3) ∧ 506 + 3 = 509 := ⟨by decide +kernel, rfl⟩
theorem eL_law_509 : decode cL_law 509 = .ok (.if_icmp .eq 414, 3) ∧ ((509 : Nat) : Int) + 414 = ((923 : Nat) : Int) ∧ 509 + 3 = 512 := ⟨by decide +kernel, by decide, rfl⟩
theorem eL_law_512 : decode cL_law 512 = .ok (.iconst 0, 1) ∧ 512 + 1 = 513 := ⟨by decide +kernel, rfl⟩
theorem eL_law_513 : decode cL_law 513 = .ok (.ireturn, 1) := by decide +kernel
theorem eL_law_514 : decode cL_law 514 = .ok (.aload_n 1, 1) ∧ 514 + 1 = 515 := ⟨by decide +kernel, rfl⟩
theorem eL_law_515 : decode cL_law 515 = .ok (.aload_n 0, 1) ∧ 515 + 1 = 516 := ⟨by decide +kernel, rfl⟩
theorem eL_law_516 : decode cL_law 516 = .ok (.iload_n 3, 1) ∧ 516 + 1 = 517 := ⟨by decide +kernel, rfl⟩
theorem eL_law_517 : decode cL_law 517 = .ok (.iconst 1, 1) ∧ 517 + 1 = 518 := ⟨by decide +kernel, rfl⟩
theorem eL_law_518 : decode cL_law 518 = .ok (.iadd, 1) ∧ 518 + 1 = 519 := ⟨by decide +kernel, rfl⟩
theorem eL_law_519 : decode cL_law 519 = .ok (.iaload, 1) ∧ 519 + 1 = 520 := ⟨by decide +kernel, rfl⟩
theorem eL_law_520 : decode cL_law 520 = .ok (.invokevirtual 81, 3) ∧ 520 + 3 = 523 := ⟨by decide +kernel, rfl⟩
theorem eL_law_523 : decode cL_law 523 = .ok (.aload_n 2, 1) ∧ 523 + 1 = 524 := ⟨by decide +kernel, rfl⟩
theorem eL_law_524 : decode cL_law 524 = .ok (.aload_n 0, 1) ∧ 524 + 1 = 525 := ⟨by decide +kernel, rfl⟩
theorem eL_law_525 : decode cL_law 525 = .ok (.iload_n 3, 1) ∧ 525 + 1 = 526 := ⟨by decide +kernel, rfl⟩
theorem eL_law_526 : decode cL_law 526 = .ok (.iconst 1, 1) ∧ 526 + 1 = 527 := ⟨by decide +kernel, rfl⟩
theorem eL_law_527 : decode cL_law 527 = .ok (.iadd, 1) ∧ 527 + 1 = 528 := ⟨by decide +kernel, rfl⟩
theorem eL_law_528 : decode cL_law 528 = .ok (.iaload, 1) ∧ 528 + 1 = 529 := ⟨by decide +kernel, rfl⟩
theorem eL_law_529 : decode cL_law 529 = .ok (.invokevirtual 84, 3) ∧ 529 + 3 = 532 := ⟨by decide +kernel, rfl⟩
theorem eL_law_532 : decode cL_law 532 = .ok (.if_icmp .eq 391, 3) ∧ ((532 : Nat) : Int) + 391 = ((923 : Nat) : Int) ∧ 532 + 3 = 535 := ⟨by decide +kernel, by decide, rfl⟩
theorem eL_law_535 : decode cL_law 535 = .ok (.iconst 0, 1) ∧ 535 + 1 = 536 := ⟨by decide +kernel, rfl⟩
theorem eL_law_536 : decode cL_law 536 = .ok (.ireturn, 1) := by decide +kernel
theorem eL_law_537 : decode cL_law 537 = .ok (.aload_n 1, 1) ∧ 537 + 1 = 538 := ⟨by decide +kernel, rfl⟩
theorem eL_law_538 : decode cL_law 538 = .ok (.aload_n 0, 1) ∧ 538 + 1 = 539 := ⟨by decide +kernel, rfl⟩
theorem eL_law_539 : decode cL_law 539 = .ok (.iload_n 3, 1) ∧ 539 + 1 = 540 := ⟨by decide +kernel, rfl⟩
theorem eL_law_540 : decode cL_law 540 = .ok (.iconst 1, 1) ∧ 540 + 1 = 541 := ⟨by decide +kernel, rfl⟩
theorem eL_law_541 : decode cL_law 541 = .ok (.iadd, 1) ∧ 541 + 1 = 542 := ⟨by decide +kernel, rfl⟩
theorem eL_law_542 : decode cL_law 542 = .ok (.iaload, 1) ∧ 542 + 1 = 543 := ⟨by decide +kernel, rfl⟩
theorem eL_law_543 : decode cL_law 543 = .ok (.aload_n 0, 1) ∧ 543 + 1 = 544 := ⟨by decide +kernel, rfl⟩
theorem eL_law_544 : decode cL_law 544 = .ok (.iload_n 3, 1) ∧ 544 + 1 = 545 := ⟨by decide +kernel, rfl⟩
theorem eL_law_545 : decode cL_law 545 = .ok (.iconst 2, 1) ∧ 545 + 1 = 546 := ⟨by decide +kernel, rfl⟩
theorem eL_law_546 : decode cL_law 546 = .ok (.iadd, 1) ∧ 546 + 1 = 547 := ⟨by decide +kernel, rfl⟩
theorem eL_law_547 : decode cL_law 547 = .ok (.iaload, 1) ∧ 547 + 1 = 548 := ⟨by decide +kernel, rfl⟩
theorem eL_law_548 : decode cL_law 548 = .ok (.invokevirtual 85, 3) ∧ 548 + 3 = 551 := ⟨by decide +kernel, rfl⟩
theorem eL_law_551 : decode cL_law 551 = .ok (.aload_n 2, 1) ∧ 551 + 1 = 552 := ⟨by decide +kernel, rfl⟩
theorem eL_law_552 : decode cL_law 552 = .ok (.aload_n 0, 1) ∧ 552 + 1 = 553 := ⟨by decide +kernel, rfl⟩
theorem eL_law_553 : decode cL_law 553 = .ok (.iload_n 3, 1) ∧ 553 + 1 = 554 := ⟨by decide +kernel, rfl⟩
theorem eL_law_554 : decode cL_law 554 = .ok (.iconst 1, 1) ∧ 554 + 1 = 555 := ⟨by decide +kernel, rfl⟩
theorem eL_law_555 : decode cL_law 555 = .ok (.iadd, 1) ∧ 555 + 1 = 556 := ⟨by decide +kernel, rfl⟩
theorem eL_law_556 : decode cL_law 556 = .ok (.iaload, 1) ∧ 556 + 1 = 557 := ⟨by decide +kernel, rfl⟩
theorem eL_law_557 : decode cL_law 557 = .ok (.aload_n 0, 1) ∧ 557 + 1 = 558 := ⟨by decide +kernel, rfl⟩
theorem eL_law_558 : decode cL_law 558 = .ok (.iload_n 3, 1) ∧ 558 + 1 = 559 := ⟨by decide +kernel, rfl⟩
theorem eL_law_559 : decode cL_law 559 = .ok (.iconst 2, 1) ∧ 559 + 1 = 560 := ⟨by decide +kernel, rfl⟩
theorem eL_law_560 : decode cL_law 560 = .ok (.iadd, 1) ∧ 560 + 1 = 561 := ⟨by decide +kernel, rfl⟩
theorem eL_law_561 : decode cL_law 561 = .ok (.iaload, 1) ∧ 561 + 1 = 562 := ⟨by decide +kernel, rfl⟩
theorem eL_law_562 : decode cL_law 562 = .ok (.invokevirtual 88, 3) ∧ 562 + 3 = 565 := ⟨by decide +kernel, rfl⟩
theorem eL_law_565 : decode cL_law 565 = .ok (.if_icmp .eq 358, 3) ∧ ((565 : Nat) : Int) + 358 = ((923 : Nat) : Int) ∧ 565 + 3 = 568 := ⟨by decide +kernel, by decide, rfl⟩
theorem eL_law_568 : decode cL_law 568 = .ok (.iconst 0, 1) ∧ 568 + 1 = 569 := ⟨by decide +kernel, rfl⟩
theorem eL_law_569 : decode cL_law 569 = .ok (.ireturn, 1) := by decide +kernel
theorem eL_law_570 : decode cL_law 570 = .ok (.aload_n 1, 1) ∧ 570 + 1 = 571 := ⟨by decide +kernel, rfl⟩
theorem eL_law_571 : decode cL_law 571 = .ok (.invokevirtual 89, 3) ∧ 571 + 3 = 574 := ⟨by decide +kernel, rfl⟩
theorem eL_law_574 : decode cL_law 574 = .ok (.aload_n 2, 1) ∧ 574 + 1 = 575 := ⟨by decide +kernel, rfl⟩
theorem eL_law_575 : decode cL_law 575 = .ok (.invokevirtual 92, 3) ∧ 575 + 3 = 578 := ⟨by decide +kernel, rfl⟩
theorem eL_law_578 : decode cL_law 578 = .ok (.if_icmp .eq 345, 3) ∧ ((578 : Nat) : Int) + 345 = ((923 : Nat) : Int) ∧ 578 + 3 = 581 := ⟨by decide +kernel, by decide, rfl⟩
theorem eL_law_581 : decode cL_law 581 = .ok (.iconst 0, 1) ∧ 581 + 1 = 582 := ⟨by decide +kernel, rfl⟩
theorem eL_law_582 : decode cL_law 582 = .ok (.ireturn, 1) := by decide +kernel
theorem eL_law_583 : decode cL_law 583 = .ok (.aload_n 1, 1) ∧ 583 + 1 = 584 := ⟨by decide +kernel, rfl⟩
theorem eL_law_584 : decode cL_law 584 = .ok (.aload_n 0, 1) ∧ 584 + 1 = 585 := ⟨by decide +kernel, rfl⟩
theorem eL_law_585 : decode cL_law 585 = .ok (.iload_n 3, 1) ∧ 585 + 1 = 586 := ⟨by decide +kernel, rfl⟩
theorem eL_law_586 : decode cL_law 586 = .ok (.iconst 1, 1) ∧ 586 + 1 = 587 := ⟨by decide +kernel, rfl⟩
theorem eL_law_587 : decode cL_law 587 = .ok (.iadd, 1) ∧ 587 + 1 = 588 := ⟨by decide +kernel, rfl⟩
theorem eL_law_588 : decode cL_law 588 = .ok (.iaload, 1) ∧ 588 + 1 = 589 := ⟨by decide +kernel, rfl⟩
theorem eL_law_589 : decode cL_law 589 = .ok (.aload_n 0, 1) ∧ 589 + 1 = 590 := ⟨by decide +kernel, rfl⟩
theorem eL_law_590 : decode cL_law 590 = .ok (.iload_n 3, 1) ∧ 590 + 1 = 591 := ⟨by decide +kernel, rfl⟩
theorem eL_law_591 : decode cL_law 591 = .ok (.iconst 2, 1) ∧ 591 + 1 = 592 := ⟨by decide +kernel, rfl⟩
theorem eL_law_592 : decode cL_law 592 = .ok (.iadd, 1) ∧ 592 + 1 = 593 := ⟨by decide +kernel, rfl⟩
theorem eL_law_593 : decode cL_law 593 = .ok (.iaload, 1) ∧ 593 + 1 = 594 := ⟨by decide +kernel, rfl⟩
theorem eL_law_594 : decode cL_law 594 = .ok (.invokevirtual 93, 3) ∧ 594 + 3 = 597 := ⟨by decide +kernel, rfl⟩
theorem eL_law_597 : decode cL_law 597 = .ok (.aload_n 2, 1) ∧ 597 + 1 = 598 := ⟨by decide +kernel, rfl⟩
theorem eL_law_598 : decode cL_law 598 = .ok (.aload_n 0, 1) ∧ 598 + 1 = 599 := ⟨by decide +kernel, rfl⟩
theorem eL_law_599 : decode cL_law 599 = .ok (.iload_n 3, 1) ∧ 599 + 1 = 600 := ⟨by decide +kernel, rfl⟩
theorem eL_law_600 : decode cL_law 600 = .ok (.iconst 1, 1) ∧ 600 + 1 = 601 := ⟨by decide +kernel, rfl⟩
theorem eL_law_601 : decode cL_law 601 = .ok (.iadd, 1) ∧ 601 + 1 = 602 := ⟨by decide +kernel, rfl⟩
theorem eL_law_602 : decode cL_law 602 = .ok (.iaload, 1) ∧ 602 + 1 = 603 := ⟨by decide +kernel, rfl⟩
theorem eL_law_603 : decode cL_law 603 = .ok (.aload_n 0, 1) ∧ 603 + 1 = 604 := ⟨by decide +kernel, rfl⟩
theorem eL_law_604 : decode cL_law 604 = .ok (.iload_n 3, 1) ∧ 604 + 1 = 605 := ⟨by decide +kernel, rfl⟩
theorem eL_law_605 : decode cL_law 605 = .ok (.iconst 2, 1) ∧ 605 + 1 = 606 := ⟨by decide +kernel, rfl⟩
theorem eL_law_606 : decode cL_law 606 = .ok (.iadd, 1) ∧ 606 + 1 = 607 := ⟨by decide +kernel, rfl⟩
theorem eL_law_607 : decode cL_law 607 = .ok (.iaload, 1) ∧ 607 + 1 = 608 := ⟨by decide +kernel, rfl⟩
theorem eL_law_608 : decode cL_law 608 = .ok (.invokevirtual 96, 3) ∧ 608 + 3 = 611 := ⟨by decide +kernel, rfl⟩
theorem eL_law_611 : decode cL_law 611 = .ok (.if_icmp .eq 312, 3) ∧ ((611 : Nat) : Int) + 312 = ((923 : Nat) : Int) ∧ 611 + 3 = 614 := ⟨by decide +kernel, by decide, rfl⟩
theorem eL_law_614 : decode cL_law 614 = .ok (.iconst 0, 1) ∧ 614 + 1 = 615 := ⟨by decide +kernel, rfl⟩
theorem eL_law_615 : decode cL_law 615 = .ok (.ireturn, 1) := by decide +kernel
theorem eL_law_616 : decode cL_law 616 = .ok (.aload_n 1, 1) ∧ 616 + 1 = 617 := ⟨by decide +kernel, rfl⟩
theorem eL_law_617 : decode cL_law 617 = .ok (.aload_n 0, 1) ∧ 617 + 1 = 618 := ⟨by decide +kernel, rfl⟩
theorem eL_law_618 : decode cL_law 618 = .ok (.iload_n 3, 1) ∧ 618 + 1 = 619 := ⟨by decide +kernel, rfl⟩
theorem eL_law_619 : decode cL_law 619 = .ok (.iconst 1, 1) ∧ 619 + 1 = 620 := ⟨by decide +kernel, rfl⟩
theorem eL_law_620 : decode cL_law 620 = .ok (.iadd, 1) ∧ 620 + 1 = 621 := ⟨by decide +kernel, rfl⟩
theorem eL_law_621 : decode cL_law 621 = .ok (.iaload, 1) ∧ 621 + 1 = 622 := ⟨by decide +kernel, rfl⟩
theorem eL_law_622 : decode cL_law 622 = .ok (.aload_n 0, 1) ∧ 622 + 1 = 623 := ⟨by decide +kernel, rfl⟩
theorem eL_law_623 : decode cL_law 623 = .ok (.iload_n 3, 1) ∧ 623 + 1 = 624 := ⟨by decide +kernel, rfl⟩
theorem eL_law_624 : decode cL_law 624 = .ok (.iconst 2, 1) ∧ 624 + 1 = 625 := ⟨by decide +kernel, rfl⟩
theorem eL_law_625 : decode cL_law 625 = .ok (.iadd, 1) ∧ 625 + 1 = 626 := ⟨by decide +kernel, rfl⟩
theorem eL_law_626 : decode cL_law 626 = .ok (.iaload, 1) ∧ 626 + 1 = 627 := ⟨by decide +kernel, rfl⟩
theorem eL_law_627 : decode cL_law 627 = .ok (.ifCond .eq 7, 3) ∧ ((627 : Nat) : Int) + 7 = ((634 : Nat) : Int) ∧ 627 + 3 = 630 := ⟨by decide +kernel, by decide, rfl⟩
theorem eL_law_630 : decode cL_law 630 = .ok (.iconst 1, 1) ∧ 630 + 1 = 631 := ⟨by decide +kernel, rfl⟩
theorem eL_law_631 : decode cL_law 631 = .ok (.goto 4, 3) ∧ ((631 : Nat) : Int) + 4 = ((635 : Nat) : Int) := ⟨by decide +kernel, by decide⟩
theorem eL_law_634 : decode cL_law 634 = .ok (.iconst 0, 1) ∧ 634 + 1 = 635 := ⟨by decide +kernel, rfl⟩
theorem eL_law_635 : decode cL_law 635 = .ok (.invokevirtual 97, 3) ∧ 635 + 3 = 638 := ⟨by decide +kernel, rfl⟩
theorem eL_law_638 : decode cL_law 638 = .ok (.aload_n 2, 1) ∧ 638 + 1 = 639 := ⟨by decide +kernel, rfl⟩
theorem eL_law_639 : decode cL_law 639 = .ok (.aload_n 0, 1) ∧ 639 + 1 = 640 := ⟨by decide +kernel, rfl⟩
theorem eL_law_640 : decode cL_law 640 = .ok (.iload_n 3, 1) ∧ 640 + 1 = 641 := ⟨by decide +kernel, rfl⟩
theorem eL_law_641 : decode cL_law 641 = .ok (.iconst 1, 1) ∧ 641 + 1 = 642 := ⟨by decide +kernel, rfl⟩
theorem eL_law_642 : decode cL_law 642 = .ok (.iadd, 1) ∧ 642 + 1 = 643 := ⟨by decide +kernel, rfl⟩
theorem eL_law_643 : decode cL_law 643 = .ok (.iaload, 1) ∧ 643 + 1 = 644 := ⟨by decide +kernel, rfl⟩
theorem eL_law_644 : decode cL_law 644 = .ok (.aload_n 0, 1) ∧ 644 + 1 = 645 := ⟨by decide +kernel, rfl⟩
theorem eL_law_645 : decode cL_law 645 = .ok (.iload_n 3, 1) ∧ 645 + 1 = 646 := ⟨by decide +kernel, rfl⟩
theorem eL_law_646 : decode cL_law 646 = .ok (.iconst 2, 1) ∧ 646 + 1 = 647 := ⟨by decide +kernel, rfl⟩
theorem eL_law_647 : decode cL_law 647 = .ok (.iadd, 1) ∧ 647 + 1 = 648 := ⟨by decide +kernel, rfl⟩
theorem eL_law_648 : decode cL_law 648 = .ok (.iaload, 1) ∧ 648 + 1 = 649 := ⟨by decide +kernel, rfl⟩
theorem eL_law_649 : decode cL_law 649 = .ok (.ifCond .eq 7, 3) ∧ ((649 : Nat) : Int) + 7 = ((656 : Nat) : Int) ∧ 649 + 3 = 652 := ⟨by decide +kernel, by decide, rfl⟩
theorem eL_law_652 : decode cL_law 652 = .ok (.iconst 1, 1) ∧ 652 + 1 = 653 := ⟨by decide +kernel, rfl⟩
theorem eL_law_653 : decode cL_law 653 = .ok (.goto 4, 3) ∧ ((653 : Nat) : Int) + 4 = ((657 : Nat) : Int) := ⟨by decide +kernel, by decide⟩
theorem eL_law_656 : decode cL_law 656 = .ok (.iconst 0, 1) ∧ 656 + 1 = 657 := ⟨by decide +kernel, rfl⟩
theorem eL_law_657 : decode cL_law 657 = .ok (.invokevirtual 101, 3) ∧ 657 + 3 = 660 := ⟨by decide +kernel, rfl⟩
theorem eL_law_660 : decode cL_law 660 = .ok (.if_icmp .eq 263, 3) ∧ ((660 : Nat) : Int) + 263 = ((923 : Nat) : Int) ∧ 660 + 3 = 663 := ⟨by decide +kernel, by decide, rfl⟩
theorem eL_law_663 : decode cL_law 663 = .ok (.iconst 0, 1) ∧ 663 + 1 = 664 := ⟨by decide +kernel, rfl⟩
theorem eL_law_664 : decode cL_law 664 = .ok (.ireturn, 1) := by decide +kernel
theorem eL_law_665 : decode cL_law 665 = .ok (.aload_n 1, 1) ∧ 665 + 1 = 666 := ⟨by decide +kernel, rfl⟩
theorem eL_law_666 : decode cL_law 666 = .ok (.aload_n 0, 1) ∧ 666 + 1 = 667 := ⟨by decide +kernel, rfl⟩
theorem eL_law_667 : decode cL_law 667 = .ok (.iload_n 3, 1) ∧ 667 + 1 = 668 := ⟨by decide +kernel, rfl⟩
theorem eL_law_668 : decode cL_law 668 = .ok (.iconst 1, 1) ∧ 668 + 1 = 669 := ⟨by decide +kernel, rfl⟩
theorem eL_law_669 : decode cL_law 669 = .ok (.iadd, 1) ∧ 669 + 1 = 670 := ⟨by decide +kernel, rfl⟩
theorem eL_law_670 : decode cL_law 670 = .ok (.iaload, 1) ∧ 670 + 1 = 671 := ⟨by decide +kernel, rfl⟩
theorem eL_law_671 : decode cL_law 671 = .ok (.aload_n 0, 1) ∧ 671 + 1 = 672 := ⟨by decide +kernel, rfl⟩
theorem eL_law_672 : decode cL_law 672 = .ok (.iload_n 3, 1) ∧ 672 + 1 = 673 := ⟨by decide +kernel, rfl⟩
theorem eL_law_673 : decode cL_law 673 = .ok (.iconst 2, 1) ∧ 673 + 1 = 674 := ⟨by decide +kernel, rfl⟩
theorem eL_law_674 : decode cL_law 674 = .ok (.iadd, 1) ∧ 674 + 1 = 675 := ⟨by decide +kernel, rfl⟩
theorem eL_law_675 : decode cL_law 675 = .ok (.iaload, 1) ∧ 675 + 1 = 676 := ⟨by decide +kernel, rfl⟩
theorem eL_law_676 : decode cL_law 676 = .ok (.aload_n 0, 1) ∧ 676 + 1 = 677 := ⟨by decide +kernel, rfl⟩
theorem eL_law_677 : decode cL_law 677 = .ok (.iload_n 3, 1) ∧ 677 + 1 = 678 := ⟨by decide +kernel, rfl⟩
theorem eL_law_678 : decode cL_law 678 = .ok (.iconst 3, 1) ∧ 678 + 1 = 679 := ⟨by decide +kernel, rfl⟩
theorem eL_law_679 : decode cL_law 679 = .ok (.iadd, 1) ∧ 679 + 1 = 680 := ⟨by decide +kernel, rfl⟩
theorem eL_law_680 : decode cL_law 680 = .ok (.iaload, 1) ∧ 680 + 1 = 681 := ⟨by decide +kernel, rfl⟩
theorem eL_law_681 : decode cL_law 681 = .ok (.invokevirtual 102, 3) ∧ 681 + 3 = 684 := ⟨by decide +kernel, rfl⟩
theorem eL_law_684 : decode cL_law 684 = .ok (.aload_n 2, 1) ∧ 684 + 1 = 685 := ⟨by decide +kernel, rfl⟩
theorem eL_law_685 : decode cL_law 685 = .ok (.aload_n 0, 1) ∧ 685 + 1 = 686 := ⟨by decide +kernel, rfl⟩
theorem eL_law_686 : decode cL_law 686 = .ok (.iload_n 3, 1) ∧ 686 + 1 = 687 := ⟨by decide +kernel, rfl⟩
theorem eL_law_687 : decode cL_law 687 = .ok (.iconst 1, 1) ∧ 687 + 1 = 688 := ⟨by decide +kernel, rfl⟩
theorem eL_law_688 : decode cL_law 688 = .ok (.iadd, 1) ∧ 688 + 1 = 689 := ⟨by decide +kernel, rfl⟩
theorem eL_law_689 : decode cL_law 689 = .ok (.iaload, 1) ∧ 689 + 1 = 690 := ⟨by decide +kernel, rfl⟩
theorem eL_law_690 : decode cL_law 690 = .ok (.aload_n 0, 1) ∧ 690 + 1 = 691 := ⟨by decide +kernel, rfl⟩
theorem eL_law_691 : decode cL_law 691 = .ok (.iload_n 3, 1) ∧ 691 + 1 = 692 := ⟨by decide +kernel, rfl⟩
theorem eL_law_692 : decode cL_law 692 = .ok (.iconst 2, 1) ∧ 692 + 1 = 693 := ⟨by decide +kernel, rfl⟩
theorem eL_law_693 : decode cL_law 693 = .ok (.iadd, 1) ∧ 693 + 1 = 694 := ⟨by decide +kernel, rfl⟩
theorem eL_law_694 : decode cL_law 694 = .ok (.iaload, 1) ∧ 694 + 1 = 695 := ⟨by decide +kernel, rfl⟩
theorem eL_law_695 : decode cL_law 695 = .ok (.aload_n 0, 1) ∧ 695 + 1 = 696 := ⟨by decide +kernel, rfl⟩
theorem eL_law_696 : decode cL_law 696 = .ok (.iload_n 3, 1) ∧ 696 + 1 = 697 := ⟨by decide +kernel, rfl⟩
theorem eL_law_697 : decode cL_law 697 = .ok (.iconst 3, 1) ∧ 697 + 1 = 698 := ⟨by decide +kernel, rfl⟩
theorem eL_law_698 : decode cL_law 698 = .ok (.iadd, 1) ∧ 698 + 1 = 699 := ⟨by decide +kernel, rfl⟩
theorem eL_law_699 : decode cL_law 699 = .ok (.iaload, 1) ∧ 699 + 1 = 700 := ⟨by decide +kernel, rfl⟩
theorem eL_law_700 : decode cL_law 700 = .ok (.invokevirtual 106, 3) ∧ 700 + 3 = 703 := ⟨by decide +kernel, rfl⟩
theorem eL_law_703 : decode cL_law 703 = .ok (.if_icmp .eq 220, 3) ∧ ((703 : Nat) : Int) + 220 = ((923 : Nat) : Int) ∧ 703 + 3 = 706 := ⟨by decide +kernel, by decide, rfl⟩
theorem eL_law_706 : decode cL_law 706 = .ok (.iconst 0, 1) ∧ 706 + 1 = 707 := ⟨by decide +kernel, rfl⟩
theorem eL_law_707 : decode cL_law 707 = .ok (.ireturn, 1) := by decide +kernel
theorem eL_law_708 : decode cL_law 708 = .ok (.aload_n 1, 1) ∧ 708 + 1 = 709 := ⟨by decide +kernel, rfl⟩
theorem eL_law_709 : decode cL_law 709 = .ok (.aload_n 0, 1) ∧ 709 + 1 = 710 := ⟨by decide +kernel, rfl⟩
theorem eL_law_710 : decode cL_law 710 = .ok (.iload_n 3, 1) ∧ 710 + 1 = 711 := ⟨by decide +kernel, rfl⟩
theorem eL_law_711 : decode cL_law 711 = .ok (.iconst 1, 1) ∧ 711 + 1 = 712 := ⟨by decide +kernel, rfl⟩
theorem eL_law_712 : decode cL_law 712 = .ok (.iadd, 1) ∧ 712 + 1 = 713 := ⟨by decide +kernel, rfl⟩
theorem eL_law_713 : decode cL_law 713 = .ok (.iaload, 1) ∧ 713 + 1 = 714 := ⟨by decide +kernel, rfl⟩
theorem eL_law_714 : decode cL_law 714 = .ok (.aload_n 0, 1) ∧ 714 + 1 = 715 := ⟨by decide +kernel, rfl⟩
theorem eL_law_715 : decode cL_law 715 = .ok (.iload_n 3, 1) ∧ 715 + 1 = 716 := ⟨by decide +kernel, rfl⟩
theorem eL_law_716 : decode cL_law 716 = .ok (.iconst 2, 1) ∧ 716 + 1 = 717 := ⟨by decide +kernel, rfl⟩
theorem eL_law_717 : decode cL_law 717 = .ok (.iadd, 1) ∧ 717 + 1 = 718 := ⟨by decide +kernel, rfl⟩
theorem eL_law_718 : decode cL_law 718 = .ok (.iaload, 1) ∧ 718 + 1 = 719 := ⟨by decide +kernel, rfl⟩
theorem eL_law_719 : decode cL_law 719 = .ok (.aload_n 0, 1) ∧ 719 + 1 = 720 := ⟨by decide +kernel, rfl⟩
theorem eL_law_720 : decode cL_law 720 = .ok (.iload_n 3, 1) ∧ 720 + 1 = 721 := ⟨by decide +kernel, rfl⟩
theorem eL_law_721 : decode cL_law 721 = .ok (.iconst 3, 1) ∧ 721 + 1 = 722 := ⟨by decide +kernel, rfl⟩
theorem eL_law_722 : decode cL_law 722 = .ok (.iadd, 1) ∧ 722 + 1 = 723 := ⟨by decide +kernel, rfl⟩
theorem eL_law_723 : decode cL_law 723 = .ok (.iaload, 1) ∧ 723 + 1 = 724 := ⟨by decide +kernel, rfl⟩
theorem eL_law_724 : decode cL_law 724 = .ok (.aload_n 0, 1) ∧ 724 + 1 = 725 := ⟨by decide +kernel, rfl⟩
theorem eL_law_725 : decode cL_law 725 = .ok (.iload_n 3, 1) ∧ 725 + 1 = 726 := ⟨by decide +kernel, rfl⟩
theorem eL_law_726 : decode cL_law 726 = .ok (.iconst 4, 1) ∧ 726 + 1 = 727 := ⟨by decide +kernel, rfl⟩
theorem eL_law_727 : decode cL_law 727 = .ok (.iadd, 1) ∧ 727 + 1 = 728 := ⟨by decide +kernel, rfl⟩
theorem eL_law_728 : decode cL_law 728 = .ok (.iaload, 1) ∧ 728 + 1 = 729 := ⟨by decide +kernel, rfl⟩
theorem eL_law_729 : decode cL_law 729 = .ok (.ifCond .eq 7, 3) ∧ ((729 : Nat) : Int) + 7 = ((736 : Nat) : Int) ∧ 729 + 3 = 732 := ⟨by decide +kernel, by decide, rfl⟩
theorem eL_law_732 : decode cL_law 732 = .ok (.iconst 1, 1) ∧ 732 + 1 = 733 := ⟨by decide +kernel, rfl⟩
theorem eL_law_733 : decode cL_law 733 = .ok (.goto 4, 3) ∧ ((733 : Nat) : Int) + 4 = ((737 : Nat) : Int) := ⟨by decide +kernel, by decide⟩
theorem eL_law_736 : decode cL_law 736 = .ok (.iconst 0, 1) ∧ 736 + 1 = 737 := ⟨by decide +kernel, rfl⟩
theorem eL_law_737 : decode cL_law 737 = .ok (.invokevirtual 107, 3) ∧ 737 + 3 = 740 := ⟨by decide +kernel, rfl⟩
theorem eL_law_740 : decode cL_law 740 = .ok (.aload_n 2, 1) ∧ 740 + 1 = 741 := ⟨by decide +kernel, rfl⟩
theorem eL_law_741 : decode cL_law 741 = .ok (.aload_n 0, 1) ∧ 741 + 1 = 742 := ⟨by decide +kernel, rfl⟩
theorem eL_law_742 : decode cL_law 742 = .ok (.iload_n 3, 1) ∧ 742 + 1 = 743 := ⟨by decide +kernel, rfl⟩
theorem eL_law_743 : decode cL_law 743 = .ok (.iconst 1, 1) ∧ 743 + 1 = 744 := ⟨by decide +kernel, rfl⟩
theorem eL_law_744 : decode cL_law 744 = .ok (.iadd, 1) ∧ 744 + 1 = 745 := ⟨by decide +kernel, rfl⟩
theorem eL_law_745 : decode cL_law 745 = .ok (.iaload, 1) ∧ 745 + 1 = 746 := ⟨by decide +kernel, rfl⟩
theorem eL_law_746 : decode cL_law 746 = .ok (.aload_n 0, 1) ∧ 746 + 1 = 747 := ⟨by decide +kernel, rfl⟩
theorem eL_law_747 : decode cL_law 747 = .ok (.iload_n 3, 1) ∧ 747 + 1 = 748 := ⟨by decide +kernel, rfl⟩
theorem eL_law_748 : decode cL_law 748 = .ok (.iconst 2, 1) ∧ 748 + 1 = 749 := ⟨by decide +kernel, rfl⟩
theorem eL_law_749 : decode cL_law 749 = .ok (.iadd, 1) ∧ 749 + 1 = 750 := ⟨by decide +kernel, rfl⟩
theorem eL_law_750 : decode cL_law 750 = .ok (.iaload, 1) ∧ 750 + 1 = 751 := ⟨by decide +kernel, rfl⟩
theorem eL_law_751 : decode cL_law 751 = .ok (.aload_n 0, 1) ∧ 751 + 1 = 752 := ⟨by decide +kernel, rfl⟩
theorem eL_law_752 : decode cL_law 752 = .ok (.iload_n 3, 1) ∧ 752 + 1 = 753 := ⟨by decide +kernel, rfl⟩
theorem eL_law_753 : decode cL_law 753 = .ok (.iconst 3, 1) ∧ 753 + 1 = 754 := ⟨by decide +kernel, rfl⟩
theorem eL_law_754 : decode cL_law 754 = .ok (.iadd, 1) ∧ 754 + 1 = 755 := ⟨by decide +kernel, rfl⟩
theorem eL_law_755 : decode cL_law 755 = .ok (.iaload, 1) ∧ 755 + 1 = 756 := ⟨by decide +kernel, rfl⟩
theorem eL_law_756 : decode cL_law 756 = .ok (.aload_n 0, 1) ∧ 756 + 1 = 757 := ⟨by decide +kernel, rfl⟩
theorem eL_law_757 : decode cL_law 757 = .ok (.iload_n 3, 1) ∧ 757 + 1 = 758 := ⟨by decide +kernel, rfl⟩
theorem eL_law_758 : decode cL_law 758 = .ok (.iconst 4, 1) ∧ 758 + 1 = 759 := ⟨by decide +kernel, rfl⟩
theorem eL_law_759 : decode cL_law 759 = .ok (.iadd, 1) ∧ 759 + 1 = 760 := ⟨by decide +kernel, rfl⟩
theorem eL_law_760 : decode cL_law 760 = .ok (.iaload, 1) ∧ 760 + 1 = 761 := ⟨by decide +kernel, rfl⟩
theorem eL_law_761 : decode cL_law 761 = .ok (.ifCond .eq 7, 3) ∧ ((761 : Nat) : Int) + 7 = ((768 : Nat) : Int) ∧ 761 + 3 = 764 := ⟨by decide +kernel, by decide, rfl⟩
theorem eL_law_764 : decode cL_law 764 = .ok (.iconst 1, 1) ∧ 764 + 1 = 765 := ⟨by decide +kernel, rfl⟩
theorem eL_law_765 : decode cL_law 765 = .ok (.goto 4, 3) ∧ ((765 : Nat) : Int) + 4 = ((769 : Nat) : Int) := ⟨by decide +kernel, by decide⟩
theorem eL_law_768 : decode cL_law 768 = .ok (.iconst 0, 1) ∧ 768 + 1 = 769 := ⟨by decide +kernel, rfl⟩
theorem eL_law_769 : decode cL_law 769 = .ok (.invokevirtual 111, 3) ∧ 769 + 3 = 772 := ⟨by decide +kernel, rfl⟩
theorem eL_law_772 : decode cL_law 772 = .ok (.if_icmp .eq 151, 3) ∧ ((772 : Nat) : Int) + 151 = ((923 : Nat) : Int) ∧ 772 + 3 = 775 := ⟨by decide +kernel, by decide, rfl⟩
theorem eL_law_775 : decode cL_law 775 = .ok (.iconst 0, 1) ∧ 775 + 1 = 776 := ⟨by decide +kernel, rfl⟩
theorem eL_law_776 : decode cL_law 776 = .ok (.ireturn, 1) := by decide +kernel
theorem eL_law_777 : decode cL_law 777 = .ok (.aload_n 1, 1) ∧ 777 + 1 = 778 := ⟨by decide +kernel, rfl⟩
theorem eL_law_778 : decode cL_law 778 = .ok (.aload_n 0, 1) ∧ 778 + 1 = 779 := ⟨by decide +kernel, rfl⟩
theorem eL_law_779 : decode cL_law 779 = .ok (.iload_n 3, 1) ∧ 779 + 1 = 780 := ⟨by decide +kernel, rfl⟩
theorem eL_law_780 : decode cL_law 780 = .ok (.iconst 1, 1) ∧ 780 + 1 = 781 := ⟨by decide +kernel, rfl⟩
theorem eL_law_781 : decode cL_law 781 = .ok (.iadd, 1) ∧ 781 + 1 = 782 := ⟨by decide +kernel, rfl⟩
theorem eL_law_782 : decode cL_law 782 = .ok (.iaload, 1) ∧ 782 + 1 = 783 := ⟨by decide +kernel, rfl⟩
theorem eL_law_783 : decode cL_law 783 = .ok (.i2l, 1) ∧ 783 + 1 = 784 := ⟨by decide +kernel, rfl⟩
theorem eL_law_784 : decode cL_law 784 = .ok (.bipush 32, 2) ∧ 784 + 2 = 786 := ⟨by decide +kernel, rfl⟩
theorem eL_law_786 : decode cL_law 786 = .ok (.lshl, 1) ∧ 786 + 1 = 787 := ⟨by decide +kernel, rfl⟩
theorem eL_law_787 : decode cL_law 787 = .ok (.aload_n 0, 1) ∧ 787 + 1 = 788 := ⟨by decide +kernel, rfl⟩
theorem eL_law_788 : decode cL_law 788 = .ok (.iload_n 3, 1) ∧ 788 + 1 = 789 := ⟨by decide +kernel, rfl⟩
theorem eL_law_789 : decode cL_law 789 = .ok (.iconst 2, 1) ∧ 789 + 1 = 790 := ⟨by decide +kernel, rfl⟩
theorem eL_law_790 : decode cL_law 790 = .ok (.iadd, 1) ∧ 790 + 1 = 791 := ⟨by decide +kernel, rfl⟩
theorem eL_law_791 : decode cL_law 791 = .ok (.iaload, 1) ∧ 791 + 1 = 792 := ⟨by decide +kernel, rfl⟩
theorem eL_law_792 : decode cL_law 792 = .ok (.i2l, 1) ∧ 792 + 1 = 793 := ⟨by decide +kernel, rfl⟩
theorem eL_law_793 : decode cL_law 793 = .ok (.ldc2_w 112, 3) ∧ 793 + 3 = 796 := ⟨by decide +kernel, rfl⟩
theorem eL_law_796 : decode cL_law 796 = .ok (.land, 1) ∧ 796 + 1 = 797 := ⟨by decide +kernel, rfl⟩
theorem eL_law_797 : decode cL_law 797 = .ok (.lor, 1) ∧ 797 + 1 = 798 := ⟨by decide +kernel, rfl⟩
theorem eL_law_798 : decode cL_law 798 = .ok (.invokevirtual 114, 3) ∧ 798 + 3 = 801 := ⟨by decide +kernel, rfl⟩
theorem eL_law_801 : decode cL_law 801 = .ok (.aload_n 2, 1) ∧ 801 + 1 = 802 := ⟨by decide +kernel, rfl⟩
theorem eL_law_802 : decode cL_law 802 = .ok (.aload_n 0, 1) ∧ 802 + 1 = 803 := ⟨by decide +kernel, rfl⟩
theorem eL_law_803 : decode cL_law 803 = .ok (.iload_n 3, 1) ∧ 803 + 1 = 804 := ⟨by decide +kernel, rfl⟩
theorem eL_law_804 : decode cL_law 804 = .ok (.iconst 1, 1) ∧ 804 + 1 = 805 := ⟨by decide +kernel, rfl⟩
theorem eL_law_805 : decode cL_law 805 = .ok (.iadd, 1) ∧ 805 + 1 = 806 := ⟨by decide +kernel, rfl⟩
theorem eL_law_806 : decode cL_law 806 = .ok (.iaload, 1) ∧ 806 + 1 = 807 := ⟨by decide +kernel, rfl⟩
theorem eL_law_807 : decode cL_law 807 = .ok (.i2l, 1) ∧ 807 + 1 = 808 := ⟨by decide +kernel, rfl⟩
theorem eL_law_808 : decode cL_law 808 = .ok (.bipush 32, 2) ∧ 808 + 2 = 810 := ⟨by decide +kernel, rfl⟩
theorem eL_law_810 : decode cL_law 810 = .ok (.lshl, 1) ∧ 810 + 1 = 811 := ⟨by decide +kernel, rfl⟩
theorem eL_law_811 : decode cL_law 811 = .ok (.aload_n 0, 1) ∧ 811 + 1 = 812 := ⟨by decide +kernel, rfl⟩
theorem eL_law_812 : decode cL_law 812 = .ok (.iload_n 3, 1) ∧ 812 + 1 = 813 := ⟨by decide +kernel, rfl⟩
theorem eL_law_813 : decode cL_law 813 = .ok (.iconst 2, 1) ∧ 813 + 1 = 814 := ⟨by decide +kernel, rfl⟩
theorem eL_law_814 : decode cL_law 814 = .ok (.iadd, 1) ∧ 814 + 1 = 815 := ⟨by decide +kernel, rfl⟩
theorem eL_law_815 : decode cL_law 815 = .ok (.iaload, 1) ∧ 815 + 1 = 816 := ⟨by decide +kernel, rfl⟩
theorem eL_law_816 : decode cL_law 816 = .ok (.i2l, 1) ∧ 816 + 1 = 817 := ⟨by decide +kernel, rfl⟩
theorem eL_law_817 : decode cL_law 817 = .ok (.ldc2_w 112, 3) ∧ 817 + 3 = 820 := ⟨by decide +kernel, rfl⟩
theorem eL_law_820 : decode cL_law 820 = .ok (.land, 1) ∧ 820 + 1 = 821 := ⟨by decide +kernel, rfl⟩
theorem eL_law_821 : decode cL_law 821 = .ok (.lor, 1) ∧ 821 + 1 = 822 := ⟨by decide +kernel, rfl⟩
theorem eL_law_822 : decode cL_law 822 = .ok (.invokevirtual 118, 3) ∧ 822 + 3 = 825 := ⟨by decide +kernel, rfl⟩
theorem eL_law_825 : decode cL_law 825 = .ok (.lcmp, 1) ∧ 825 + 1 = 826 := ⟨by decide +kernel, rfl⟩
theorem eL_law_826 : decode cL_law 826 = .ok (.ifCond .eq 97, 3) ∧ ((826 : Nat) : Int) + 97 = ((923 : Nat) : Int) ∧ 826 + 3 = 829 := ⟨by decide +kernel, by decide, rfl⟩
theorem eL_law_829 : decode cL_law 829 = .ok (.iconst 0, 1) ∧ 829 + 1 = 830 := ⟨by decide +kernel, rfl⟩
theorem eL_law_830 : decode cL_law 830 = .ok (.ireturn, 1) := by decide +kernel
theorem eL_law_831 : decode cL_law 831 = .ok (.aload_n 1, 1) ∧ 831 + 1 = 832 := ⟨by decide +kernel, rfl⟩
theorem eL_law_832 : decode cL_law 832 = .ok (.aload_n 0, 1) ∧ 832 + 1 = 833 := ⟨by decide +kernel, rfl⟩
theorem eL_law_833 : decode cL_law 833 = .ok (.iload_n 3, 1) ∧ 833 + 1 = 834 := ⟨by decide +kernel, rfl⟩
theorem eL_law_834 : decode cL_law 834 = .ok (.iconst 1, 1) ∧ 834 + 1 = 835 := ⟨by decide +kernel, rfl⟩
theorem eL_law_835 : decode cL_law 835 = .ok (.iadd, 1) ∧ 835 + 1 = 836 := ⟨by decide +kernel, rfl⟩
theorem eL_law_836 : decode cL_law 836 = .ok (.iaload, 1) ∧ 836 + 1 = 837 := ⟨by decide +kernel, rfl⟩
theorem eL_law_837 : decode cL_law 837 = .ok (.invokevirtual 119, 3) ∧ 837 + 3 = 840 := ⟨by decide +kernel, rfl⟩
theorem eL_law_840 : decode cL_law 840 = .ok (.aload_n 2, 1) ∧ 840 + 1 = 841 := ⟨by decide +kernel, rfl⟩
theorem eL_law_841 : decode cL_law 841 = .ok (.aload_n 0, 1) ∧ 841 + 1 = 842 := ⟨by decide +kernel, rfl⟩
theorem eL_law_842 : decode cL_law 842 = .ok (.iload_n 3, 1) ∧ 842 + 1 = 843 := ⟨by decide +kernel, rfl⟩
theorem eL_law_843 : decode cL_law 843 = .ok (.iconst 1, 1) ∧ 843 + 1 = 844 := ⟨by decide +kernel, rfl⟩
theorem eL_law_844 : decode cL_law 844 = .ok (.iadd, 1) ∧ 844 + 1 = 845 := ⟨by decide +kernel, rfl⟩
theorem eL_law_845 : decode cL_law 845 = .ok (.iaload, 1) ∧ 845 + 1 = 846 := ⟨by decide +kernel, rfl⟩
theorem eL_law_846 : decode cL_law 846 = .ok (.invokevirtual 122, 3) ∧ 846 + 3 = 849 := ⟨by decide +kernel, rfl⟩
theorem eL_law_849 : decode cL_law 849 = .ok (.if_icmp .eq 74, 3) ∧ ((849 : Nat) : Int) + 74 = ((923 : Nat) : Int) ∧ 849 + 3 = 852 := ⟨by decide +kernel, by decide, rfl⟩
theorem eL_law_852 : decode cL_law 852 = .ok (.iconst 0, 1) ∧ 852 + 1 = 853 := ⟨by decide +kernel, rfl⟩
theorem eL_law_853 : decode cL_law 853 = .ok (.ireturn, 1) := by decide +kernel
theorem eL_law_854 : decode cL_law 854 = .ok (.aload_n 1, 1) ∧ 854 + 1 = 855 := ⟨by decide +kernel, rfl⟩
theorem eL_law_855 : decode cL_law 855 = .ok (.aload_n 0, 1) ∧ 855 + 1 = 856 := ⟨by decide +kernel, rfl⟩
theorem eL_law_856 : decode cL_law 856 = .ok (.iload_n 3, 1) ∧ 856 + 1 = 857 := ⟨by decide +kernel, rfl⟩
theorem eL_law_857 : decode cL_law 857 = .ok (.iconst 1, 1) ∧ 857 + 1 = 858 := ⟨by decide +kernel, rfl⟩
theorem eL_law_858 : decode cL_law 858 = .ok (.iadd, 1) ∧ 858 + 1 = 859 := ⟨by decide +kernel, rfl⟩
theorem eL_law_859 : decode cL_law 859 = .ok (.iaload, 1) ∧ 859 + 1 = 860 := ⟨by decide +kernel, rfl⟩
theorem eL_law_860 : decode cL_law 860 = .ok (.invokevirtual 123, 3) ∧ 860 + 3 = 863 := ⟨by decide +kernel, rfl⟩
theorem eL_law_863 : decode cL_law 863 = .ok (.aload_n 2, 1) ∧ 863 + 1 = 864 := ⟨by decide +kernel, rfl⟩
theorem eL_law_864 : decode cL_law 864 = .ok (.aload_n 0, 1) ∧ 864 + 1 = 865 := ⟨by decide +kernel, rfl⟩
theorem eL_law_865 : decode cL_law 865 = .ok (.iload_n 3, 1) ∧ 865 + 1 = 866 := ⟨by decide +kernel, rfl⟩
theorem eL_law_866 : decode cL_law 866 = .ok (.iconst 1, 1) ∧ 866 + 1 = 867 := ⟨by decide +kernel, rfl⟩
theorem eL_law_867 : decode cL_law 867 = .ok (.iadd, 1) ∧ 867 + 1 = 868 := ⟨by decide +kernel, rfl⟩
theorem eL_law_868 : decode cL_law 868 = .ok (.iaload, 1) ∧ 868 + 1 = 869 := ⟨by decide +kernel, rfl⟩
theorem eL_law_869 : decode cL_law 869 = .ok (.invokevirtual 126, 3) ∧ 869 + 3 = 872 := ⟨by decide +kernel, rfl⟩
theorem eL_law_872 : decode cL_law 872 = .ok (.if_icmp .eq 51, 3) ∧ ((872 : Nat) : Int) + 51 = ((923 : Nat) : Int) ∧ 872 + 3 = 875 := ⟨by decide +kernel, by decide, rfl⟩
theorem eL_law_875 : decode cL_law 875 = .ok (.iconst 0, 1) ∧ 875 + 1 = 876 := ⟨by decide +kernel, rfl⟩
theorem eL_law_876 : decode cL_law 876 = .ok (.ireturn, 1) := by decide +kernel
theorem eL_law_877 : decode cL_law 877 = .ok (.aload_n 1, 1) ∧ 877 + 1 = 878 := ⟨by decide +kernel, rfl⟩
theorem eL_law_878 : decode cL_law 878 = .ok (.aload_n 0, 1) ∧ 878 + 1 = 879 := ⟨by decide +kernel, rfl⟩
theorem eL_law_879 : decode cL_law 879 = .ok (.iload_n 3, 1) ∧ 879 + 1 = 880 := ⟨by decide +kernel, rfl⟩
theorem eL_law_880 : decode cL_law 880 = .ok (.iconst 1, 1) ∧ 880 + 1 = 881 := ⟨by decide +kernel, rfl⟩
theorem eL_law_881 : decode cL_law 881 = .ok (.iadd, 1) ∧ 881 + 1 = 882 := ⟨by decide +kernel, rfl⟩
theorem eL_law_882 : decode cL_law 882 = .ok (.iaload, 1) ∧ 882 + 1 = 883 := ⟨by decide +kernel, rfl⟩
theorem eL_law_883 : decode cL_law 883 = .ok (.invokevirtual 127, 3) ∧ 883 + 3 = 886 := ⟨by decide +kernel, rfl⟩
theorem eL_law_886 : decode cL_law 886 = .ok (.aload_n 2, 1) ∧ 886 + 1 = 887 := ⟨by decide +kernel, rfl⟩
theorem eL_law_887 : decode cL_law 887 = .ok (.aload_n 0, 1) ∧ 887 + 1 = 888 := ⟨by decide +kernel, rfl⟩
theorem eL_law_888 : decode cL_law 888 = .ok (.iload_n 3, 1) ∧ 888 + 1 = 889 := ⟨by decide +kernel, rfl⟩
theorem eL_law_889 : decode cL_law 889 = .ok (.iconst 1, 1) ∧ 889 + 1 = 890 := ⟨by decide +kernel, rfl⟩
theorem eL_law_890 : decode cL_law 890 = .ok (.iadd, 1) ∧ 890 + 1 = 891 := ⟨by decide +kernel, rfl⟩
theorem eL_law_891 : decode cL_law 891 = .ok (.iaload, 1) ∧ 891 + 1 = 892 := ⟨by decide +kernel, rfl⟩
theorem eL_law_892 : decode cL_law 892 = .ok (.invokevirtual 130, 3) ∧ 892 + 3 = 895 := ⟨by decide +kernel, rfl⟩
theorem eL_law_895 : decode cL_law 895 = .ok (.if_icmp .eq 28, 3) ∧ ((895 : Nat) : Int) + 28 = ((923 : Nat) : Int) ∧ 895 + 3 = 898 := ⟨by decide +kernel, by decide, rfl⟩
theorem eL_law_898 : decode cL_law 898 = .ok (.iconst 0, 1) ∧ 898 + 1 = 899 := ⟨by decide +kernel, rfl⟩
theorem eL_law_899 : decode cL_law 899 = .ok (.ireturn, 1) := by decide +kernel
theorem eL_law_900 : decode cL_law 900 = .ok (.aload_n 1, 1) ∧ 900 + 1 = 901 := ⟨by decide +kernel, rfl⟩
theorem eL_law_901 : decode cL_law 901 = .ok (.aload_n 0, 1) ∧ 901 + 1 = 902 := ⟨by decide +kernel, rfl⟩
theorem eL_law_902 : decode cL_law 902 = .ok (.iload_n 3, 1) ∧ 902 + 1 = 903 := ⟨by decide +kernel, rfl⟩
theorem eL_law_903 : decode cL_law 903 = .ok (.iconst 1, 1) ∧ 903 + 1 = 904 := ⟨by decide +kernel, rfl⟩
theorem eL_law_904 : decode cL_law 904 = .ok (.iadd, 1) ∧ 904 + 1 = 905 := ⟨by decide +kernel, rfl⟩
theorem eL_law_905 : decode cL_law 905 = .ok (.iaload, 1) ∧ 905 + 1 = 906 := ⟨by decide +kernel, rfl⟩
theorem eL_law_906 : decode cL_law 906 = .ok (.invokevirtual 131, 3) ∧ 906 + 3 = 909 := ⟨by decide +kernel, rfl⟩
theorem eL_law_909 : decode cL_law 909 = .ok (.aload_n 2, 1) ∧ 909 + 1 = 910 := ⟨by decide +kernel, rfl⟩
theorem eL_law_910 : decode cL_law 910 = .ok (.aload_n 0, 1) ∧ 910 + 1 = 911 := ⟨by decide +kernel, rfl⟩
theorem eL_law_911 : decode cL_law 911 = .ok (.iload_n 3, 1) ∧ 911 + 1 = 912 := ⟨by decide +kernel, rfl⟩
theorem eL_law_912 : decode cL_law 912 = .ok (.iconst 1, 1) ∧ 912 + 1 = 913 := ⟨by decide +kernel, rfl⟩
theorem eL_law_913 : decode cL_law 913 = .ok (.iadd, 1) ∧ 913 + 1 = 914 := ⟨by decide +kernel, rfl⟩
theorem eL_law_914 : decode cL_law 914 = .ok (.iaload, 1) ∧ 914 + 1 = 915 := ⟨by decide +kernel, rfl⟩
theorem eL_law_915 : decode cL_law 915 = .ok (.invokevirtual 134, 3) ∧ 915 + 3 = 918 := ⟨by decide +kernel, rfl⟩
theorem eL_law_918 : decode cL_law 918 = .ok (.if_icmp .eq 5, 3) ∧ ((918 : Nat) : Int) + 5 = ((923 : Nat) : Int) ∧ 918 + 3 = 921 := ⟨by decide +kernel, by decide, rfl⟩
theorem eL_law_921 : decode cL_law 921 = .ok (.iconst 0, 1) ∧ 921 + 1 = 922 := ⟨by decide +kernel, rfl⟩
theorem eL_law_922 : decode cL_law 922 = .ok (.ireturn, 1) := by decide +kernel
theorem eL_law_923 : decode cL_law 923 = .ok (.iinc 3 5, 3) ∧ 923 + 3 = 926 := ⟨by decide +kernel, rfl⟩
theorem eL_law_926 : decode cL_law 926 = .ok (.goto (-908), 3) ∧ ((926 : Nat) : Int) + (-908) = ((18 : Nat) : Int) := ⟨by decide +kernel, by decide⟩
theorem eL_law_929 : decode cL_law 929 = .ok (.iconst 1, 1) ∧ 929 + 1 = 930 := ⟨by decide +kernel, rfl⟩
theorem eL_law_930 : decode cL_law 930 = .ok (.ireturn, 1) := by decide +kernel
end
