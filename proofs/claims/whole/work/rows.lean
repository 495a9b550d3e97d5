section
-- ===== PART A: goes FIRST, ahead of the names: the tables' words, and 'selects' of the private methods out of them =====
/-- a private method of a class that the tables say can be made, by its rows of tables_1 -/
def lw_okq (q : MethodName × Nat) : Prop := (q.1.cls ≠ "java/lang/invoke/MethodHandle" ∧ q.1.cls ≠ "java/lang/invoke/VarHandle") ∧ Cond.instantiable q.1.cls q.2 ∈ tables_1 ∧ Cond.privateMethod q.1 ∈ tables_1 ∧ Cond.instanceMethod q.1 ∈ tables_1
theorem lw_p0 : lw_okq (⟨"OneRing$Text", "fits", "(I)Z"⟩, 2) := ⟨⟨by decide +kernel, by decide +kernel⟩, List.mem_of_getElem? (i := 19) (by decide +kernel), List.mem_of_getElem? (i := 213) (by decide +kernel), List.mem_of_getElem? (i := 214) (by decide +kernel)⟩
theorem lw_p1 : lw_okq (⟨"OneRing$Text", "fitsWedding", "(I)Z"⟩, 2) := ⟨⟨by decide +kernel, by decide +kernel⟩, List.mem_of_getElem? (i := 19) (by decide +kernel), List.mem_of_getElem? (i := 217) (by decide +kernel), List.mem_of_getElem? (i := 218) (by decide +kernel)⟩
theorem lw_p2 : lw_okq (⟨"OneRing$Text", "isFigure", "(III)Z"⟩, 2) := ⟨⟨by decide +kernel, by decide +kernel⟩, List.mem_of_getElem? (i := 19) (by decide +kernel), List.mem_of_getElem? (i := 221) (by decide +kernel), List.mem_of_getElem? (i := 222) (by decide +kernel)⟩
theorem lw_p3 : lw_okq (⟨"OneRing$Acts", "standAt", "(I)LOneRing$Stand;"⟩, 3) := ⟨⟨by decide +kernel, by decide +kernel⟩, List.mem_of_getElem? (i := 86) (by decide +kernel), List.mem_of_getElem? (i := 314) (by decide +kernel), List.mem_of_getElem? (i := 315) (by decide +kernel)⟩
theorem lw_p4 : lw_okq (⟨"OneRing$Search", "allows", "(II)Z"⟩, 10) := ⟨⟨by decide +kernel, by decide +kernel⟩, List.mem_of_getElem? (i := 106) (by decide +kernel), List.mem_of_getElem? (i := 372) (by decide +kernel), List.mem_of_getElem? (i := 373) (by decide +kernel)⟩
theorem lw_p5 : lw_okq (⟨"OneRing$Search", "record", "(IIII)V"⟩, 10) := ⟨⟨by decide +kernel, by decide +kernel⟩, List.mem_of_getElem? (i := 106) (by decide +kernel), List.mem_of_getElem? (i := 380) (by decide +kernel), List.mem_of_getElem? (i := 381) (by decide +kernel)⟩
theorem lw_p6 : lw_okq (⟨"OneRing", "mostFrom", "(LOneRing$Stand;)I"⟩, 13) := ⟨⟨by decide +kernel, by decide +kernel⟩, List.mem_of_getElem? (i := 11) (by decide +kernel), List.mem_of_getElem? (i := 393) (by decide +kernel), List.mem_of_getElem? (i := 394) (by decide +kernel)⟩
theorem lw_p7 : lw_okq (⟨"OneRing", "fillMostOf", "()V"⟩, 13) := ⟨⟨by decide +kernel, by decide +kernel⟩, List.mem_of_getElem? (i := 11) (by decide +kernel), List.mem_of_getElem? (i := 451) (by decide +kernel), List.mem_of_getElem? (i := 452) (by decide +kernel)⟩
theorem lw_p8 : lw_okq (⟨"OneRing", "isAtRest", "(IIII)Z"⟩, 13) := ⟨⟨by decide +kernel, by decide +kernel⟩, List.mem_of_getElem? (i := 11) (by decide +kernel), List.mem_of_getElem? (i := 468) (by decide +kernel), List.mem_of_getElem? (i := 469) (by decide +kernel)⟩
theorem lw_p9 : lw_okq (⟨"OneRing", "gain", "(IIII)I"⟩, 13) := ⟨⟨by decide +kernel, by decide +kernel⟩, List.mem_of_getElem? (i := 11) (by decide +kernel), List.mem_of_getElem? (i := 472) (by decide +kernel), List.mem_of_getElem? (i := 473) (by decide +kernel)⟩
theorem lw_p10 : lw_okq (⟨"OneRing", "isRowOfOpenWeddings", "(II)Z"⟩, 13) := ⟨⟨by decide +kernel, by decide +kernel⟩, List.mem_of_getElem? (i := 11) (by decide +kernel), List.mem_of_getElem? (i := 480) (by decide +kernel), List.mem_of_getElem? (i := 481) (by decide +kernel)⟩
theorem lw_p11 : lw_okq (⟨"OneRing", "weightOfFalls", "(IIII)I"⟩, 13) := ⟨⟨by decide +kernel, by decide +kernel⟩, List.mem_of_getElem? (i := 11) (by decide +kernel), List.mem_of_getElem? (i := 484) (by decide +kernel), List.mem_of_getElem? (i := 485) (by decide +kernel)⟩
theorem lw_p12 : lw_okq (⟨"OneRing", "holdsWithFalls", "(III)Z"⟩, 13) := ⟨⟨by decide +kernel, by decide +kernel⟩, List.mem_of_getElem? (i := 11) (by decide +kernel), List.mem_of_getElem? (i := 488) (by decide +kernel), List.mem_of_getElem? (i := 489) (by decide +kernel)⟩
theorem lw_p13 : lw_okq (⟨"OneRing", "isSlot", "(I)Z"⟩, 13) := ⟨⟨by decide +kernel, by decide +kernel⟩, List.mem_of_getElem? (i := 11) (by decide +kernel), List.mem_of_getElem? (i := 506) (by decide +kernel), List.mem_of_getElem? (i := 507) (by decide +kernel)⟩
theorem lw_p14 : lw_okq (⟨"OneRing", "holdingNext", "()I"⟩, 13) := ⟨⟨by decide +kernel, by decide +kernel⟩, List.mem_of_getElem? (i := 11) (by decide +kernel), List.mem_of_getElem? (i := 518) (by decide +kernel), List.mem_of_getElem? (i := 519) (by decide +kernel)⟩
theorem lw_p15 : lw_okq (⟨"OneRingModel", "mayBe", "(I)Z"⟩, 21) := ⟨⟨by decide +kernel, by decide +kernel⟩, List.mem_of_getElem? (i := 522) (by decide +kernel), List.mem_of_getElem? (i := 608) (by decide +kernel), List.mem_of_getElem? (i := 609) (by decide +kernel)⟩
def lw_privs_1 : List (MethodName × Nat) := [(⟨"OneRing$Text", "fits", "(I)Z"⟩, 2), (⟨"OneRing$Text", "fitsWedding", "(I)Z"⟩, 2), (⟨"OneRing$Text", "isFigure", "(III)Z"⟩, 2), (⟨"OneRing$Acts", "standAt", "(I)LOneRing$Stand;"⟩, 3), (⟨"OneRing$Search", "allows", "(II)Z"⟩, 10), (⟨"OneRing$Search", "record", "(IIII)V"⟩, 10), (⟨"OneRing", "mostFrom", "(LOneRing$Stand;)I"⟩, 13), (⟨"OneRing", "fillMostOf", "()V"⟩, 13), (⟨"OneRing", "isAtRest", "(IIII)Z"⟩, 13), (⟨"OneRing", "gain", "(IIII)I"⟩, 13), (⟨"OneRing", "isRowOfOpenWeddings", "(II)Z"⟩, 13), (⟨"OneRing", "weightOfFalls", "(IIII)I"⟩, 13), (⟨"OneRing", "holdsWithFalls", "(III)Z"⟩, 13), (⟨"OneRing", "isSlot", "(I)Z"⟩, 13), (⟨"OneRing", "holdingNext", "()I"⟩, 13), (⟨"OneRingModel", "mayBe", "(I)Z"⟩, 21)]
theorem lw_r1 : ∀ q ∈ lw_privs_1, lw_okq q := List.forall_mem_cons.mpr ⟨lw_p0, List.forall_mem_cons.mpr ⟨lw_p1, List.forall_mem_cons.mpr ⟨lw_p2, List.forall_mem_cons.mpr ⟨lw_p3, List.forall_mem_cons.mpr ⟨lw_p4, List.forall_mem_cons.mpr ⟨lw_p5, List.forall_mem_cons.mpr ⟨lw_p6, List.forall_mem_cons.mpr ⟨lw_p7, List.forall_mem_cons.mpr ⟨lw_p8, List.forall_mem_cons.mpr ⟨lw_p9, List.forall_mem_cons.mpr ⟨lw_p10, List.forall_mem_cons.mpr ⟨lw_p11, List.forall_mem_cons.mpr ⟨lw_p12, List.forall_mem_cons.mpr ⟨lw_p13, List.forall_mem_cons.mpr ⟨lw_p14, List.forall_mem_cons.mpr ⟨lw_p15, fun _ h => absurd h List.not_mem_nil⟩⟩⟩⟩⟩⟩⟩⟩⟩⟩⟩⟩⟩⟩⟩⟩
theorem lw_p16 : lw_okq (⟨"OneRingModel", "isWedding", "(I)Z"⟩, 21) := ⟨⟨by decide +kernel, by decide +kernel⟩, List.mem_of_getElem? (i := 522) (by decide +kernel), List.mem_of_getElem? (i := 624) (by decide +kernel), List.mem_of_getElem? (i := 625) (by decide +kernel)⟩
theorem lw_p17 : lw_okq (⟨"OneRingModel", "beginsNow", "(II)I"⟩, 21) := ⟨⟨by decide +kernel, by decide +kernel⟩, List.mem_of_getElem? (i := 522) (by decide +kernel), List.mem_of_getElem? (i := 628) (by decide +kernel), List.mem_of_getElem? (i := 629) (by decide +kernel)⟩
theorem lw_p18 : lw_okq (⟨"OneRingModel", "begins", "(IIIII)I"⟩, 21) := ⟨⟨by decide +kernel, by decide +kernel⟩, List.mem_of_getElem? (i := 522) (by decide +kernel), List.mem_of_getElem? (i := 635) (by decide +kernel), List.mem_of_getElem? (i := 636) (by decide +kernel)⟩
theorem lw_p19 : lw_okq (⟨"OneRingModel", "wayOn", "(III)I"⟩, 21) := ⟨⟨by decide +kernel, by decide +kernel⟩, List.mem_of_getElem? (i := 522) (by decide +kernel), List.mem_of_getElem? (i := 639) (by decide +kernel), List.mem_of_getElem? (i := 640) (by decide +kernel)⟩
theorem lw_p20 : lw_okq (⟨"OneRingModel", "lasts", "(I)I"⟩, 21) := ⟨⟨by decide +kernel, by decide +kernel⟩, List.mem_of_getElem? (i := 522) (by decide +kernel), List.mem_of_getElem? (i := 643) (by decide +kernel), List.mem_of_getElem? (i := 644) (by decide +kernel)⟩
theorem lw_p21 : lw_okq (⟨"OneRingModel", "keepAct", "()V"⟩, 21) := ⟨⟨by decide +kernel, by decide +kernel⟩, List.mem_of_getElem? (i := 522) (by decide +kernel), List.mem_of_getElem? (i := 663) (by decide +kernel), List.mem_of_getElem? (i := 664) (by decide +kernel)⟩
theorem lw_p22 : lw_okq (⟨"OneRingModel", "wedOn", "(II)Z"⟩, 21) := ⟨⟨by decide +kernel, by decide +kernel⟩, List.mem_of_getElem? (i := 522) (by decide +kernel), List.mem_of_getElem? (i := 667) (by decide +kernel), List.mem_of_getElem? (i := 668) (by decide +kernel)⟩
theorem lw_p23 : lw_okq (⟨"OneRingModel", "behind", "(II)I"⟩, 21) := ⟨⟨by decide +kernel, by decide +kernel⟩, List.mem_of_getElem? (i := 522) (by decide +kernel), List.mem_of_getElem? (i := 671) (by decide +kernel), List.mem_of_getElem? (i := 672) (by decide +kernel)⟩
theorem lw_p24 : lw_okq (⟨"OneRingModel", "every", "()I"⟩, 21) := ⟨⟨by decide +kernel, by decide +kernel⟩, List.mem_of_getElem? (i := 522) (by decide +kernel), List.mem_of_getElem? (i := 696) (by decide +kernel), List.mem_of_getElem? (i := 697) (by decide +kernel)⟩
theorem lw_p25 : lw_okq (⟨"OneRingModel", "mostOn", "(II)I"⟩, 21) := ⟨⟨by decide +kernel, by decide +kernel⟩, List.mem_of_getElem? (i := 522) (by decide +kernel), List.mem_of_getElem? (i := 700) (by decide +kernel), List.mem_of_getElem? (i := 701) (by decide +kernel)⟩
theorem lw_p26 : lw_okq (⟨"OneRingModel", "noteEarlier", "(III)V"⟩, 21) := ⟨⟨by decide +kernel, by decide +kernel⟩, List.mem_of_getElem? (i := 522) (by decide +kernel), List.mem_of_getElem? (i := 704) (by decide +kernel), List.mem_of_getElem? (i := 705) (by decide +kernel)⟩
theorem lw_p27 : lw_okq (⟨"OneRingModel", "firstRow", "(I)I"⟩, 21) := ⟨⟨by decide +kernel, by decide +kernel⟩, List.mem_of_getElem? (i := 522) (by decide +kernel), List.mem_of_getElem? (i := 711) (by decide +kernel), List.mem_of_getElem? (i := 712) (by decide +kernel)⟩
theorem lw_p28 : lw_okq (⟨"OneRingModel", "goesOn", "(III)Z"⟩, 21) := ⟨⟨by decide +kernel, by decide +kernel⟩, List.mem_of_getElem? (i := 522) (by decide +kernel), List.mem_of_getElem? (i := 715) (by decide +kernel), List.mem_of_getElem? (i := 716) (by decide +kernel)⟩
theorem lw_p29 : lw_okq (⟨"OneRingModel", "layTrial", "()V"⟩, 21) := ⟨⟨by decide +kernel, by decide +kernel⟩, List.mem_of_getElem? (i := 522) (by decide +kernel), List.mem_of_getElem? (i := 719) (by decide +kernel), List.mem_of_getElem? (i := 720) (by decide +kernel)⟩
theorem lw_p30 : lw_okq (⟨"OneRingModel", "endOf", "(I)I"⟩, 21) := ⟨⟨by decide +kernel, by decide +kernel⟩, List.mem_of_getElem? (i := 522) (by decide +kernel), List.mem_of_getElem? (i := 724) (by decide +kernel), List.mem_of_getElem? (i := 725) (by decide +kernel)⟩
theorem lw_p31 : lw_okq (⟨"OneRingModel", "rowBy", "(II)I"⟩, 21) := ⟨⟨by decide +kernel, by decide +kernel⟩, List.mem_of_getElem? (i := 522) (by decide +kernel), List.mem_of_getElem? (i := 763) (by decide +kernel), List.mem_of_getElem? (i := 764) (by decide +kernel)⟩
def lw_privs_2 : List (MethodName × Nat) := [(⟨"OneRingModel", "isWedding", "(I)Z"⟩, 21), (⟨"OneRingModel", "beginsNow", "(II)I"⟩, 21), (⟨"OneRingModel", "begins", "(IIIII)I"⟩, 21), (⟨"OneRingModel", "wayOn", "(III)I"⟩, 21), (⟨"OneRingModel", "lasts", "(I)I"⟩, 21), (⟨"OneRingModel", "keepAct", "()V"⟩, 21), (⟨"OneRingModel", "wedOn", "(II)Z"⟩, 21), (⟨"OneRingModel", "behind", "(II)I"⟩, 21), (⟨"OneRingModel", "every", "()I"⟩, 21), (⟨"OneRingModel", "mostOn", "(II)I"⟩, 21), (⟨"OneRingModel", "noteEarlier", "(III)V"⟩, 21), (⟨"OneRingModel", "firstRow", "(I)I"⟩, 21), (⟨"OneRingModel", "goesOn", "(III)Z"⟩, 21), (⟨"OneRingModel", "layTrial", "()V"⟩, 21), (⟨"OneRingModel", "endOf", "(I)I"⟩, 21), (⟨"OneRingModel", "rowBy", "(II)I"⟩, 21)]
theorem lw_r2 : ∀ q ∈ lw_privs_2, lw_okq q := List.forall_mem_cons.mpr ⟨lw_p16, List.forall_mem_cons.mpr ⟨lw_p17, List.forall_mem_cons.mpr ⟨lw_p18, List.forall_mem_cons.mpr ⟨lw_p19, List.forall_mem_cons.mpr ⟨lw_p20, List.forall_mem_cons.mpr ⟨lw_p21, List.forall_mem_cons.mpr ⟨lw_p22, List.forall_mem_cons.mpr ⟨lw_p23, List.forall_mem_cons.mpr ⟨lw_p24, List.forall_mem_cons.mpr ⟨lw_p25, List.forall_mem_cons.mpr ⟨lw_p26, List.forall_mem_cons.mpr ⟨lw_p27, List.forall_mem_cons.mpr ⟨lw_p28, List.forall_mem_cons.mpr ⟨lw_p29, List.forall_mem_cons.mpr ⟨lw_p30, List.forall_mem_cons.mpr ⟨lw_p31, fun _ h => absurd h List.not_mem_nil⟩⟩⟩⟩⟩⟩⟩⟩⟩⟩⟩⟩⟩⟩⟩⟩
theorem lw_p32 : lw_okq (⟨"OneRingModel", "isSeen", "(I)Z"⟩, 21) := ⟨⟨by decide +kernel, by decide +kernel⟩, List.mem_of_getElem? (i := 522) (by decide +kernel), List.mem_of_getElem? (i := 767) (by decide +kernel), List.mem_of_getElem? (i := 768) (by decide +kernel)⟩
theorem lw_p33 : lw_okq (⟨"OneRingModel", "isRest", "(IIII)Z"⟩, 21) := ⟨⟨by decide +kernel, by decide +kernel⟩, List.mem_of_getElem? (i := 522) (by decide +kernel), List.mem_of_getElem? (i := 785) (by decide +kernel), List.mem_of_getElem? (i := 786) (by decide +kernel)⟩
theorem lw_p34 : lw_okq (⟨"OneRingModel", "gain", "(IIII)I"⟩, 21) := ⟨⟨by decide +kernel, by decide +kernel⟩, List.mem_of_getElem? (i := 522) (by decide +kernel), List.mem_of_getElem? (i := 789) (by decide +kernel), List.mem_of_getElem? (i := 790) (by decide +kernel)⟩
theorem lw_p35 : lw_okq (⟨"OneRingModel", "bringsOf", "(I)I"⟩, 21) := ⟨⟨by decide +kernel, by decide +kernel⟩, List.mem_of_getElem? (i := 522) (by decide +kernel), List.mem_of_getElem? (i := 793) (by decide +kernel), List.mem_of_getElem? (i := 794) (by decide +kernel)⟩
theorem lw_p36 : lw_okq (⟨"OneRingModel", "areOpen", "(II)Z"⟩, 21) := ⟨⟨by decide +kernel, by decide +kernel⟩, List.mem_of_getElem? (i := 522) (by decide +kernel), List.mem_of_getElem? (i := 802) (by decide +kernel), List.mem_of_getElem? (i := 803) (by decide +kernel)⟩
theorem lw_p37 : lw_okq (⟨"OneRingModel", "waysIn", "(II)I"⟩, 21) := ⟨⟨by decide +kernel, by decide +kernel⟩, List.mem_of_getElem? (i := 522) (by decide +kernel), List.mem_of_getElem? (i := 806) (by decide +kernel), List.mem_of_getElem? (i := 807) (by decide +kernel)⟩
theorem lw_p38 : lw_okq (⟨"OneRingModel", "holds", "(III)Z"⟩, 21) := ⟨⟨by decide +kernel, by decide +kernel⟩, List.mem_of_getElem? (i := 522) (by decide +kernel), List.mem_of_getElem? (i := 813) (by decide +kernel), List.mem_of_getElem? (i := 814) (by decide +kernel)⟩
def lw_privs_3 : List (MethodName × Nat) := [(⟨"OneRingModel", "isSeen", "(I)Z"⟩, 21), (⟨"OneRingModel", "isRest", "(IIII)Z"⟩, 21), (⟨"OneRingModel", "gain", "(IIII)I"⟩, 21), (⟨"OneRingModel", "bringsOf", "(I)I"⟩, 21), (⟨"OneRingModel", "areOpen", "(II)Z"⟩, 21), (⟨"OneRingModel", "waysIn", "(II)I"⟩, 21), (⟨"OneRingModel", "holds", "(III)Z"⟩, 21)]
theorem lw_r3 : ∀ q ∈ lw_privs_3, lw_okq q := List.forall_mem_cons.mpr ⟨lw_p32, List.forall_mem_cons.mpr ⟨lw_p33, List.forall_mem_cons.mpr ⟨lw_p34, List.forall_mem_cons.mpr ⟨lw_p35, List.forall_mem_cons.mpr ⟨lw_p36, List.forall_mem_cons.mpr ⟨lw_p37, List.forall_mem_cons.mpr ⟨lw_p38, fun _ h => absurd h List.not_mem_nil⟩⟩⟩⟩⟩⟩⟩
def lw_privs : List (MethodName × Nat) := lw_privs_1 ++ (lw_privs_2 ++ (lw_privs_3))
def lw_tbl : List Cond := k2_sels lw_privs ++ tables_1
theorem lw_privs_ok : ∀ q ∈ lw_privs, lw_okq q := by
  show ∀ q ∈ lw_privs_1 ++ (lw_privs_2 ++ (lw_privs_3)), lw_okq q
  exact List.forall_mem_append.mpr ⟨lw_r1, List.forall_mem_append.mpr ⟨lw_r2, lw_r3⟩⟩
def RX0 : String := "OneRing$Acts"
def TX0 : u_T := fun k => match k with
  | 0 => ("OneRing$Acts", "before", "[LOneRing$Stand;", true)
  | 1 => ("OneRing$Acts", "oldest", "I", false)
  | _ => ("OneRing$Acts", "size", "I", false)
def tyX0 : Nat → FieldType := fun k => match k with
  | 0 => .array (.object "OneRing$Stand")
  | 1 => .int
  | _ => .int
abbrev wsX00 : List Cond := u_ws RX0 TX0 3
theorem nmX0 : ∀ a, a < 3 → ∀ b, b < 3 → a ≠ b → (TX0 a).2.1 ≠ (TX0 b).2.1 := by decide +kernel
theorem tyX0_ok : ∀ k, k < 3 → parseFieldDescriptor (TX0 k).2.2.1 = some (tyX0 k) := by decide +kernel
abbrev cX0_init : ByteArray := prog_2_method_1_code
def yX0_init : MethodName := ⟨RX0, "<init>", "()V"⟩
abbrev cX0_clear : ByteArray := prog_2_method_2_code
def yX0_clear : MethodName := ⟨RX0, "clear", "()V"⟩
abbrev cX0_standAt : ByteArray := prog_2_method_3_code
def yX0_standAt : MethodName := ⟨RX0, "standAt", "(I)LOneRing$Stand;"⟩
abbrev cX0_remember : ByteArray := prog_2_method_4_code
def yX0_remember : MethodName := ⟨RX0, "remember", "(LOneRing$Stand;)V"⟩
abbrev cX0_takeBack : ByteArray := prog_2_method_5_code
def yX0_takeBack : MethodName := ⟨RX0, "takeBack", "(LOneRing$Stand;)Z"⟩
def RX1 : String := "OneRing$Parish"
def TX1 : u_T := fun k => match k with
  | 0 => ("OneRing$Parish", "figures", "[I", true)
  | 1 => ("OneRing$Parish", "lasting", "[I", true)
  | 2 => ("OneRing$Parish", "size", "I", false)
  | _ => ("OneRing$Parish", "sunset", "I", false)
def tyX1 : Nat → FieldType := fun k => match k with
  | 0 => .array .int
  | 1 => .array .int
  | 2 => .int
  | _ => .int
abbrev wsX10 : List Cond := u_ws RX1 TX1 4
theorem nmX1 : ∀ a, a < 4 → ∀ b, b < 4 → a ≠ b → (TX1 a).2.1 ≠ (TX1 b).2.1 := by decide +kernel
theorem tyX1_ok : ∀ k, k < 4 → parseFieldDescriptor (TX1 k).2.2.1 = some (tyX1 k) := by decide +kernel
abbrev cX1_init : ByteArray := prog_3_method_1_code
def yX1_init : MethodName := ⟨RX1, "<init>", "()V"⟩
abbrev cX1_readFrom : ByteArray := prog_3_method_2_code
def yX1_readFrom : MethodName := ⟨RX1, "readFrom", "(LOneRing$Text;)V"⟩
abbrev cX1_has : ByteArray := prog_3_method_3_code
def yX1_has : MethodName := ⟨RX1, "has", "(I)Z"⟩
abbrev cX1_everyone : ByteArray := prog_3_method_4_code
def yX1_everyone : MethodName := ⟨RX1, "everyone", "()I"⟩
abbrev cX1_figure : ByteArray := prog_3_method_5_code
def yX1_figure : MethodName := ⟨RX1, "figure", "(II)I"⟩
abbrev cX1_begin : ByteArray := prog_3_method_6_code
def yX1_begin : MethodName := ⟨RX1, "begin", "(III)I"⟩
abbrev cX1_ringFree : ByteArray := prog_3_method_7_code
def yX1_ringFree : MethodName := ⟨RX1, "ringFree", "(II)I"⟩
abbrev cX1_beginOn : ByteArray := prog_3_method_8_code
def yX1_beginOn : MethodName := ⟨RX1, "beginOn", "(LOneRing$Stand;I)I"⟩
abbrev cX1_celebrate : ByteArray := prog_3_method_9_code
def yX1_celebrate : MethodName := ⟨RX1, "celebrate", "(LOneRing$Stand;I)Z"⟩
def RX2 : String := "OneRing$Search"
def TX2 : u_T := fun k => match k with
  | 0 => ("OneRing$Search", "start", "LOneRing$Stand;", true)
  | 1 => ("OneRing$Search", "allowed", "[I", true)
  | 2 => ("OneRing$Search", "holding", "[I", true)
  | 3 => ("OneRing$Search", "limit", "I", false)
  | 4 => ("OneRing$Search", "longest", "I", false)
  | 5 => ("OneRing$Search", "first", "I", false)
  | 6 => ("OneRing$Search", "end", "I", false)
  | 7 => ("OneRing$Search", "found", "I", false)
  | 8 => ("OneRing$Search", "inAll", "I", false)
  | _ => ("OneRing$Search", "inAny", "I", false)
def tyX2 : Nat → FieldType := fun k => match k with
  | 0 => .object "OneRing$Stand"
  | 1 => .array .int
  | 2 => .array .int
  | 3 => .int
  | 4 => .int
  | 5 => .int
  | 6 => .int
  | 7 => .int
  | 8 => .int
  | _ => .int
abbrev wsX20 : List Cond := u_ws RX2 TX2 10
theorem nmX2 : ∀ a, a < 10 → ∀ b, b < 10 → a ≠ b → (TX2 a).2.1 ≠ (TX2 b).2.1 := by decide +kernel
theorem tyX2_ok : ∀ k, k < 10 → parseFieldDescriptor (TX2 k).2.2.1 = some (tyX2 k) := by decide +kernel
abbrev cX2_init : ByteArray := prog_4_method_1_code
def yX2_init : MethodName := ⟨RX2, "<init>", "()V"⟩
abbrev cX2_runFrom : ByteArray := prog_4_method_2_code
def yX2_runFrom : MethodName := ⟨RX2, "runFrom", "(LOneRing$Parish;LOneRing$Stand;)V"⟩
abbrev cX2_reset : ByteArray := prog_4_method_3_code
def yX2_reset : MethodName := ⟨RX2, "reset", "(LOneRing$Stand;I)V"⟩
abbrev cX2_allowOnly : ByteArray := prog_4_method_4_code
def yX2_allowOnly : MethodName := ⟨RX2, "allowOnly", "(II)V"⟩
abbrev cX2_run : ByteArray := prog_4_method_5_code
def yX2_run : MethodName := ⟨RX2, "run", "(LOneRing$Parish;)V"⟩
abbrev cX2_allows : ByteArray := prog_4_method_6_code
def yX2_allows : MethodName := ⟨RX2, "allows", "(II)Z"⟩
abbrev cX2_record : ByteArray := prog_4_method_7_code
def yX2_record : MethodName := ⟨RX2, "record", "(IIII)V"⟩
abbrev cX2_goOn : ByteArray := prog_4_method_8_code
def yX2_goOn : MethodName := ⟨RX2, "goOn", "(LOneRing$Search;LOneRing$Parish;IIIII)V"⟩
def RX3 : String := "OneRing$Stand"
def TX3 : u_T := fun k => match k with
  | 0 => ("OneRing$Stand", "roads", "[I", true)
  | 1 => ("OneRing$Stand", "hour", "I", false)
  | 2 => ("OneRing$Stand", "church", "I", false)
  | _ => ("OneRing$Stand", "wedSet", "I", false)
def tyX3 : Nat → FieldType := fun k => match k with
  | 0 => .array .int
  | 1 => .int
  | 2 => .int
  | _ => .int
abbrev wsX30 : List Cond := u_ws RX3 TX3 4
theorem nmX3 : ∀ a, a < 4 → ∀ b, b < 4 → a ≠ b → (TX3 a).2.1 ≠ (TX3 b).2.1 := by decide +kernel
theorem tyX3_ok : ∀ k, k < 4 → parseFieldDescriptor (TX3 k).2.2.1 = some (tyX3 k) := by decide +kernel
abbrev cX3_init : ByteArray := prog_5_method_1_code
def yX3_init : MethodName := ⟨RX3, "<init>", "()V"⟩
abbrev cX3_take : ByteArray := prog_5_method_2_code
def yX3_take : MethodName := ⟨RX3, "take", "(LOneRing$Stand;)V"⟩
abbrev cX3_readFrom : ByteArray := prog_5_method_3_code
def yX3_readFrom : MethodName := ⟨RX3, "readFrom", "(LOneRing$Text;)V"⟩
abbrev cX3_isWed : ByteArray := prog_5_method_4_code
def yX3_isWed : MethodName := ⟨RX3, "isWed", "(I)Z"⟩
abbrev cX3_shorten : ByteArray := prog_5_method_5_code
def yX3_shorten : MethodName := ⟨RX3, "shorten", "(I)V"⟩
abbrev cX3_hoursBetween : ByteArray := prog_5_method_6_code
def yX3_hoursBetween : MethodName := ⟨RX3, "hoursBetween", "(II)I"⟩
def RX4 : String := "OneRing$Text"
def TX4 : u_T := fun k => match k with
  | 0 => ("OneRing$Text", "letters", "[I", true)
  | _ => ("OneRing$Text", "length", "I", false)
def tyX4 : Nat → FieldType := fun k => match k with
  | 0 => .array .int
  | _ => .int
abbrev wsX40 : List Cond := u_ws RX4 TX4 2
theorem nmX4 : ∀ a, a < 2 → ∀ b, b < 2 → a ≠ b → (TX4 a).2.1 ≠ (TX4 b).2.1 := by decide +kernel
theorem tyX4_ok : ∀ k, k < 2 → parseFieldDescriptor (TX4 k).2.2.1 = some (tyX4 k) := by decide +kernel
abbrev cX4_init : ByteArray := prog_6_method_1_code
def yX4_init : MethodName := ⟨RX4, "<init>", "()V"⟩
abbrev cX4_add : ByteArray := prog_6_method_2_code
def yX4_add : MethodName := ⟨RX4, "add", "(I)Z"⟩
abbrev cX4_figure : ByteArray := prog_6_method_3_code
def yX4_figure : MethodName := ⟨RX4, "figure", "(I)I"⟩
abbrev cX4_firstFault : ByteArray := prog_6_method_4_code
def yX4_firstFault : MethodName := ⟨RX4, "firstFault", "()I"⟩
abbrev cX4_fits : ByteArray := prog_6_method_5_code
def yX4_fits : MethodName := ⟨RX4, "fits", "(I)Z"⟩
abbrev cX4_fitsWedding : ByteArray := prog_6_method_6_code
def yX4_fitsWedding : MethodName := ⟨RX4, "fitsWedding", "(I)Z"⟩
abbrev cX4_isFigure : ByteArray := prog_6_method_7_code
def yX4_isFigure : MethodName := ⟨RX4, "isFigure", "(III)Z"⟩
def RX5 : String := "OneRing"
def TX5 : u_T := fun k => match k with
  | 0 => ("OneRing", "text", "LOneRing$Text;", true)
  | 1 => ("OneRing", "told", "LOneRing$Parish;", true)
  | 2 => ("OneRing", "now", "LOneRing$Stand;", true)
  | 3 => ("OneRing", "trial", "LOneRing$Stand;", true)
  | 4 => ("OneRing", "acts", "LOneRing$Acts;", true)
  | 5 => ("OneRing", "search", "LOneRing$Search;", true)
  | 6 => ("OneRing", "kept", "[LOneRing$Stand;", true)
  | 7 => ("OneRing", "wasKept", "[Z", true)
  | 8 => ("OneRing", "seenBehind", "[I", true)
  | 9 => ("OneRing", "seenChurch", "[I", true)
  | 10 => ("OneRing", "mostOf", "[I", true)
  | 11 => ("OneRing", "seen", "I", false)
  | _ => ("OneRing", "theSeed", "J", false)
def tyX5 : Nat → FieldType := fun k => match k with
  | 0 => .object "OneRing$Text"
  | 1 => .object "OneRing$Parish"
  | 2 => .object "OneRing$Stand"
  | 3 => .object "OneRing$Stand"
  | 4 => .object "OneRing$Acts"
  | 5 => .object "OneRing$Search"
  | 6 => .array (.object "OneRing$Stand")
  | 7 => .array .boolean
  | 8 => .array .int
  | 9 => .array .int
  | 10 => .array .int
  | 11 => .int
  | _ => .long
abbrev wsX50 : List Cond := u_ws RX5 TX5 13
theorem nmX5 : ∀ a, a < 13 → ∀ b, b < 13 → a ≠ b → (TX5 a).2.1 ≠ (TX5 b).2.1 := by decide +kernel
theorem tyX5_ok : ∀ k, k < 13 → parseFieldDescriptor (TX5 k).2.2.1 = some (tyX5 k) := by decide +kernel
abbrev cX5_init : ByteArray := prog_1_method_1_code
def yX5_init : MethodName := ⟨RX5, "<init>", "()V"⟩
abbrev cX5_write : ByteArray := prog_1_method_2_code
def yX5_write : MethodName := ⟨RX5, "write", "(I)I"⟩
abbrev cX5_wipe : ByteArray := prog_1_method_3_code
def yX5_wipe : MethodName := ⟨RX5, "wipe", "()I"⟩
abbrev cX5_fault : ByteArray := prog_1_method_4_code
def yX5_fault : MethodName := ⟨RX5, "fault", "()I"⟩
abbrev cX5_parish : ByteArray := prog_1_method_5_code
def yX5_parish : MethodName := ⟨RX5, "parish", "()I"⟩
abbrev cX5_wedding : ByteArray := prog_1_method_6_code
def yX5_wedding : MethodName := ⟨RX5, "wedding", "(II)I"⟩
abbrev cX5_road : ByteArray := prog_1_method_7_code
def yX5_road : MethodName := ⟨RX5, "road", "(I)I"⟩
abbrev cX5_way : ByteArray := prog_1_method_8_code
def yX5_way : MethodName := ⟨RX5, "way", "(II)I"⟩
abbrev cX5_wed : ByteArray := prog_1_method_9_code
def yX5_wed : MethodName := ⟨RX5, "wed", "(I)I"⟩
abbrev cX5_carry : ByteArray := prog_1_method_10_code
def yX5_carry : MethodName := ⟨RX5, "carry", "(I)I"⟩
abbrev cX5_linger : ByteArray := prog_1_method_11_code
def yX5_linger : MethodName := ⟨RX5, "linger", "()I"⟩
abbrev cX5_mend : ByteArray := prog_1_method_12_code
def yX5_mend : MethodName := ⟨RX5, "mend", "(I)I"⟩
abbrev cX5_undo : ByteArray := prog_1_method_13_code
def yX5_undo : MethodName := ⟨RX5, "undo", "()I"⟩
abbrev cX5_most : ByteArray := prog_1_method_14_code
def yX5_most : MethodName := ⟨RX5, "most", "(I)I"⟩
abbrev cX5_slack : ByteArray := prog_1_method_15_code
def yX5_slack : MethodName := ⟨RX5, "slack", "()I"⟩
abbrev cX5_mending : ByteArray := prog_1_method_16_code
def yX5_mending : MethodName := ⟨RX5, "mending", "(Z)I"⟩
abbrev cX5_judge : ByteArray := prog_1_method_17_code
def yX5_judge : MethodName := ⟨RX5, "judge", "(II)I"⟩
abbrev cX5_later : ByteArray := prog_1_method_18_code
def yX5_later : MethodName := ⟨RX5, "later", "(I)I"⟩
abbrev cX5_see : ByteArray := prog_1_method_19_code
def yX5_see : MethodName := ⟨RX5, "see", "(II)I"⟩
abbrev cX5_unsee : ByteArray := prog_1_method_20_code
def yX5_unsee : MethodName := ⟨RX5, "unsee", "()I"⟩
abbrev cX5_rows : ByteArray := prog_1_method_21_code
def yX5_rows : MethodName := ⟨RX5, "rows", "(II)I"⟩
abbrev cX5_share : ByteArray := prog_1_method_22_code
def yX5_share : MethodName := ⟨RX5, "share", "(IZ)I"⟩
abbrev cX5_rests : ByteArray := prog_1_method_23_code
def yX5_rests : MethodName := ⟨RX5, "rests", "(III)I"⟩
abbrev cX5_falls : ByteArray := prog_1_method_24_code
def yX5_falls : MethodName := ⟨RX5, "falls", "(IIIZ)I"⟩
abbrev cX5_seed : ByteArray := prog_1_method_25_code
def yX5_seed : MethodName := ⟨RX5, "seed", "(J)J"⟩
abbrev cX5_summers : ByteArray := prog_1_method_26_code
def yX5_summers : MethodName := ⟨RX5, "summers", "(I)I"⟩
abbrev cX5_keep : ByteArray := prog_1_method_27_code
def yX5_keep : MethodName := ⟨RX5, "keep", "(I)I"⟩
abbrev cX5_again : ByteArray := prog_1_method_28_code
def yX5_again : MethodName := ⟨RX5, "again", "(I)I"⟩
abbrev cX5_count : ByteArray := prog_1_method_29_code
def yX5_count : MethodName := ⟨RX5, "count", "(I)I"⟩
abbrev cX5_isChurch : ByteArray := prog_1_method_30_code
def yX5_isChurch : MethodName := ⟨RX5, "isChurch", "(I)Z"⟩
abbrev cX5_isRoad : ByteArray := prog_1_method_31_code
def yX5_isRoad : MethodName := ⟨RX5, "isRoad", "(I)Z"⟩
abbrev cX5_isSlot : ByteArray := prog_1_method_32_code
def yX5_isSlot : MethodName := ⟨RX5, "isSlot", "(I)Z"⟩
abbrev cX5_at : ByteArray := prog_1_method_33_code
def yX5_at : MethodName := ⟨RX5, "at", "([II)I"⟩
abbrev cX5_isRow : ByteArray := prog_1_method_34_code
def yX5_isRow : MethodName := ⟨RX5, "isRow", "(II)Z"⟩
abbrev cX5_weddingInRow : ByteArray := prog_1_method_35_code
def yX5_weddingInRow : MethodName := ⟨RX5, "weddingInRow", "(III)I"⟩
abbrev cX5_holdingNext : ByteArray := prog_1_method_36_code
def yX5_holdingNext : MethodName := ⟨RX5, "holdingNext", "()I"⟩
abbrev cX5_mostFrom : ByteArray := prog_1_method_37_code
def yX5_mostFrom : MethodName := ⟨RX5, "mostFrom", "(LOneRing$Stand;)I"⟩
abbrev cX5_fraction : ByteArray := prog_1_method_38_code
def yX5_fraction : MethodName := ⟨RX5, "fraction", "(IIZ)I"⟩
abbrev cX5_greatestDivisor : ByteArray := prog_1_method_39_code
def yX5_greatestDivisor : MethodName := ⟨RX5, "greatestDivisor", "(II)I"⟩
abbrev cX5_fillMostOf : ByteArray := prog_1_method_40_code
def yX5_fillMostOf : MethodName := ⟨RX5, "fillMostOf", "()V"⟩
abbrev cX5_isAtRest : ByteArray := prog_1_method_41_code
def yX5_isAtRest : MethodName := ⟨RX5, "isAtRest", "(IIII)Z"⟩
abbrev cX5_gain : ByteArray := prog_1_method_42_code
def yX5_gain : MethodName := ⟨RX5, "gain", "(IIII)I"⟩
abbrev cX5_isRowOfOpenWeddings : ByteArray := prog_1_method_43_code
def yX5_isRowOfOpenWeddings : MethodName := ⟨RX5, "isRowOfOpenWeddings", "(II)Z"⟩
abbrev cX5_weightOfFalls : ByteArray := prog_1_method_44_code
def yX5_weightOfFalls : MethodName := ⟨RX5, "weightOfFalls", "(IIII)I"⟩
abbrev cX5_holdsWithFalls : ByteArray := prog_1_method_45_code
def yX5_holdsWithFalls : MethodName := ⟨RX5, "holdsWithFalls", "(III)Z"⟩
def RX6 : String := "OneRingModel"
def TX6 : u_T := fun k => match k with
  | 0 => ("OneRingModel", "weddings", "I", false)
  | 1 => ("OneRingModel", "sunset", "I", false)
  | 2 => ("OneRingModel", "church", "[I", true)
  | 3 => ("OneRingModel", "from", "[I", true)
  | 4 => ("OneRingModel", "upTo", "[I", true)
  | 5 => ("OneRingModel", "hours", "[I", true)
  | 6 => ("OneRingModel", "kind", "[I", true)
  | 7 => ("OneRingModel", "now", "[I", true)
  | 8 => ("OneRingModel", "text", "[I", true)
  | 9 => ("OneRingModel", "length", "I", false)
  | 10 => ("OneRingModel", "acts", "I", false)
  | 11 => ("OneRingModel", "next", "I", false)
  | 12 => ("OneRingModel", "row", "[I", true)
  | 13 => ("OneRingModel", "earliest", "[I", true)
  | 14 => ("OneRingModel", "seen", "I", false)
  | 15 => ("OneRingModel", "seenBehind", "[I", true)
  | 16 => ("OneRingModel", "seenIn", "[I", true)
  | 17 => ("OneRingModel", "mosts", "[I", true)
  | 18 => ("OneRingModel", "seed", "J", false)
  | 19 => ("OneRingModel", "isKept", "[Z", true)
  | _ => ("OneRingModel", "kept", "[I", true)
def tyX6 : Nat → FieldType := fun k => match k with
  | 0 => .int
  | 1 => .int
  | 2 => .array .int
  | 3 => .array .int
  | 4 => .array .int
  | 5 => .array .int
  | 6 => .array .int
  | 7 => .array .int
  | 8 => .array .int
  | 9 => .int
  | 10 => .int
  | 11 => .int
  | 12 => .array .int
  | 13 => .array .int
  | 14 => .int
  | 15 => .array .int
  | 16 => .array .int
  | 17 => .array .int
  | 18 => .long
  | 19 => .array .boolean
  | _ => .array .int
abbrev wsX60 : List Cond := u_ws RX6 TX6 21
theorem nmX6 : ∀ a, a < 21 → ∀ b, b < 21 → a ≠ b → (TX6 a).2.1 ≠ (TX6 b).2.1 := by decide +kernel
theorem tyX6_ok : ∀ k, k < 21 → parseFieldDescriptor (TX6 k).2.2.1 = some (tyX6 k) := by decide +kernel
abbrev cX6_init : ByteArray := prog_8_method_1_code
def yX6_init : MethodName := ⟨RX6, "<init>", "()V"⟩
abbrev cX6_in : ByteArray := prog_8_method_3_code
def yX6_in : MethodName := ⟨RX6, "in", "(JJJ)Z"⟩
abbrev cX6_has : ByteArray := prog_8_method_4_code
def yX6_has : MethodName := ⟨RX6, "has", "(II)Z"⟩
abbrev cX6_ones : ByteArray := prog_8_method_5_code
def yX6_ones : MethodName := ⟨RX6, "ones", "(I)I"⟩
abbrev cX6_write : ByteArray := prog_8_method_6_code
def yX6_write : MethodName := ⟨RX6, "write", "(I)I"⟩
abbrev cX6_wipe : ByteArray := prog_8_method_7_code
def yX6_wipe : MethodName := ⟨RX6, "wipe", "()I"⟩
abbrev cX6_mayBe : ByteArray := prog_8_method_8_code
def yX6_mayBe : MethodName := ⟨RX6, "mayBe", "(I)Z"⟩
abbrev cX6_fault : ByteArray := prog_8_method_9_code
def yX6_fault : MethodName := ⟨RX6, "fault", "()I"⟩
abbrev cX6_parish : ByteArray := prog_8_method_10_code
def yX6_parish : MethodName := ⟨RX6, "parish", "()I"⟩
abbrev cX6_isWedding : ByteArray := prog_8_method_11_code
def yX6_isWedding : MethodName := ⟨RX6, "isWedding", "(I)Z"⟩
abbrev cX6_isChurch : ByteArray := prog_8_method_12_code
def yX6_isChurch : MethodName := ⟨RX6, "isChurch", "(I)Z"⟩
abbrev cX6_every : ByteArray := prog_8_method_13_code
def yX6_every : MethodName := ⟨RX6, "every", "()I"⟩
abbrev cX6_wayOn : ByteArray := prog_8_method_14_code
def yX6_wayOn : MethodName := ⟨RX6, "wayOn", "(III)I"⟩
abbrev cX6_begins : ByteArray := prog_8_method_15_code
def yX6_begins : MethodName := ⟨RX6, "begins", "(IIIII)I"⟩
abbrev cX6_lasts : ByteArray := prog_8_method_16_code
def yX6_lasts : MethodName := ⟨RX6, "lasts", "(I)I"⟩
abbrev cX6_behind : ByteArray := prog_8_method_17_code
def yX6_behind : MethodName := ⟨RX6, "behind", "(II)I"⟩
abbrev cX6_beginsNow : ByteArray := prog_8_method_18_code
def yX6_beginsNow : MethodName := ⟨RX6, "beginsNow", "(II)I"⟩
abbrev cX6_wedOn : ByteArray := prog_8_method_19_code
def yX6_wedOn : MethodName := ⟨RX6, "wedOn", "(II)Z"⟩
abbrev cX6_wedding : ByteArray := prog_8_method_20_code
def yX6_wedding : MethodName := ⟨RX6, "wedding", "(II)I"⟩
abbrev cX6_road : ByteArray := prog_8_method_21_code
def yX6_road : MethodName := ⟨RX6, "road", "(I)I"⟩
abbrev cX6_way : ByteArray := prog_8_method_22_code
def yX6_way : MethodName := ⟨RX6, "way", "(II)I"⟩
abbrev cX6_keepAct : ByteArray := prog_8_method_23_code
def yX6_keepAct : MethodName := ⟨RX6, "keepAct", "()V"⟩
abbrev cX6_wed : ByteArray := prog_8_method_24_code
def yX6_wed : MethodName := ⟨RX6, "wed", "(I)I"⟩
abbrev cX6_carry : ByteArray := prog_8_method_25_code
def yX6_carry : MethodName := ⟨RX6, "carry", "(I)I"⟩
abbrev cX6_linger : ByteArray := prog_8_method_26_code
def yX6_linger : MethodName := ⟨RX6, "linger", "()I"⟩
abbrev cX6_mend : ByteArray := prog_8_method_27_code
def yX6_mend : MethodName := ⟨RX6, "mend", "(I)I"⟩
abbrev cX6_undo : ByteArray := prog_8_method_28_code
def yX6_undo : MethodName := ⟨RX6, "undo", "()I"⟩
abbrev cX6_noteEarlier : ByteArray := prog_8_method_29_code
def yX6_noteEarlier : MethodName := ⟨RX6, "noteEarlier", "(III)V"⟩
abbrev cX6_mostOn : ByteArray := prog_8_method_30_code
def yX6_mostOn : MethodName := ⟨RX6, "mostOn", "(II)I"⟩
abbrev cX6_endOf : ByteArray := prog_8_method_31_code
def yX6_endOf : MethodName := ⟨RX6, "endOf", "(I)I"⟩
abbrev cX6_layTrial : ByteArray := prog_8_method_32_code
def yX6_layTrial : MethodName := ⟨RX6, "layTrial", "()V"⟩
abbrev cX6_firstRow : ByteArray := prog_8_method_33_code
def yX6_firstRow : MethodName := ⟨RX6, "firstRow", "(I)I"⟩
abbrev cX6_goesOn : ByteArray := prog_8_method_34_code
def yX6_goesOn : MethodName := ⟨RX6, "goesOn", "(III)Z"⟩
abbrev cX6_most : ByteArray := prog_8_method_35_code
def yX6_most : MethodName := ⟨RX6, "most", "(I)I"⟩
abbrev cX6_slack : ByteArray := prog_8_method_36_code
def yX6_slack : MethodName := ⟨RX6, "slack", "()I"⟩
abbrev cX6_mending : ByteArray := prog_8_method_37_code
def yX6_mending : MethodName := ⟨RX6, "mending", "(Z)I"⟩
abbrev cX6_tenTo : ByteArray := prog_8_method_38_code
def yX6_tenTo : MethodName := ⟨RX6, "tenTo", "(I)I"⟩
abbrev cX6_judge : ByteArray := prog_8_method_39_code
def yX6_judge : MethodName := ⟨RX6, "judge", "(II)I"⟩
abbrev cX6_later : ByteArray := prog_8_method_40_code
def yX6_later : MethodName := ⟨RX6, "later", "(I)I"⟩
abbrev cX6_see : ByteArray := prog_8_method_41_code
def yX6_see : MethodName := ⟨RX6, "see", "(II)I"⟩
abbrev cX6_unsee : ByteArray := prog_8_method_42_code
def yX6_unsee : MethodName := ⟨RX6, "unsee", "()I"⟩
abbrev cX6_isSeen : ByteArray := prog_8_method_43_code
def yX6_isSeen : MethodName := ⟨RX6, "isSeen", "(I)Z"⟩
abbrev cX6_rowsOf : ByteArray := prog_8_method_44_code
def yX6_rowsOf : MethodName := ⟨RX6, "rowsOf", "(II)I"⟩
abbrev cX6_rowBy : ByteArray := prog_8_method_45_code
def yX6_rowBy : MethodName := ⟨RX6, "rowBy", "(II)I"⟩
abbrev cX6_rows : ByteArray := prog_8_method_46_code
def yX6_rows : MethodName := ⟨RX6, "rows", "(II)I"⟩
abbrev cX6_factorial : ByteArray := prog_8_method_47_code
def yX6_factorial : MethodName := ⟨RX6, "factorial", "(I)I"⟩
abbrev cX6_common : ByteArray := prog_8_method_48_code
def yX6_common : MethodName := ⟨RX6, "common", "(II)I"⟩
abbrev cX6_share : ByteArray := prog_8_method_49_code
def yX6_share : MethodName := ⟨RX6, "share", "(IZ)I"⟩
abbrev cX6_bringsOf : ByteArray := prog_8_method_50_code
def yX6_bringsOf : MethodName := ⟨RX6, "bringsOf", "(I)I"⟩
abbrev cX6_gain : ByteArray := prog_8_method_51_code
def yX6_gain : MethodName := ⟨RX6, "gain", "(IIII)I"⟩
abbrev cX6_isRest : ByteArray := prog_8_method_52_code
def yX6_isRest : MethodName := ⟨RX6, "isRest", "(IIII)Z"⟩
abbrev cX6_rests : ByteArray := prog_8_method_53_code
def yX6_rests : MethodName := ⟨RX6, "rests", "(III)I"⟩
abbrev cX6_areOpen : ByteArray := prog_8_method_54_code
def yX6_areOpen : MethodName := ⟨RX6, "areOpen", "(II)Z"⟩
abbrev cX6_holds : ByteArray := prog_8_method_55_code
def yX6_holds : MethodName := ⟨RX6, "holds", "(III)Z"⟩
abbrev cX6_waysIn : ByteArray := prog_8_method_56_code
def yX6_waysIn : MethodName := ⟨RX6, "waysIn", "(II)I"⟩
abbrev cX6_power : ByteArray := prog_8_method_57_code
def yX6_power : MethodName := ⟨RX6, "power", "(II)I"⟩
abbrev cX6_falls : ByteArray := prog_8_method_58_code
def yX6_falls : MethodName := ⟨RX6, "falls", "(IIIZ)I"⟩
abbrev cX6_seed : ByteArray := prog_8_method_59_code
def yX6_seed : MethodName := ⟨RX6, "seed", "(J)J"⟩
abbrev cX6_summers : ByteArray := prog_8_method_60_code
def yX6_summers : MethodName := ⟨RX6, "summers", "(I)I"⟩
abbrev cX6_keep : ByteArray := prog_8_method_61_code
def yX6_keep : MethodName := ⟨RX6, "keep", "(I)I"⟩
abbrev cX6_again : ByteArray := prog_8_method_62_code
def yX6_again : MethodName := ⟨RX6, "again", "(I)I"⟩
abbrev cX6_count : ByteArray := prog_8_method_63_code
def yX6_count : MethodName := ⟨RX6, "count", "(I)I"⟩
def RJ6 : String := "java/lang/Integer"
abbrev cJ6_bitCount_0f7a4 : ByteArray := prog_9_method_49_code
def yJ6_bitCount_0f7a4 : MethodName := ⟨RJ6, "bitCount", "(I)I"⟩
def RJ9 : String := "java/lang/Math"
abbrev cJ9_max_7cf53 : ByteArray := prog_10_method_65_code
def yJ9_max_7cf53 : MethodName := ⟨RJ9, "max", "(II)I"⟩
abbrev cJ9_min_7cf53 : ByteArray := prog_10_method_69_code
def yJ9_min_7cf53 : MethodName := ⟨RJ9, "min", "(II)I"⟩
def RL : String := "OneRingLaw"
abbrev cL_law : ByteArray := code
def yL_law : MethodName := ⟨RL, "law", "([I)Z"⟩
abbrev vwCl : List vw_C := [(RX0, TX0, 3), (RX1, TX1, 4), (RX2, TX2, 10), (RX3, TX3, 4), (RX4, TX4, 2), (RX5, TX5, 13), (RX6, TX6, 21)]
abbrev TT : List Cond := lw_tbl.filter goodWord
theorem tt_goodIn : GoodIn TT TT := fun w hw => ⟨hw, good_of_word (List.mem_filter.mp hw).2⟩
theorem tt_1 {w : Cond} (i : Nat) (h : tables_1_1[i]? = some w) (hg : goodWord w = true) : w ∈ TT := List.mem_filter.mpr ⟨List.mem_append_right _ (by unfold tables_1; exact List.mem_append_left _ (List.mem_of_getElem? h)), hg⟩
theorem tt_2 {w : Cond} (i : Nat) (h : tables_1_2[i]? = some w) (hg : goodWord w = true) : w ∈ TT := List.mem_filter.mpr ⟨List.mem_append_right _ (by unfold tables_1; exact List.mem_append_right _ (List.mem_append_left _ (List.mem_of_getElem? h))), hg⟩
theorem tt_3 {w : Cond} (i : Nat) (h : tables_1_3[i]? = some w) (hg : goodWord w = true) : w ∈ TT := List.mem_filter.mpr ⟨List.mem_append_right _ (by unfold tables_1; exact List.mem_append_right _ (List.mem_append_right _ (List.mem_append_left _ (List.mem_of_getElem? h)))), hg⟩
theorem tt_4 {w : Cond} (i : Nat) (h : tables_1_4[i]? = some w) (hg : goodWord w = true) : w ∈ TT := List.mem_filter.mpr ⟨List.mem_append_right _ (by unfold tables_1; exact List.mem_append_right _ (List.mem_append_right _ (List.mem_append_right _ (List.mem_of_getElem? h)))), hg⟩
theorem tt_p {y : MethodName} {n : Nat} (h : (y, n) ∈ lw_privs) (hg : goodWord (Cond.selects y.cls y y) = true) : Cond.selects y.cls y y ∈ TT := List.mem_filter.mpr ⟨List.mem_append_left _ (List.mem_map.mpr ⟨_, h, rfl⟩), hg⟩
theorem tw_0_0 : (Jvm.Cond.initialized "OneRingLaw") ∈ TT := tt_1 0 rfl rfl
theorem tw_0_1 : (Jvm.Cond.initialized "OneRing") ∈ TT := tt_1 1 rfl rfl
theorem tw_0_2 : (Jvm.Cond.initialized "OneRing$Text") ∈ TT := tt_1 2 rfl rfl
theorem tw_0_3 : (Jvm.Cond.initialized "OneRing$Parish") ∈ TT := tt_1 3 rfl rfl
theorem tw_0_4 : (Jvm.Cond.initialized "OneRing$Stand") ∈ TT := tt_1 4 rfl rfl
theorem tw_0_5 : (Jvm.Cond.initialized "OneRing$Acts") ∈ TT := tt_1 5 rfl rfl
theorem tw_0_6 : (Jvm.Cond.initialized "OneRing$Search") ∈ TT := tt_1 6 rfl rfl
theorem tw_0_7 : (Jvm.Cond.initialized "OneRingModel") ∈ TT := tt_1 7 rfl rfl
theorem tw_0_8 : (Jvm.Cond.initialized "java/lang/Math") ∈ TT := tt_1 8 rfl rfl
theorem tw_0_9 : (Jvm.Cond.initialized "java/lang/Integer") ∈ TT := tt_1 9 rfl rfl
theorem tw_0_10 : (Jvm.Cond.classLink "OneRingLaw" (7 : Nat) "OneRing") ∈ TT := tt_1 10 rfl rfl
theorem tw_0_11 : (Jvm.Cond.instantiable "OneRing" (13 : Nat)) ∈ TT := tt_1 11 rfl rfl
theorem tw_0_12 : (Jvm.Cond.methodLink "OneRingLaw" (9 : Nat) ({ cls := "OneRing", name := "<init>", desc := "()V" } : Jvm.MethodName)) ∈ TT := tt_1 12 rfl rfl
theorem tw_0_13 : (Jvm.Cond.instanceMethod ({ cls := "OneRing", name := "<init>", desc := "()V" } : Jvm.MethodName)) ∈ TT := tt_1 13 rfl rfl
theorem tw_0_14 : (Jvm.Cond.code ({ cls := "OneRing", name := "<init>", desc := "()V" } : Jvm.MethodName) prog_1_method_1_code (2 : Nat) (Option.none : Option Jvm.ClassFile.FieldType)) ∈ TT := tt_1 14 rfl rfl
theorem tw_0_15 : (Jvm.Cond.methodLink "OneRing" (1 : Nat) ({ cls := "java/lang/Object", name := "<init>", desc := "()V" } : Jvm.MethodName)) ∈ TT := tt_1 15 rfl rfl
theorem tw_0_16 : (Jvm.Cond.instanceMethod ({ cls := "java/lang/Object", name := "<init>", desc := "()V" } : Jvm.MethodName)) ∈ TT := tt_1 16 rfl rfl
theorem tw_0_17 : (Jvm.Cond.code ({ cls := "java/lang/Object", name := "<init>", desc := "()V" } : Jvm.MethodName) object_method_1_code (1 : Nat) (Option.none : Option Jvm.ClassFile.FieldType)) ∈ TT := tt_1 17 rfl rfl
theorem tw_0_18 : (Jvm.Cond.classLink "OneRing" (7 : Nat) "OneRing$Text") ∈ TT := tt_1 18 rfl rfl
theorem tw_0_19 : (Jvm.Cond.instantiable "OneRing$Text" (2 : Nat)) ∈ TT := tt_1 19 rfl rfl
theorem tw_0_21 : (Jvm.Cond.instanceMethod ({ cls := "OneRing$Text", name := "<init>", desc := "()V" } : Jvm.MethodName)) ∈ TT := tt_1 21 rfl rfl
theorem tw_0_22 : (Jvm.Cond.code ({ cls := "OneRing$Text", name := "<init>", desc := "()V" } : Jvm.MethodName) prog_6_method_1_code (1 : Nat) (Option.none : Option Jvm.ClassFile.FieldType)) ∈ TT := tt_1 22 rfl rfl
theorem tw_0_23 : (Jvm.Cond.methodLink "OneRing$Text" (3 : Nat) ({ cls := "java/lang/Object", name := "<init>", desc := "()V" } : Jvm.MethodName)) ∈ TT := tt_1 23 rfl rfl
theorem tw_0_24 : (Jvm.Cond.fieldLink "OneRing$Text" (9 : Nat) "OneRing$Text" "letters" "[I") ∈ TT := tt_1 24 rfl rfl
theorem tw_0_25 : (Jvm.Cond.fieldLink "OneRing$Text" (15 : Nat) "OneRing$Text" "length" "I") ∈ TT := tt_1 25 rfl rfl
theorem tw_0_26 : (Jvm.Cond.fieldLink "OneRing$Parish" (31 : Nat) "OneRing$Text" "length" "I") ∈ TT := tt_1 26 rfl rfl
theorem tw_0_27 : (Jvm.Cond.fieldLink "OneRing" (77 : Nat) "OneRing$Text" "length" "I") ∈ TT := tt_1 27 rfl rfl
theorem tw_0_28 : (Jvm.Cond.laysFinal "OneRing$Text" "OneRing$Text" "letters" "[I") ∈ TT := tt_1 28 rfl rfl
theorem tw_0_30 : (Jvm.Cond.lays "OneRing$Text" "OneRing$Text" "length" "I") ∈ TT := tt_1 30 rfl rfl
theorem tw_0_33 : (Jvm.Cond.arrayClass Jvm.ClassFile.FieldType.int) ∈ TT := tt_1 33 rfl rfl
theorem tw_0_34 : (Jvm.Cond.classLink "OneRing" (16 : Nat) "OneRing$Parish") ∈ TT := tt_1 34 rfl rfl
theorem tw_0_35 : (Jvm.Cond.instantiable "OneRing$Parish" (4 : Nat)) ∈ TT := tt_1 35 rfl rfl
theorem tw_0_37 : (Jvm.Cond.instanceMethod ({ cls := "OneRing$Parish", name := "<init>", desc := "()V" } : Jvm.MethodName)) ∈ TT := tt_1 37 rfl rfl
theorem tw_0_38 : (Jvm.Cond.code ({ cls := "OneRing$Parish", name := "<init>", desc := "()V" } : Jvm.MethodName) prog_3_method_1_code (1 : Nat) (Option.none : Option Jvm.ClassFile.FieldType)) ∈ TT := tt_1 38 rfl rfl
theorem tw_0_39 : (Jvm.Cond.methodLink "OneRing$Parish" (3 : Nat) ({ cls := "java/lang/Object", name := "<init>", desc := "()V" } : Jvm.MethodName)) ∈ TT := tt_1 39 rfl rfl
theorem tw_0_40 : (Jvm.Cond.fieldLink "OneRing$Parish" (9 : Nat) "OneRing$Parish" "figures" "[I") ∈ TT := tt_1 40 rfl rfl
theorem tw_0_41 : (Jvm.Cond.fieldLink "OneRing$Parish" (15 : Nat) "OneRing$Parish" "lasting" "[I") ∈ TT := tt_1 41 rfl rfl
theorem tw_0_42 : (Jvm.Cond.fieldLink "OneRing$Parish" (18 : Nat) "OneRing$Parish" "size" "I") ∈ TT := tt_1 42 rfl rfl
theorem tw_0_43 : (Jvm.Cond.fieldLink "OneRing" (92 : Nat) "OneRing$Parish" "size" "I") ∈ TT := tt_1 43 rfl rfl
theorem tw_0_44 : (Jvm.Cond.fieldLink "OneRing$Search" (87 : Nat) "OneRing$Parish" "size" "I") ∈ TT := tt_1 44 rfl rfl
theorem tw_0_45 : (Jvm.Cond.fieldLink "OneRing$Parish" (22 : Nat) "OneRing$Parish" "sunset" "I") ∈ TT := tt_1 45 rfl rfl
theorem tw_0_46 : (Jvm.Cond.fieldLink "OneRing" (247 : Nat) "OneRing$Parish" "sunset" "I") ∈ TT := tt_1 46 rfl rfl
theorem tw_0_47 : (Jvm.Cond.laysFinal "OneRing$Parish" "OneRing$Parish" "figures" "[I") ∈ TT := tt_1 47 rfl rfl
theorem tw_0_49 : (Jvm.Cond.laysFinal "OneRing$Parish" "OneRing$Parish" "lasting" "[I") ∈ TT := tt_1 49 rfl rfl
theorem tw_0_51 : (Jvm.Cond.lays "OneRing$Parish" "OneRing$Parish" "size" "I") ∈ TT := tt_1 51 rfl rfl
theorem tw_0_53 : (Jvm.Cond.lays "OneRing$Parish" "OneRing$Parish" "sunset" "I") ∈ TT := tt_1 53 rfl rfl
theorem tw_0_56 : (Jvm.Cond.classLink "OneRing" (23 : Nat) "OneRing$Stand") ∈ TT := tt_1 56 rfl rfl
theorem tw_0_57 : (Jvm.Cond.instantiable "OneRing$Stand" (4 : Nat)) ∈ TT := tt_1 57 rfl rfl
theorem tw_0_59 : (Jvm.Cond.instanceMethod ({ cls := "OneRing$Stand", name := "<init>", desc := "()V" } : Jvm.MethodName)) ∈ TT := tt_1 59 rfl rfl
theorem tw_0_60 : (Jvm.Cond.code ({ cls := "OneRing$Stand", name := "<init>", desc := "()V" } : Jvm.MethodName) prog_5_method_1_code (1 : Nat) (Option.none : Option Jvm.ClassFile.FieldType)) ∈ TT := tt_1 60 rfl rfl
theorem tw_0_61 : (Jvm.Cond.methodLink "OneRing$Stand" (3 : Nat) ({ cls := "java/lang/Object", name := "<init>", desc := "()V" } : Jvm.MethodName)) ∈ TT := tt_1 61 rfl rfl
theorem tw_0_62 : (Jvm.Cond.fieldLink "OneRing$Stand" (9 : Nat) "OneRing$Stand" "roads" "[I") ∈ TT := tt_1 62 rfl rfl
theorem tw_0_63 : (Jvm.Cond.fieldLink "OneRing" (112 : Nat) "OneRing$Stand" "roads" "[I") ∈ TT := tt_1 63 rfl rfl
theorem tw_0_64 : (Jvm.Cond.fieldLink "OneRing$Stand" (15 : Nat) "OneRing$Stand" "hour" "I") ∈ TT := tt_1 64 rfl rfl
theorem tw_0_65 : (Jvm.Cond.fieldLink "OneRing$Search" (59 : Nat) "OneRing$Stand" "hour" "I") ∈ TT := tt_1 65 rfl rfl
theorem tw_0_66 : (Jvm.Cond.fieldLink "OneRing$Parish" (55 : Nat) "OneRing$Stand" "hour" "I") ∈ TT := tt_1 66 rfl rfl
theorem tw_0_67 : (Jvm.Cond.fieldLink "OneRing" (133 : Nat) "OneRing$Stand" "hour" "I") ∈ TT := tt_1 67 rfl rfl
theorem tw_0_68 : (Jvm.Cond.fieldLink "OneRing$Stand" (19 : Nat) "OneRing$Stand" "church" "I") ∈ TT := tt_1 68 rfl rfl
theorem tw_0_69 : (Jvm.Cond.fieldLink "OneRing$Search" (62 : Nat) "OneRing$Stand" "church" "I") ∈ TT := tt_1 69 rfl rfl
theorem tw_0_70 : (Jvm.Cond.fieldLink "OneRing$Parish" (58 : Nat) "OneRing$Stand" "church" "I") ∈ TT := tt_1 70 rfl rfl
theorem tw_0_71 : (Jvm.Cond.fieldLink "OneRing" (136 : Nat) "OneRing$Stand" "church" "I") ∈ TT := tt_1 71 rfl rfl
theorem tw_0_72 : (Jvm.Cond.fieldLink "OneRing$Stand" (22 : Nat) "OneRing$Stand" "wedSet" "I") ∈ TT := tt_1 72 rfl rfl
theorem tw_0_73 : (Jvm.Cond.fieldLink "OneRing$Search" (95 : Nat) "OneRing$Stand" "wedSet" "I") ∈ TT := tt_1 73 rfl rfl
theorem tw_0_74 : (Jvm.Cond.fieldLink "OneRing$Parish" (75 : Nat) "OneRing$Stand" "wedSet" "I") ∈ TT := tt_1 74 rfl rfl
theorem tw_0_75 : (Jvm.Cond.fieldLink "OneRing" (210 : Nat) "OneRing$Stand" "wedSet" "I") ∈ TT := tt_1 75 rfl rfl
theorem tw_0_76 : (Jvm.Cond.laysFinal "OneRing$Stand" "OneRing$Stand" "roads" "[I") ∈ TT := tt_1 76 rfl rfl
theorem tw_0_78 : (Jvm.Cond.lays "OneRing$Stand" "OneRing$Stand" "hour" "I") ∈ TT := tt_1 78 rfl rfl
theorem tw_0_80 : (Jvm.Cond.lays "OneRing$Stand" "OneRing$Stand" "church" "I") ∈ TT := tt_1 80 rfl rfl
theorem tw_0_82 : (Jvm.Cond.lays "OneRing$Stand" "OneRing$Stand" "wedSet" "I") ∈ TT := tt_1 82 rfl rfl
theorem tw_0_85 : (Jvm.Cond.classLink "OneRing" (33 : Nat) "OneRing$Acts") ∈ TT := tt_1 85 rfl rfl
theorem tw_0_86 : (Jvm.Cond.instantiable "OneRing$Acts" (3 : Nat)) ∈ TT := tt_1 86 rfl rfl
theorem tw_0_87 : (Jvm.Cond.methodLink "OneRing" (35 : Nat) ({ cls := "OneRing$Acts", name := "<init>", desc := "()V" } : Jvm.MethodName)) ∈ TT := tt_1 87 rfl rfl
theorem tw_0_88 : (Jvm.Cond.instanceMethod ({ cls := "OneRing$Acts", name := "<init>", desc := "()V" } : Jvm.MethodName)) ∈ TT := tt_1 88 rfl rfl
theorem tw_0_89 : (Jvm.Cond.code ({ cls := "OneRing$Acts", name := "<init>", desc := "()V" } : Jvm.MethodName) prog_2_method_1_code (2 : Nat) (Option.none : Option Jvm.ClassFile.FieldType)) ∈ TT := tt_1 89 rfl rfl
theorem tw_0_90 : (Jvm.Cond.methodLink "OneRing$Acts" (3 : Nat) ({ cls := "java/lang/Object", name := "<init>", desc := "()V" } : Jvm.MethodName)) ∈ TT := tt_1 90 rfl rfl
theorem tw_0_91 : (Jvm.Cond.classLink "OneRing$Acts" (9 : Nat) "OneRing$Stand") ∈ TT := tt_1 91 rfl rfl
theorem tw_0_94 : (Jvm.Cond.fieldLink "OneRing$Acts" (11 : Nat) "OneRing$Acts" "before" "[LOneRing$Stand;") ∈ TT := tt_1 94 rfl rfl
theorem tw_0_95 : (Jvm.Cond.fieldLink "OneRing$Acts" (17 : Nat) "OneRing$Acts" "oldest" "I") ∈ TT := tt_1 95 rfl rfl
theorem tw_0_96 : (Jvm.Cond.fieldLink "OneRing$Acts" (21 : Nat) "OneRing$Acts" "size" "I") ∈ TT := tt_1 96 rfl rfl
theorem tw_0_97 : (Jvm.Cond.fieldLink "OneRing" (147 : Nat) "OneRing$Acts" "size" "I") ∈ TT := tt_1 97 rfl rfl
theorem tw_0_98 : (Jvm.Cond.laysFinal "OneRing$Acts" "OneRing$Acts" "before" "[LOneRing$Stand;") ∈ TT := tt_1 98 rfl rfl
theorem tw_0_100 : (Jvm.Cond.lays "OneRing$Acts" "OneRing$Acts" "oldest" "I") ∈ TT := tt_1 100 rfl rfl
theorem tw_0_102 : (Jvm.Cond.lays "OneRing$Acts" "OneRing$Acts" "size" "I") ∈ TT := tt_1 102 rfl rfl
theorem tw_0_105 : (Jvm.Cond.classLink "OneRing" (40 : Nat) "OneRing$Search") ∈ TT := tt_1 105 rfl rfl
theorem tw_0_106 : (Jvm.Cond.instantiable "OneRing$Search" (10 : Nat)) ∈ TT := tt_1 106 rfl rfl
theorem tw_0_108 : (Jvm.Cond.instanceMethod ({ cls := "OneRing$Search", name := "<init>", desc := "()V" } : Jvm.MethodName)) ∈ TT := tt_1 108 rfl rfl
theorem tw_0_109 : (Jvm.Cond.code ({ cls := "OneRing$Search", name := "<init>", desc := "()V" } : Jvm.MethodName) prog_4_method_1_code (1 : Nat) (Option.none : Option Jvm.ClassFile.FieldType)) ∈ TT := tt_1 109 rfl rfl
theorem tw_0_110 : (Jvm.Cond.methodLink "OneRing$Search" (3 : Nat) ({ cls := "java/lang/Object", name := "<init>", desc := "()V" } : Jvm.MethodName)) ∈ TT := tt_1 110 rfl rfl
theorem tw_0_111 : (Jvm.Cond.classLink "OneRing$Search" (9 : Nat) "OneRing$Stand") ∈ TT := tt_1 111 rfl rfl
theorem tw_0_113 : (Jvm.Cond.fieldLink "OneRing$Search" (12 : Nat) "OneRing$Search" "start" "LOneRing$Stand;") ∈ TT := tt_1 113 rfl rfl
theorem tw_0_114 : (Jvm.Cond.fieldLink "OneRing$Search" (18 : Nat) "OneRing$Search" "allowed" "[I") ∈ TT := tt_1 114 rfl rfl
theorem tw_0_115 : (Jvm.Cond.fieldLink "OneRing$Search" (22 : Nat) "OneRing$Search" "holding" "[I") ∈ TT := tt_1 115 rfl rfl
theorem tw_0_116 : (Jvm.Cond.fieldLink "OneRing" (256 : Nat) "OneRing$Search" "holding" "[I") ∈ TT := tt_1 116 rfl rfl
theorem tw_0_117 : (Jvm.Cond.fieldLink "OneRing$Search" (25 : Nat) "OneRing$Search" "limit" "I") ∈ TT := tt_1 117 rfl rfl
theorem tw_0_118 : (Jvm.Cond.fieldLink "OneRing$Search" (29 : Nat) "OneRing$Search" "longest" "I") ∈ TT := tt_1 118 rfl rfl
theorem tw_0_119 : (Jvm.Cond.fieldLink "OneRing" (152 : Nat) "OneRing$Search" "longest" "I") ∈ TT := tt_1 119 rfl rfl
theorem tw_0_120 : (Jvm.Cond.fieldLink "OneRing$Search" (32 : Nat) "OneRing$Search" "first" "I") ∈ TT := tt_1 120 rfl rfl
theorem tw_0_121 : (Jvm.Cond.fieldLink "OneRing" (155 : Nat) "OneRing$Search" "first" "I") ∈ TT := tt_1 121 rfl rfl
theorem tw_0_122 : (Jvm.Cond.fieldLink "OneRing$Search" (35 : Nat) "OneRing$Search" "end" "I") ∈ TT := tt_1 122 rfl rfl
theorem tw_0_123 : (Jvm.Cond.fieldLink "OneRing" (158 : Nat) "OneRing$Search" "end" "I") ∈ TT := tt_1 123 rfl rfl
theorem tw_0_124 : (Jvm.Cond.fieldLink "OneRing$Search" (38 : Nat) "OneRing$Search" "found" "I") ∈ TT := tt_1 124 rfl rfl
theorem tw_0_125 : (Jvm.Cond.fieldLink "OneRing" (191 : Nat) "OneRing$Search" "found" "I") ∈ TT := tt_1 125 rfl rfl
theorem tw_0_126 : (Jvm.Cond.fieldLink "OneRing$Search" (41 : Nat) "OneRing$Search" "inAll" "I") ∈ TT := tt_1 126 rfl rfl
theorem tw_0_127 : (Jvm.Cond.fieldLink "OneRing" (194 : Nat) "OneRing$Search" "inAll" "I") ∈ TT := tt_1 127 rfl rfl
theorem tw_0_128 : (Jvm.Cond.fieldLink "OneRing$Search" (44 : Nat) "OneRing$Search" "inAny" "I") ∈ TT := tt_1 128 rfl rfl
theorem tw_0_129 : (Jvm.Cond.fieldLink "OneRing" (200 : Nat) "OneRing$Search" "inAny" "I") ∈ TT := tt_1 129 rfl rfl
theorem tw_0_130 : (Jvm.Cond.laysFinal "OneRing$Search" "OneRing$Search" "start" "LOneRing$Stand;") ∈ TT := tt_1 130 rfl rfl
theorem tw_0_132 : (Jvm.Cond.laysFinal "OneRing$Search" "OneRing$Search" "allowed" "[I") ∈ TT := tt_1 132 rfl rfl
theorem tw_0_134 : (Jvm.Cond.laysFinal "OneRing$Search" "OneRing$Search" "holding" "[I") ∈ TT := tt_1 134 rfl rfl
theorem tw_0_136 : (Jvm.Cond.lays "OneRing$Search" "OneRing$Search" "limit" "I") ∈ TT := tt_1 136 rfl rfl
theorem tw_0_138 : (Jvm.Cond.lays "OneRing$Search" "OneRing$Search" "longest" "I") ∈ TT := tt_1 138 rfl rfl
theorem tw_0_140 : (Jvm.Cond.lays "OneRing$Search" "OneRing$Search" "first" "I") ∈ TT := tt_1 140 rfl rfl
theorem tw_0_142 : (Jvm.Cond.lays "OneRing$Search" "OneRing$Search" "end" "I") ∈ TT := tt_1 142 rfl rfl
theorem tw_0_144 : (Jvm.Cond.lays "OneRing$Search" "OneRing$Search" "found" "I") ∈ TT := tt_1 144 rfl rfl
theorem tw_0_146 : (Jvm.Cond.lays "OneRing$Search" "OneRing$Search" "inAll" "I") ∈ TT := tt_1 146 rfl rfl
theorem tw_0_148 : (Jvm.Cond.lays "OneRing$Search" "OneRing$Search" "inAny" "I") ∈ TT := tt_1 148 rfl rfl
theorem tw_0_151 : (Jvm.Cond.fieldLink "OneRing" (10 : Nat) "OneRing" "text" "LOneRing$Text;") ∈ TT := tt_1 151 rfl rfl
theorem tw_0_152 : (Jvm.Cond.fieldLink "OneRing" (19 : Nat) "OneRing" "told" "LOneRing$Parish;") ∈ TT := tt_1 152 rfl rfl
theorem tw_0_153 : (Jvm.Cond.fieldLink "OneRing" (26 : Nat) "OneRing" "now" "LOneRing$Stand;") ∈ TT := tt_1 153 rfl rfl
theorem tw_0_154 : (Jvm.Cond.fieldLink "OneRing" (30 : Nat) "OneRing" "trial" "LOneRing$Stand;") ∈ TT := tt_1 154 rfl rfl
theorem tw_0_155 : (Jvm.Cond.fieldLink "OneRing" (36 : Nat) "OneRing" "acts" "LOneRing$Acts;") ∈ TT := tt_1 155 rfl rfl
theorem tw_0_156 : (Jvm.Cond.fieldLink "OneRing" (43 : Nat) "OneRing" "search" "LOneRing$Search;") ∈ TT := tt_1 156 rfl rfl
theorem tw_0_157 : (Jvm.Cond.fieldLink "OneRing" (47 : Nat) "OneRing" "kept" "[LOneRing$Stand;") ∈ TT := tt_1 157 rfl rfl
theorem tw_0_158 : (Jvm.Cond.fieldLink "OneRing" (51 : Nat) "OneRing" "wasKept" "[Z") ∈ TT := tt_1 158 rfl rfl
theorem tw_0_159 : (Jvm.Cond.fieldLink "OneRing" (55 : Nat) "OneRing" "seenBehind" "[I") ∈ TT := tt_1 159 rfl rfl
theorem tw_0_160 : (Jvm.Cond.fieldLink "OneRing" (59 : Nat) "OneRing" "seenChurch" "[I") ∈ TT := tt_1 160 rfl rfl
theorem tw_0_161 : (Jvm.Cond.fieldLink "OneRing" (62 : Nat) "OneRing" "mostOf" "[I") ∈ TT := tt_1 161 rfl rfl
theorem tw_0_162 : (Jvm.Cond.fieldLink "OneRing" (65 : Nat) "OneRing" "seen" "I") ∈ TT := tt_1 162 rfl rfl
theorem tw_0_163 : (Jvm.Cond.fieldLink "OneRing" (69 : Nat) "OneRing" "theSeed" "J") ∈ TT := tt_1 163 rfl rfl
theorem tw_0_164 : (Jvm.Cond.laysFinal "OneRing" "OneRing" "text" "LOneRing$Text;") ∈ TT := tt_1 164 rfl rfl
theorem tw_0_166 : (Jvm.Cond.laysFinal "OneRing" "OneRing" "told" "LOneRing$Parish;") ∈ TT := tt_1 166 rfl rfl
theorem tw_0_168 : (Jvm.Cond.laysFinal "OneRing" "OneRing" "now" "LOneRing$Stand;") ∈ TT := tt_1 168 rfl rfl
theorem tw_0_170 : (Jvm.Cond.laysFinal "OneRing" "OneRing" "trial" "LOneRing$Stand;") ∈ TT := tt_1 170 rfl rfl
theorem tw_0_172 : (Jvm.Cond.laysFinal "OneRing" "OneRing" "acts" "LOneRing$Acts;") ∈ TT := tt_1 172 rfl rfl
theorem tw_0_174 : (Jvm.Cond.laysFinal "OneRing" "OneRing" "search" "LOneRing$Search;") ∈ TT := tt_1 174 rfl rfl
theorem tw_0_176 : (Jvm.Cond.laysFinal "OneRing" "OneRing" "kept" "[LOneRing$Stand;") ∈ TT := tt_1 176 rfl rfl
theorem tw_0_178 : (Jvm.Cond.laysFinal "OneRing" "OneRing" "wasKept" "[Z") ∈ TT := tt_1 178 rfl rfl
theorem tw_0_180 : (Jvm.Cond.laysFinal "OneRing" "OneRing" "seenBehind" "[I") ∈ TT := tt_1 180 rfl rfl
theorem tw_0_182 : (Jvm.Cond.laysFinal "OneRing" "OneRing" "seenChurch" "[I") ∈ TT := tt_1 182 rfl rfl
theorem tw_0_184 : (Jvm.Cond.laysFinal "OneRing" "OneRing" "mostOf" "[I") ∈ TT := tt_1 184 rfl rfl
theorem tw_0_186 : (Jvm.Cond.lays "OneRing" "OneRing" "seen" "I") ∈ TT := tt_1 186 rfl rfl
theorem tw_0_188 : (Jvm.Cond.lays "OneRing" "OneRing" "theSeed" "J") ∈ TT := tt_1 188 rfl rfl
theorem tw_0_191 : (Jvm.Cond.arrayClass Jvm.ClassFile.FieldType.boolean) ∈ TT := tt_1 191 rfl rfl
theorem tw_0_192 : (Jvm.Cond.methodLink "OneRingLaw" (13 : Nat) ({ cls := "OneRing", name := "write", desc := "(I)I" } : Jvm.MethodName)) ∈ TT := tt_1 192 rfl rfl
theorem tw_0_193 : (Jvm.Cond.instanceMethod ({ cls := "OneRing", name := "write", desc := "(I)I" } : Jvm.MethodName)) ∈ TT := tt_1 193 rfl rfl
theorem tw_0_194 : (Jvm.Cond.selects "OneRing" ({ cls := "OneRing", name := "write", desc := "(I)I" } : Jvm.MethodName) ({ cls := "OneRing", name := "write", desc := "(I)I" } : Jvm.MethodName)) ∈ TT := tt_1 194 rfl rfl
theorem tw_0_195 : (Jvm.Cond.code ({ cls := "OneRing", name := "write", desc := "(I)I" } : Jvm.MethodName) prog_1_method_2_code (2 : Nat) (Option.some Jvm.ClassFile.FieldType.int)) ∈ TT := tt_1 195 rfl rfl
theorem tw_0_196 : (Jvm.Cond.methodLink "OneRing" (73 : Nat) ({ cls := "OneRing$Text", name := "add", desc := "(I)Z" } : Jvm.MethodName)) ∈ TT := tt_1 196 rfl rfl
theorem tw_0_197 : (Jvm.Cond.instanceMethod ({ cls := "OneRing$Text", name := "add", desc := "(I)Z" } : Jvm.MethodName)) ∈ TT := tt_1 197 rfl rfl
theorem tw_0_198 : (Jvm.Cond.selects "OneRing$Text" ({ cls := "OneRing$Text", name := "add", desc := "(I)Z" } : Jvm.MethodName) ({ cls := "OneRing$Text", name := "add", desc := "(I)Z" } : Jvm.MethodName)) ∈ TT := tt_1 198 rfl rfl
theorem tw_0_199 : (Jvm.Cond.code ({ cls := "OneRing$Text", name := "add", desc := "(I)Z" } : Jvm.MethodName) prog_6_method_2_code (2 : Nat) (Option.some Jvm.ClassFile.FieldType.boolean)) ∈ TT := tt_1 199 rfl rfl
theorem tw_0_200 : (Jvm.Cond.methodLink "OneRingLaw" (18 : Nat) ({ cls := "OneRing", name := "wipe", desc := "()I" } : Jvm.MethodName)) ∈ TT := tt_1 200 rfl rfl
theorem tw_0_201 : (Jvm.Cond.instanceMethod ({ cls := "OneRing", name := "wipe", desc := "()I" } : Jvm.MethodName)) ∈ TT := tt_1 201 rfl rfl
theorem tw_0_202 : (Jvm.Cond.selects "OneRing" ({ cls := "OneRing", name := "wipe", desc := "()I" } : Jvm.MethodName) ({ cls := "OneRing", name := "wipe", desc := "()I" } : Jvm.MethodName)) ∈ TT := tt_1 202 rfl rfl
theorem tw_0_203 : (Jvm.Cond.code ({ cls := "OneRing", name := "wipe", desc := "()I" } : Jvm.MethodName) prog_1_method_3_code (2 : Nat) (Option.some Jvm.ClassFile.FieldType.int)) ∈ TT := tt_1 203 rfl rfl
theorem tw_0_204 : (Jvm.Cond.methodLink "OneRingLaw" (23 : Nat) ({ cls := "OneRing", name := "fault", desc := "()I" } : Jvm.MethodName)) ∈ TT := tt_1 204 rfl rfl
theorem tw_0_205 : (Jvm.Cond.instanceMethod ({ cls := "OneRing", name := "fault", desc := "()I" } : Jvm.MethodName)) ∈ TT := tt_1 205 rfl rfl
theorem tw_0_206 : (Jvm.Cond.selects "OneRing" ({ cls := "OneRing", name := "fault", desc := "()I" } : Jvm.MethodName) ({ cls := "OneRing", name := "fault", desc := "()I" } : Jvm.MethodName)) ∈ TT := tt_1 206 rfl rfl
theorem tw_0_207 : (Jvm.Cond.code ({ cls := "OneRing", name := "fault", desc := "()I" } : Jvm.MethodName) prog_1_method_4_code (1 : Nat) (Option.some Jvm.ClassFile.FieldType.int)) ∈ TT := tt_1 207 rfl rfl
theorem tw_0_208 : (Jvm.Cond.methodLink "OneRing" (80 : Nat) ({ cls := "OneRing$Text", name := "firstFault", desc := "()I" } : Jvm.MethodName)) ∈ TT := tt_1 208 rfl rfl
theorem tw_0_209 : (Jvm.Cond.instanceMethod ({ cls := "OneRing$Text", name := "firstFault", desc := "()I" } : Jvm.MethodName)) ∈ TT := tt_1 209 rfl rfl
theorem tw_0_210 : (Jvm.Cond.selects "OneRing$Text" ({ cls := "OneRing$Text", name := "firstFault", desc := "()I" } : Jvm.MethodName) ({ cls := "OneRing$Text", name := "firstFault", desc := "()I" } : Jvm.MethodName)) ∈ TT := tt_1 210 rfl rfl
theorem tw_0_211 : (Jvm.Cond.code ({ cls := "OneRing$Text", name := "firstFault", desc := "()I" } : Jvm.MethodName) prog_6_method_4_code (2 : Nat) (Option.some Jvm.ClassFile.FieldType.int)) ∈ TT := tt_1 211 rfl rfl
theorem tw_0_212 : (Jvm.Cond.methodLink "OneRing$Text" (23 : Nat) ({ cls := "OneRing$Text", name := "fits", desc := "(I)Z" } : Jvm.MethodName)) ∈ TT := tt_1 212 rfl rfl
theorem tw_0_214 : (Jvm.Cond.instanceMethod ({ cls := "OneRing$Text", name := "fits", desc := "(I)Z" } : Jvm.MethodName)) ∈ TT := tt_1 214 rfl rfl
theorem tw_0_215 : (Jvm.Cond.code ({ cls := "OneRing$Text", name := "fits", desc := "(I)Z" } : Jvm.MethodName) prog_6_method_5_code (2 : Nat) (Option.some Jvm.ClassFile.FieldType.boolean)) ∈ TT := tt_1 215 rfl rfl
theorem tw_0_216 : (Jvm.Cond.methodLink "OneRing$Text" (27 : Nat) ({ cls := "OneRing$Text", name := "fitsWedding", desc := "(I)Z" } : Jvm.MethodName)) ∈ TT := tt_1 216 rfl rfl
theorem tw_0_218 : (Jvm.Cond.instanceMethod ({ cls := "OneRing$Text", name := "fitsWedding", desc := "(I)Z" } : Jvm.MethodName)) ∈ TT := tt_1 218 rfl rfl
theorem tw_0_219 : (Jvm.Cond.code ({ cls := "OneRing$Text", name := "fitsWedding", desc := "(I)Z" } : Jvm.MethodName) prog_6_method_6_code (2 : Nat) (Option.some Jvm.ClassFile.FieldType.boolean)) ∈ TT := tt_1 219 rfl rfl
theorem tw_0_220 : (Jvm.Cond.methodLink "OneRing$Text" (30 : Nat) ({ cls := "OneRing$Text", name := "isFigure", desc := "(III)Z" } : Jvm.MethodName)) ∈ TT := tt_1 220 rfl rfl
theorem tw_0_222 : (Jvm.Cond.instanceMethod ({ cls := "OneRing$Text", name := "isFigure", desc := "(III)Z" } : Jvm.MethodName)) ∈ TT := tt_1 222 rfl rfl
theorem tw_0_223 : (Jvm.Cond.code ({ cls := "OneRing$Text", name := "isFigure", desc := "(III)Z" } : Jvm.MethodName) prog_6_method_7_code (4 : Nat) (Option.some Jvm.ClassFile.FieldType.boolean)) ∈ TT := tt_1 223 rfl rfl
theorem tw_0_224 : (Jvm.Cond.methodLink "OneRing$Text" (34 : Nat) ({ cls := "OneRing$Text", name := "figure", desc := "(I)I" } : Jvm.MethodName)) ∈ TT := tt_1 224 rfl rfl
theorem tw_0_225 : (Jvm.Cond.instanceMethod ({ cls := "OneRing$Text", name := "figure", desc := "(I)I" } : Jvm.MethodName)) ∈ TT := tt_1 225 rfl rfl
theorem tw_0_226 : (Jvm.Cond.selects "OneRing$Text" ({ cls := "OneRing$Text", name := "figure", desc := "(I)I" } : Jvm.MethodName) ({ cls := "OneRing$Text", name := "figure", desc := "(I)I" } : Jvm.MethodName)) ∈ TT := tt_1 226 rfl rfl
theorem tw_0_227 : (Jvm.Cond.code ({ cls := "OneRing$Text", name := "figure", desc := "(I)I" } : Jvm.MethodName) prog_6_method_3_code (2 : Nat) (Option.some Jvm.ClassFile.FieldType.int)) ∈ TT := tt_1 227 rfl rfl
theorem tw_0_229 : (Jvm.Cond.static ({ cls := "OneRing", name := "at", desc := "([II)I" } : Jvm.MethodName)) ∈ TT := tt_1 229 rfl rfl
theorem tw_0_230 : (Jvm.Cond.code ({ cls := "OneRing", name := "at", desc := "([II)I" } : Jvm.MethodName) prog_1_method_33_code (2 : Nat) (Option.some Jvm.ClassFile.FieldType.int)) ∈ TT := tt_1 230 rfl rfl
theorem tw_0_231 : (Jvm.Cond.methodLink "OneRingLaw" (27 : Nat) ({ cls := "OneRing", name := "parish", desc := "()I" } : Jvm.MethodName)) ∈ TT := tt_1 231 rfl rfl
theorem tw_0_232 : (Jvm.Cond.instanceMethod ({ cls := "OneRing", name := "parish", desc := "()I" } : Jvm.MethodName)) ∈ TT := tt_1 232 rfl rfl
theorem tw_0_233 : (Jvm.Cond.selects "OneRing" ({ cls := "OneRing", name := "parish", desc := "()I" } : Jvm.MethodName) ({ cls := "OneRing", name := "parish", desc := "()I" } : Jvm.MethodName)) ∈ TT := tt_1 233 rfl rfl
theorem tw_0_234 : (Jvm.Cond.code ({ cls := "OneRing", name := "parish", desc := "()I" } : Jvm.MethodName) prog_1_method_5_code (2 : Nat) (Option.some Jvm.ClassFile.FieldType.int)) ∈ TT := tt_1 234 rfl rfl
theorem tw_0_235 : (Jvm.Cond.methodLink "OneRing" (84 : Nat) ({ cls := "OneRing$Parish", name := "readFrom", desc := "(LOneRing$Text;)V" } : Jvm.MethodName)) ∈ TT := tt_1 235 rfl rfl
theorem tw_0_236 : (Jvm.Cond.instanceMethod ({ cls := "OneRing$Parish", name := "readFrom", desc := "(LOneRing$Text;)V" } : Jvm.MethodName)) ∈ TT := tt_1 236 rfl rfl
theorem tw_0_237 : (Jvm.Cond.selects "OneRing$Parish" ({ cls := "OneRing$Parish", name := "readFrom", desc := "(LOneRing$Text;)V" } : Jvm.MethodName) ({ cls := "OneRing$Parish", name := "readFrom", desc := "(LOneRing$Text;)V" } : Jvm.MethodName)) ∈ TT := tt_1 237 rfl rfl
theorem tw_0_238 : (Jvm.Cond.code ({ cls := "OneRing$Parish", name := "readFrom", desc := "(LOneRing$Text;)V" } : Jvm.MethodName) prog_3_method_2_code (4 : Nat) (Option.none : Option Jvm.ClassFile.FieldType)) ∈ TT := tt_1 238 rfl rfl
theorem tw_0_239 : (Jvm.Cond.methodLink "OneRing$Parish" (25 : Nat) ({ cls := "OneRing$Text", name := "figure", desc := "(I)I" } : Jvm.MethodName)) ∈ TT := tt_1 239 rfl rfl
theorem tw_1_0 : (Jvm.Cond.methodLink "OneRing$Parish" (34 : Nat) ({ cls := "OneRing$Parish", name := "figure", desc := "(II)I" } : Jvm.MethodName)) ∈ TT := tt_2 0 rfl rfl
theorem tw_1_1 : (Jvm.Cond.instanceMethod ({ cls := "OneRing$Parish", name := "figure", desc := "(II)I" } : Jvm.MethodName)) ∈ TT := tt_2 1 rfl rfl
theorem tw_1_2 : (Jvm.Cond.selects "OneRing$Parish" ({ cls := "OneRing$Parish", name := "figure", desc := "(II)I" } : Jvm.MethodName) ({ cls := "OneRing$Parish", name := "figure", desc := "(II)I" } : Jvm.MethodName)) ∈ TT := tt_2 2 rfl rfl
theorem tw_1_3 : (Jvm.Cond.code ({ cls := "OneRing$Parish", name := "figure", desc := "(II)I" } : Jvm.MethodName) prog_3_method_5_code (4 : Nat) (Option.some Jvm.ClassFile.FieldType.int)) ∈ TT := tt_2 3 rfl rfl
theorem tw_1_4 : (Jvm.Cond.methodLink "OneRing$Parish" (37 : Nat) ({ cls := "java/lang/Math", name := "max", desc := "(II)I" } : Jvm.MethodName)) ∈ TT := tt_2 4 rfl rfl
theorem tw_1_5 : (Jvm.Cond.static ({ cls := "java/lang/Math", name := "max", desc := "(II)I" } : Jvm.MethodName)) ∈ TT := tt_2 5 rfl rfl
theorem tw_1_6 : (Jvm.Cond.code ({ cls := "java/lang/Math", name := "max", desc := "(II)I" } : Jvm.MethodName) prog_10_method_65_code (2 : Nat) (Option.some Jvm.ClassFile.FieldType.int)) ∈ TT := tt_2 6 rfl rfl
theorem tw_1_7 : (Jvm.Cond.methodLink "OneRing" (88 : Nat) ({ cls := "OneRing$Stand", name := "readFrom", desc := "(LOneRing$Text;)V" } : Jvm.MethodName)) ∈ TT := tt_2 7 rfl rfl
theorem tw_1_8 : (Jvm.Cond.instanceMethod ({ cls := "OneRing$Stand", name := "readFrom", desc := "(LOneRing$Text;)V" } : Jvm.MethodName)) ∈ TT := tt_2 8 rfl rfl
theorem tw_1_9 : (Jvm.Cond.selects "OneRing$Stand" ({ cls := "OneRing$Stand", name := "readFrom", desc := "(LOneRing$Text;)V" } : Jvm.MethodName) ({ cls := "OneRing$Stand", name := "readFrom", desc := "(LOneRing$Text;)V" } : Jvm.MethodName)) ∈ TT := tt_2 9 rfl rfl
theorem tw_1_10 : (Jvm.Cond.code ({ cls := "OneRing$Stand", name := "readFrom", desc := "(LOneRing$Text;)V" } : Jvm.MethodName) prog_5_method_3_code (3 : Nat) (Option.none : Option Jvm.ClassFile.FieldType)) ∈ TT := tt_2 10 rfl rfl
theorem tw_1_11 : (Jvm.Cond.methodLink "OneRing$Stand" (29 : Nat) ({ cls := "OneRing$Text", name := "figure", desc := "(I)I" } : Jvm.MethodName)) ∈ TT := tt_2 11 rfl rfl
theorem tw_1_12 : (Jvm.Cond.methodLink "OneRing" (89 : Nat) ({ cls := "OneRing$Acts", name := "clear", desc := "()V" } : Jvm.MethodName)) ∈ TT := tt_2 12 rfl rfl
theorem tw_1_13 : (Jvm.Cond.instanceMethod ({ cls := "OneRing$Acts", name := "clear", desc := "()V" } : Jvm.MethodName)) ∈ TT := tt_2 13 rfl rfl
theorem tw_1_14 : (Jvm.Cond.selects "OneRing$Acts" ({ cls := "OneRing$Acts", name := "clear", desc := "()V" } : Jvm.MethodName) ({ cls := "OneRing$Acts", name := "clear", desc := "()V" } : Jvm.MethodName)) ∈ TT := tt_2 14 rfl rfl
theorem tw_1_15 : (Jvm.Cond.code ({ cls := "OneRing$Acts", name := "clear", desc := "()V" } : Jvm.MethodName) prog_2_method_2_code (1 : Nat) (Option.none : Option Jvm.ClassFile.FieldType)) ∈ TT := tt_2 15 rfl rfl
theorem tw_1_16 : (Jvm.Cond.methodLink "OneRingLaw" (31 : Nat) ({ cls := "OneRing", name := "wedding", desc := "(II)I" } : Jvm.MethodName)) ∈ TT := tt_2 16 rfl rfl
theorem tw_1_17 : (Jvm.Cond.instanceMethod ({ cls := "OneRing", name := "wedding", desc := "(II)I" } : Jvm.MethodName)) ∈ TT := tt_2 17 rfl rfl
theorem tw_1_18 : (Jvm.Cond.selects "OneRing" ({ cls := "OneRing", name := "wedding", desc := "(II)I" } : Jvm.MethodName) ({ cls := "OneRing", name := "wedding", desc := "(II)I" } : Jvm.MethodName)) ∈ TT := tt_2 18 rfl rfl
theorem tw_1_19 : (Jvm.Cond.code ({ cls := "OneRing", name := "wedding", desc := "(II)I" } : Jvm.MethodName) prog_1_method_6_code (3 : Nat) (Option.some Jvm.ClassFile.FieldType.int)) ∈ TT := tt_2 19 rfl rfl
theorem tw_1_20 : (Jvm.Cond.methodLink "OneRing" (95 : Nat) ({ cls := "OneRing$Parish", name := "has", desc := "(I)Z" } : Jvm.MethodName)) ∈ TT := tt_2 20 rfl rfl
theorem tw_1_21 : (Jvm.Cond.instanceMethod ({ cls := "OneRing$Parish", name := "has", desc := "(I)Z" } : Jvm.MethodName)) ∈ TT := tt_2 21 rfl rfl
theorem tw_1_22 : (Jvm.Cond.selects "OneRing$Parish" ({ cls := "OneRing$Parish", name := "has", desc := "(I)Z" } : Jvm.MethodName) ({ cls := "OneRing$Parish", name := "has", desc := "(I)Z" } : Jvm.MethodName)) ∈ TT := tt_2 22 rfl rfl
theorem tw_1_23 : (Jvm.Cond.code ({ cls := "OneRing$Parish", name := "has", desc := "(I)Z" } : Jvm.MethodName) prog_3_method_3_code (2 : Nat) (Option.some Jvm.ClassFile.FieldType.boolean)) ∈ TT := tt_2 23 rfl rfl
theorem tw_1_24 : (Jvm.Cond.methodLink "OneRing" (98 : Nat) ({ cls := "OneRing$Parish", name := "figure", desc := "(II)I" } : Jvm.MethodName)) ∈ TT := tt_2 24 rfl rfl
theorem tw_1_25 : (Jvm.Cond.methodLink "OneRing" (102 : Nat) ({ cls := "OneRing$Stand", name := "isWed", desc := "(I)Z" } : Jvm.MethodName)) ∈ TT := tt_2 25 rfl rfl
theorem tw_1_26 : (Jvm.Cond.instanceMethod ({ cls := "OneRing$Stand", name := "isWed", desc := "(I)Z" } : Jvm.MethodName)) ∈ TT := tt_2 26 rfl rfl
theorem tw_1_27 : (Jvm.Cond.selects "OneRing$Stand" ({ cls := "OneRing$Stand", name := "isWed", desc := "(I)Z" } : Jvm.MethodName) ({ cls := "OneRing$Stand", name := "isWed", desc := "(I)Z" } : Jvm.MethodName)) ∈ TT := tt_2 27 rfl rfl
theorem tw_1_28 : (Jvm.Cond.code ({ cls := "OneRing$Stand", name := "isWed", desc := "(I)Z" } : Jvm.MethodName) prog_5_method_4_code (2 : Nat) (Option.some Jvm.ClassFile.FieldType.boolean)) ∈ TT := tt_2 28 rfl rfl
theorem tw_1_29 : (Jvm.Cond.methodLink "OneRing" (105 : Nat) ({ cls := "OneRing$Parish", name := "beginOn", desc := "(LOneRing$Stand;I)I" } : Jvm.MethodName)) ∈ TT := tt_2 29 rfl rfl
theorem tw_1_30 : (Jvm.Cond.instanceMethod ({ cls := "OneRing$Parish", name := "beginOn", desc := "(LOneRing$Stand;I)I" } : Jvm.MethodName)) ∈ TT := tt_2 30 rfl rfl
theorem tw_1_31 : (Jvm.Cond.selects "OneRing$Parish" ({ cls := "OneRing$Parish", name := "beginOn", desc := "(LOneRing$Stand;I)I" } : Jvm.MethodName) ({ cls := "OneRing$Parish", name := "beginOn", desc := "(LOneRing$Stand;I)I" } : Jvm.MethodName)) ∈ TT := tt_2 31 rfl rfl
theorem tw_1_32 : (Jvm.Cond.code ({ cls := "OneRing$Parish", name := "beginOn", desc := "(LOneRing$Stand;I)I" } : Jvm.MethodName) prog_3_method_8_code (3 : Nat) (Option.some Jvm.ClassFile.FieldType.int)) ∈ TT := tt_2 32 rfl rfl
theorem tw_1_33 : (Jvm.Cond.methodLink "OneRing$Parish" (46 : Nat) ({ cls := "OneRing$Parish", name := "has", desc := "(I)Z" } : Jvm.MethodName)) ∈ TT := tt_2 33 rfl rfl
theorem tw_1_34 : (Jvm.Cond.methodLink "OneRing$Parish" (50 : Nat) ({ cls := "OneRing$Stand", name := "isWed", desc := "(I)Z" } : Jvm.MethodName)) ∈ TT := tt_2 34 rfl rfl
theorem tw_1_35 : (Jvm.Cond.methodLink "OneRing$Parish" (61 : Nat) ({ cls := "OneRing$Stand", name := "hoursBetween", desc := "(II)I" } : Jvm.MethodName)) ∈ TT := tt_2 35 rfl rfl
theorem tw_1_36 : (Jvm.Cond.instanceMethod ({ cls := "OneRing$Stand", name := "hoursBetween", desc := "(II)I" } : Jvm.MethodName)) ∈ TT := tt_2 36 rfl rfl
theorem tw_1_37 : (Jvm.Cond.selects "OneRing$Stand" ({ cls := "OneRing$Stand", name := "hoursBetween", desc := "(II)I" } : Jvm.MethodName) ({ cls := "OneRing$Stand", name := "hoursBetween", desc := "(II)I" } : Jvm.MethodName)) ∈ TT := tt_2 37 rfl rfl
theorem tw_1_38 : (Jvm.Cond.code ({ cls := "OneRing$Stand", name := "hoursBetween", desc := "(II)I" } : Jvm.MethodName) prog_5_method_6_code (5 : Nat) (Option.some Jvm.ClassFile.FieldType.int)) ∈ TT := tt_2 38 rfl rfl
theorem tw_1_39 : (Jvm.Cond.methodLink "OneRing$Stand" (35 : Nat) ({ cls := "java/lang/Math", name := "min", desc := "(II)I" } : Jvm.MethodName)) ∈ TT := tt_2 39 rfl rfl
theorem tw_1_40 : (Jvm.Cond.static ({ cls := "java/lang/Math", name := "min", desc := "(II)I" } : Jvm.MethodName)) ∈ TT := tt_2 40 rfl rfl
theorem tw_1_41 : (Jvm.Cond.code ({ cls := "java/lang/Math", name := "min", desc := "(II)I" } : Jvm.MethodName) prog_10_method_69_code (2 : Nat) (Option.some Jvm.ClassFile.FieldType.int)) ∈ TT := tt_2 41 rfl rfl
theorem tw_1_42 : (Jvm.Cond.methodLink "OneRing$Stand" (41 : Nat) ({ cls := "java/lang/Math", name := "max", desc := "(II)I" } : Jvm.MethodName)) ∈ TT := tt_2 42 rfl rfl
theorem tw_1_44 : (Jvm.Cond.methodLink "OneRing$Parish" (64 : Nat) ({ cls := "OneRing$Parish", name := "begin", desc := "(III)I" } : Jvm.MethodName)) ∈ TT := tt_2 44 rfl rfl
theorem tw_1_45 : (Jvm.Cond.instanceMethod ({ cls := "OneRing$Parish", name := "begin", desc := "(III)I" } : Jvm.MethodName)) ∈ TT := tt_2 45 rfl rfl
theorem tw_1_46 : (Jvm.Cond.selects "OneRing$Parish" ({ cls := "OneRing$Parish", name := "begin", desc := "(III)I" } : Jvm.MethodName) ({ cls := "OneRing$Parish", name := "begin", desc := "(III)I" } : Jvm.MethodName)) ∈ TT := tt_2 46 rfl rfl
theorem tw_1_47 : (Jvm.Cond.code ({ cls := "OneRing$Parish", name := "begin", desc := "(III)I" } : Jvm.MethodName) prog_3_method_6_code (6 : Nat) (Option.some Jvm.ClassFile.FieldType.int)) ∈ TT := tt_2 47 rfl rfl
theorem tw_1_49 : (Jvm.Cond.methodLink "OneRingLaw" (36 : Nat) ({ cls := "OneRing", name := "road", desc := "(I)I" } : Jvm.MethodName)) ∈ TT := tt_2 49 rfl rfl
theorem tw_1_50 : (Jvm.Cond.instanceMethod ({ cls := "OneRing", name := "road", desc := "(I)I" } : Jvm.MethodName)) ∈ TT := tt_2 50 rfl rfl
theorem tw_1_51 : (Jvm.Cond.selects "OneRing" ({ cls := "OneRing", name := "road", desc := "(I)I" } : Jvm.MethodName) ({ cls := "OneRing", name := "road", desc := "(I)I" } : Jvm.MethodName)) ∈ TT := tt_2 51 rfl rfl
theorem tw_1_52 : (Jvm.Cond.code ({ cls := "OneRing", name := "road", desc := "(I)I" } : Jvm.MethodName) prog_1_method_7_code (2 : Nat) (Option.some Jvm.ClassFile.FieldType.int)) ∈ TT := tt_2 52 rfl rfl
theorem tw_1_53 : (Jvm.Cond.methodLink "OneRing" (109 : Nat) ({ cls := "OneRing", name := "isRoad", desc := "(I)Z" } : Jvm.MethodName)) ∈ TT := tt_2 53 rfl rfl
theorem tw_1_54 : (Jvm.Cond.static ({ cls := "OneRing", name := "isRoad", desc := "(I)Z" } : Jvm.MethodName)) ∈ TT := tt_2 54 rfl rfl
theorem tw_1_55 : (Jvm.Cond.code ({ cls := "OneRing", name := "isRoad", desc := "(I)Z" } : Jvm.MethodName) prog_1_method_31_code (1 : Nat) (Option.some Jvm.ClassFile.FieldType.boolean)) ∈ TT := tt_2 55 rfl rfl
theorem tw_1_56 : (Jvm.Cond.methodLink "OneRing" (115 : Nat) ({ cls := "OneRing", name := "at", desc := "([II)I" } : Jvm.MethodName)) ∈ TT := tt_2 56 rfl rfl
theorem tw_1_57 : (Jvm.Cond.methodLink "OneRingLaw" (40 : Nat) ({ cls := "OneRing", name := "way", desc := "(II)I" } : Jvm.MethodName)) ∈ TT := tt_2 57 rfl rfl
theorem tw_1_58 : (Jvm.Cond.instanceMethod ({ cls := "OneRing", name := "way", desc := "(II)I" } : Jvm.MethodName)) ∈ TT := tt_2 58 rfl rfl
theorem tw_1_59 : (Jvm.Cond.selects "OneRing" ({ cls := "OneRing", name := "way", desc := "(II)I" } : Jvm.MethodName) ({ cls := "OneRing", name := "way", desc := "(II)I" } : Jvm.MethodName)) ∈ TT := tt_2 59 rfl rfl
theorem tw_1_60 : (Jvm.Cond.code ({ cls := "OneRing", name := "way", desc := "(II)I" } : Jvm.MethodName) prog_1_method_8_code (3 : Nat) (Option.some Jvm.ClassFile.FieldType.int)) ∈ TT := tt_2 60 rfl rfl
theorem tw_1_61 : (Jvm.Cond.methodLink "OneRing" (119 : Nat) ({ cls := "OneRing", name := "isChurch", desc := "(I)Z" } : Jvm.MethodName)) ∈ TT := tt_2 61 rfl rfl
theorem tw_1_62 : (Jvm.Cond.static ({ cls := "OneRing", name := "isChurch", desc := "(I)Z" } : Jvm.MethodName)) ∈ TT := tt_2 62 rfl rfl
theorem tw_1_63 : (Jvm.Cond.code ({ cls := "OneRing", name := "isChurch", desc := "(I)Z" } : Jvm.MethodName) prog_1_method_30_code (1 : Nat) (Option.some Jvm.ClassFile.FieldType.boolean)) ∈ TT := tt_2 63 rfl rfl
theorem tw_1_64 : (Jvm.Cond.methodLink "OneRing" (122 : Nat) ({ cls := "OneRing$Stand", name := "hoursBetween", desc := "(II)I" } : Jvm.MethodName)) ∈ TT := tt_2 64 rfl rfl
theorem tw_1_65 : (Jvm.Cond.methodLink "OneRingLaw" (44 : Nat) ({ cls := "OneRing", name := "wed", desc := "(I)I" } : Jvm.MethodName)) ∈ TT := tt_2 65 rfl rfl
theorem tw_1_66 : (Jvm.Cond.instanceMethod ({ cls := "OneRing", name := "wed", desc := "(I)I" } : Jvm.MethodName)) ∈ TT := tt_2 66 rfl rfl
theorem tw_1_67 : (Jvm.Cond.selects "OneRing" ({ cls := "OneRing", name := "wed", desc := "(I)I" } : Jvm.MethodName) ({ cls := "OneRing", name := "wed", desc := "(I)I" } : Jvm.MethodName)) ∈ TT := tt_2 67 rfl rfl
theorem tw_1_68 : (Jvm.Cond.code ({ cls := "OneRing", name := "wed", desc := "(I)I" } : Jvm.MethodName) prog_1_method_9_code (2 : Nat) (Option.some Jvm.ClassFile.FieldType.int)) ∈ TT := tt_2 68 rfl rfl
theorem tw_1_69 : (Jvm.Cond.methodLink "OneRing" (125 : Nat) ({ cls := "OneRing$Acts", name := "remember", desc := "(LOneRing$Stand;)V" } : Jvm.MethodName)) ∈ TT := tt_2 69 rfl rfl
theorem tw_1_70 : (Jvm.Cond.instanceMethod ({ cls := "OneRing$Acts", name := "remember", desc := "(LOneRing$Stand;)V" } : Jvm.MethodName)) ∈ TT := tt_2 70 rfl rfl
theorem tw_1_71 : (Jvm.Cond.selects "OneRing$Acts" ({ cls := "OneRing$Acts", name := "remember", desc := "(LOneRing$Stand;)V" } : Jvm.MethodName) ({ cls := "OneRing$Acts", name := "remember", desc := "(LOneRing$Stand;)V" } : Jvm.MethodName)) ∈ TT := tt_2 71 rfl rfl
theorem tw_1_72 : (Jvm.Cond.code ({ cls := "OneRing$Acts", name := "remember", desc := "(LOneRing$Stand;)V" } : Jvm.MethodName) prog_2_method_4_code (3 : Nat) (Option.none : Option Jvm.ClassFile.FieldType)) ∈ TT := tt_2 72 rfl rfl
theorem tw_1_73 : (Jvm.Cond.methodLink "OneRing$Acts" (25 : Nat) ({ cls := "OneRing$Acts", name := "standAt", desc := "(I)LOneRing$Stand;" } : Jvm.MethodName)) ∈ TT := tt_2 73 rfl rfl
theorem tw_1_75 : (Jvm.Cond.instanceMethod ({ cls := "OneRing$Acts", name := "standAt", desc := "(I)LOneRing$Stand;" } : Jvm.MethodName)) ∈ TT := tt_2 75 rfl rfl
theorem tw_1_76 : (Jvm.Cond.code ({ cls := "OneRing$Acts", name := "standAt", desc := "(I)LOneRing$Stand;" } : Jvm.MethodName) prog_2_method_3_code (3 : Nat) (Option.some (Jvm.ClassFile.FieldType.object "OneRing$Stand"))) ∈ TT := tt_2 76 rfl rfl
theorem tw_1_77 : (Jvm.Cond.methodLink "OneRing$Acts" (29 : Nat) ({ cls := "OneRing$Stand", name := "take", desc := "(LOneRing$Stand;)V" } : Jvm.MethodName)) ∈ TT := tt_2 77 rfl rfl
theorem tw_1_78 : (Jvm.Cond.instanceMethod ({ cls := "OneRing$Stand", name := "take", desc := "(LOneRing$Stand;)V" } : Jvm.MethodName)) ∈ TT := tt_2 78 rfl rfl
theorem tw_1_79 : (Jvm.Cond.selects "OneRing$Stand" ({ cls := "OneRing$Stand", name := "take", desc := "(LOneRing$Stand;)V" } : Jvm.MethodName) ({ cls := "OneRing$Stand", name := "take", desc := "(LOneRing$Stand;)V" } : Jvm.MethodName)) ∈ TT := tt_2 79 rfl rfl
theorem tw_1_80 : (Jvm.Cond.code ({ cls := "OneRing$Stand", name := "take", desc := "(LOneRing$Stand;)V" } : Jvm.MethodName) prog_5_method_2_code (3 : Nat) (Option.none : Option Jvm.ClassFile.FieldType)) ∈ TT := tt_2 80 rfl rfl
theorem tw_1_81 : (Jvm.Cond.methodLink "OneRing" (129 : Nat) ({ cls := "OneRing$Parish", name := "celebrate", desc := "(LOneRing$Stand;I)Z" } : Jvm.MethodName)) ∈ TT := tt_2 81 rfl rfl
theorem tw_1_82 : (Jvm.Cond.instanceMethod ({ cls := "OneRing$Parish", name := "celebrate", desc := "(LOneRing$Stand;I)Z" } : Jvm.MethodName)) ∈ TT := tt_2 82 rfl rfl
theorem tw_1_83 : (Jvm.Cond.selects "OneRing$Parish" ({ cls := "OneRing$Parish", name := "celebrate", desc := "(LOneRing$Stand;I)Z" } : Jvm.MethodName) ({ cls := "OneRing$Parish", name := "celebrate", desc := "(LOneRing$Stand;I)Z" } : Jvm.MethodName)) ∈ TT := tt_2 83 rfl rfl
theorem tw_1_84 : (Jvm.Cond.code ({ cls := "OneRing$Parish", name := "celebrate", desc := "(LOneRing$Stand;I)Z" } : Jvm.MethodName) prog_3_method_9_code (4 : Nat) (Option.some Jvm.ClassFile.FieldType.boolean)) ∈ TT := tt_2 84 rfl rfl
theorem tw_1_85 : (Jvm.Cond.methodLink "OneRing$Parish" (68 : Nat) ({ cls := "OneRing$Parish", name := "beginOn", desc := "(LOneRing$Stand;I)I" } : Jvm.MethodName)) ∈ TT := tt_2 85 rfl rfl
theorem tw_1_86 : (Jvm.Cond.methodLink "OneRing$Parish" (72 : Nat) ({ cls := "OneRing$Parish", name := "ringFree", desc := "(II)I" } : Jvm.MethodName)) ∈ TT := tt_2 86 rfl rfl
theorem tw_1_87 : (Jvm.Cond.instanceMethod ({ cls := "OneRing$Parish", name := "ringFree", desc := "(II)I" } : Jvm.MethodName)) ∈ TT := tt_2 87 rfl rfl
theorem tw_1_88 : (Jvm.Cond.selects "OneRing$Parish" ({ cls := "OneRing$Parish", name := "ringFree", desc := "(II)I" } : Jvm.MethodName) ({ cls := "OneRing$Parish", name := "ringFree", desc := "(II)I" } : Jvm.MethodName)) ∈ TT := tt_2 88 rfl rfl
theorem tw_1_89 : (Jvm.Cond.code ({ cls := "OneRing$Parish", name := "ringFree", desc := "(II)I" } : Jvm.MethodName) prog_3_method_7_code (3 : Nat) (Option.some Jvm.ClassFile.FieldType.int)) ∈ TT := tt_2 89 rfl rfl
theorem tw_1_90 : (Jvm.Cond.methodLink "OneRingLaw" (48 : Nat) ({ cls := "OneRing", name := "carry", desc := "(I)I" } : Jvm.MethodName)) ∈ TT := tt_2 90 rfl rfl
theorem tw_1_91 : (Jvm.Cond.instanceMethod ({ cls := "OneRing", name := "carry", desc := "(I)I" } : Jvm.MethodName)) ∈ TT := tt_2 91 rfl rfl
theorem tw_1_92 : (Jvm.Cond.selects "OneRing" ({ cls := "OneRing", name := "carry", desc := "(I)I" } : Jvm.MethodName) ({ cls := "OneRing", name := "carry", desc := "(I)I" } : Jvm.MethodName)) ∈ TT := tt_2 92 rfl rfl
theorem tw_1_93 : (Jvm.Cond.code ({ cls := "OneRing", name := "carry", desc := "(I)I" } : Jvm.MethodName) prog_1_method_10_code (2 : Nat) (Option.some Jvm.ClassFile.FieldType.int)) ∈ TT := tt_2 93 rfl rfl
theorem tw_1_94 : (Jvm.Cond.methodLink "OneRingLaw" (52 : Nat) ({ cls := "OneRing", name := "linger", desc := "()I" } : Jvm.MethodName)) ∈ TT := tt_2 94 rfl rfl
theorem tw_1_95 : (Jvm.Cond.instanceMethod ({ cls := "OneRing", name := "linger", desc := "()I" } : Jvm.MethodName)) ∈ TT := tt_2 95 rfl rfl
theorem tw_1_96 : (Jvm.Cond.selects "OneRing" ({ cls := "OneRing", name := "linger", desc := "()I" } : Jvm.MethodName) ({ cls := "OneRing", name := "linger", desc := "()I" } : Jvm.MethodName)) ∈ TT := tt_2 96 rfl rfl
theorem tw_1_97 : (Jvm.Cond.code ({ cls := "OneRing", name := "linger", desc := "()I" } : Jvm.MethodName) prog_1_method_11_code (1 : Nat) (Option.some Jvm.ClassFile.FieldType.int)) ∈ TT := tt_2 97 rfl rfl
theorem tw_1_98 : (Jvm.Cond.methodLink "OneRingLaw" (56 : Nat) ({ cls := "OneRing", name := "mend", desc := "(I)I" } : Jvm.MethodName)) ∈ TT := tt_2 98 rfl rfl
theorem tw_1_99 : (Jvm.Cond.instanceMethod ({ cls := "OneRing", name := "mend", desc := "(I)I" } : Jvm.MethodName)) ∈ TT := tt_2 99 rfl rfl
theorem tw_1_100 : (Jvm.Cond.selects "OneRing" ({ cls := "OneRing", name := "mend", desc := "(I)I" } : Jvm.MethodName) ({ cls := "OneRing", name := "mend", desc := "(I)I" } : Jvm.MethodName)) ∈ TT := tt_2 100 rfl rfl
theorem tw_1_101 : (Jvm.Cond.code ({ cls := "OneRing", name := "mend", desc := "(I)I" } : Jvm.MethodName) prog_1_method_12_code (2 : Nat) (Option.some Jvm.ClassFile.FieldType.int)) ∈ TT := tt_2 101 rfl rfl
theorem tw_1_102 : (Jvm.Cond.methodLink "OneRing" (139 : Nat) ({ cls := "OneRing$Stand", name := "shorten", desc := "(I)V" } : Jvm.MethodName)) ∈ TT := tt_2 102 rfl rfl
theorem tw_1_103 : (Jvm.Cond.instanceMethod ({ cls := "OneRing$Stand", name := "shorten", desc := "(I)V" } : Jvm.MethodName)) ∈ TT := tt_2 103 rfl rfl
theorem tw_1_104 : (Jvm.Cond.selects "OneRing$Stand" ({ cls := "OneRing$Stand", name := "shorten", desc := "(I)V" } : Jvm.MethodName) ({ cls := "OneRing$Stand", name := "shorten", desc := "(I)V" } : Jvm.MethodName)) ∈ TT := tt_2 104 rfl rfl
theorem tw_1_105 : (Jvm.Cond.code ({ cls := "OneRing$Stand", name := "shorten", desc := "(I)V" } : Jvm.MethodName) prog_5_method_5_code (2 : Nat) (Option.none : Option Jvm.ClassFile.FieldType)) ∈ TT := tt_2 105 rfl rfl
theorem tw_1_106 : (Jvm.Cond.methodLink "OneRingLaw" (60 : Nat) ({ cls := "OneRing", name := "undo", desc := "()I" } : Jvm.MethodName)) ∈ TT := tt_2 106 rfl rfl
theorem tw_1_107 : (Jvm.Cond.instanceMethod ({ cls := "OneRing", name := "undo", desc := "()I" } : Jvm.MethodName)) ∈ TT := tt_2 107 rfl rfl
theorem tw_1_108 : (Jvm.Cond.selects "OneRing" ({ cls := "OneRing", name := "undo", desc := "()I" } : Jvm.MethodName) ({ cls := "OneRing", name := "undo", desc := "()I" } : Jvm.MethodName)) ∈ TT := tt_2 108 rfl rfl
theorem tw_1_109 : (Jvm.Cond.code ({ cls := "OneRing", name := "undo", desc := "()I" } : Jvm.MethodName) prog_1_method_13_code (1 : Nat) (Option.some Jvm.ClassFile.FieldType.int)) ∈ TT := tt_2 109 rfl rfl
theorem tw_1_110 : (Jvm.Cond.methodLink "OneRing" (143 : Nat) ({ cls := "OneRing$Acts", name := "takeBack", desc := "(LOneRing$Stand;)Z" } : Jvm.MethodName)) ∈ TT := tt_2 110 rfl rfl
theorem tw_1_111 : (Jvm.Cond.instanceMethod ({ cls := "OneRing$Acts", name := "takeBack", desc := "(LOneRing$Stand;)Z" } : Jvm.MethodName)) ∈ TT := tt_2 111 rfl rfl
theorem tw_1_112 : (Jvm.Cond.selects "OneRing$Acts" ({ cls := "OneRing$Acts", name := "takeBack", desc := "(LOneRing$Stand;)Z" } : Jvm.MethodName) ({ cls := "OneRing$Acts", name := "takeBack", desc := "(LOneRing$Stand;)Z" } : Jvm.MethodName)) ∈ TT := tt_2 112 rfl rfl
theorem tw_1_113 : (Jvm.Cond.code ({ cls := "OneRing$Acts", name := "takeBack", desc := "(LOneRing$Stand;)Z" } : Jvm.MethodName) prog_2_method_5_code (2 : Nat) (Option.some Jvm.ClassFile.FieldType.boolean)) ∈ TT := tt_2 113 rfl rfl
theorem tw_1_114 : (Jvm.Cond.methodLink "OneRingLaw" (64 : Nat) ({ cls := "OneRing", name := "most", desc := "(I)I" } : Jvm.MethodName)) ∈ TT := tt_2 114 rfl rfl
theorem tw_1_115 : (Jvm.Cond.instanceMethod ({ cls := "OneRing", name := "most", desc := "(I)I" } : Jvm.MethodName)) ∈ TT := tt_2 115 rfl rfl
theorem tw_1_116 : (Jvm.Cond.selects "OneRing" ({ cls := "OneRing", name := "most", desc := "(I)I" } : Jvm.MethodName) ({ cls := "OneRing", name := "most", desc := "(I)I" } : Jvm.MethodName)) ∈ TT := tt_2 116 rfl rfl
theorem tw_1_117 : (Jvm.Cond.code ({ cls := "OneRing", name := "most", desc := "(I)I" } : Jvm.MethodName) prog_1_method_14_code (2 : Nat) (Option.some Jvm.ClassFile.FieldType.int)) ∈ TT := tt_2 117 rfl rfl
theorem tw_1_118 : (Jvm.Cond.methodLink "OneRing" (148 : Nat) ({ cls := "OneRing$Search", name := "runFrom", desc := "(LOneRing$Parish;LOneRing$Stand;)V" } : Jvm.MethodName)) ∈ TT := tt_2 118 rfl rfl
theorem tw_1_119 : (Jvm.Cond.instanceMethod ({ cls := "OneRing$Search", name := "runFrom", desc := "(LOneRing$Parish;LOneRing$Stand;)V" } : Jvm.MethodName)) ∈ TT := tt_2 119 rfl rfl
theorem tw_1_120 : (Jvm.Cond.selects "OneRing$Search" ({ cls := "OneRing$Search", name := "runFrom", desc := "(LOneRing$Parish;LOneRing$Stand;)V" } : Jvm.MethodName) ({ cls := "OneRing$Search", name := "runFrom", desc := "(LOneRing$Parish;LOneRing$Stand;)V" } : Jvm.MethodName)) ∈ TT := tt_2 120 rfl rfl
theorem tw_1_121 : (Jvm.Cond.code ({ cls := "OneRing$Search", name := "runFrom", desc := "(LOneRing$Parish;LOneRing$Stand;)V" } : Jvm.MethodName) prog_4_method_2_code (3 : Nat) (Option.none : Option Jvm.ClassFile.FieldType)) ∈ TT := tt_2 121 rfl rfl
theorem tw_1_122 : (Jvm.Cond.methodLink "OneRing$Search" (47 : Nat) ({ cls := "OneRing$Search", name := "reset", desc := "(LOneRing$Stand;I)V" } : Jvm.MethodName)) ∈ TT := tt_2 122 rfl rfl
theorem tw_1_123 : (Jvm.Cond.instanceMethod ({ cls := "OneRing$Search", name := "reset", desc := "(LOneRing$Stand;I)V" } : Jvm.MethodName)) ∈ TT := tt_2 123 rfl rfl
theorem tw_1_124 : (Jvm.Cond.selects "OneRing$Search" ({ cls := "OneRing$Search", name := "reset", desc := "(LOneRing$Stand;I)V" } : Jvm.MethodName) ({ cls := "OneRing$Search", name := "reset", desc := "(LOneRing$Stand;I)V" } : Jvm.MethodName)) ∈ TT := tt_2 124 rfl rfl
theorem tw_1_125 : (Jvm.Cond.code ({ cls := "OneRing$Search", name := "reset", desc := "(LOneRing$Stand;I)V" } : Jvm.MethodName) prog_4_method_3_code (4 : Nat) (Option.none : Option Jvm.ClassFile.FieldType)) ∈ TT := tt_2 125 rfl rfl
theorem tw_1_126 : (Jvm.Cond.methodLink "OneRing$Search" (55 : Nat) ({ cls := "OneRing$Stand", name := "take", desc := "(LOneRing$Stand;)V" } : Jvm.MethodName)) ∈ TT := tt_2 126 rfl rfl
theorem tw_1_127 : (Jvm.Cond.methodLink "OneRing$Search" (51 : Nat) ({ cls := "OneRing$Search", name := "run", desc := "(LOneRing$Parish;)V" } : Jvm.MethodName)) ∈ TT := tt_2 127 rfl rfl
theorem tw_1_128 : (Jvm.Cond.instanceMethod ({ cls := "OneRing$Search", name := "run", desc := "(LOneRing$Parish;)V" } : Jvm.MethodName)) ∈ TT := tt_2 128 rfl rfl
theorem tw_1_129 : (Jvm.Cond.selects "OneRing$Search" ({ cls := "OneRing$Search", name := "run", desc := "(LOneRing$Parish;)V" } : Jvm.MethodName) ({ cls := "OneRing$Search", name := "run", desc := "(LOneRing$Parish;)V" } : Jvm.MethodName)) ∈ TT := tt_2 129 rfl rfl
theorem tw_1_130 : (Jvm.Cond.code ({ cls := "OneRing$Search", name := "run", desc := "(LOneRing$Parish;)V" } : Jvm.MethodName) prog_4_method_5_code (2 : Nat) (Option.none : Option Jvm.ClassFile.FieldType)) ∈ TT := tt_2 130 rfl rfl
theorem tw_1_131 : (Jvm.Cond.methodLink "OneRing$Search" (65 : Nat) ({ cls := "OneRing$Search", name := "allows", desc := "(II)Z" } : Jvm.MethodName)) ∈ TT := tt_2 131 rfl rfl
theorem tw_1_133 : (Jvm.Cond.instanceMethod ({ cls := "OneRing$Search", name := "allows", desc := "(II)Z" } : Jvm.MethodName)) ∈ TT := tt_2 133 rfl rfl
theorem tw_1_134 : (Jvm.Cond.code ({ cls := "OneRing$Search", name := "allows", desc := "(II)Z" } : Jvm.MethodName) prog_4_method_6_code (3 : Nat) (Option.some Jvm.ClassFile.FieldType.boolean)) ∈ TT := tt_2 134 rfl rfl
theorem tw_1_136 : (Jvm.Cond.methodLink "OneRing$Search" (69 : Nat) ({ cls := "OneRing$Search", name := "goOn", desc := "(LOneRing$Search;LOneRing$Parish;IIIII)V" } : Jvm.MethodName)) ∈ TT := tt_2 136 rfl rfl
theorem tw_1_137 : (Jvm.Cond.static ({ cls := "OneRing$Search", name := "goOn", desc := "(LOneRing$Search;LOneRing$Parish;IIIII)V" } : Jvm.MethodName)) ∈ TT := tt_2 137 rfl rfl
theorem tw_1_138 : (Jvm.Cond.code ({ cls := "OneRing$Search", name := "goOn", desc := "(LOneRing$Search;LOneRing$Parish;IIIII)V" } : Jvm.MethodName) prog_4_method_8_code (12 : Nat) (Option.none : Option Jvm.ClassFile.FieldType)) ∈ TT := tt_2 138 rfl rfl
theorem tw_1_139 : (Jvm.Cond.methodLink "OneRing$Search" (83 : Nat) ({ cls := "OneRing$Search", name := "record", desc := "(IIII)V" } : Jvm.MethodName)) ∈ TT := tt_2 139 rfl rfl
theorem tw_1_141 : (Jvm.Cond.instanceMethod ({ cls := "OneRing$Search", name := "record", desc := "(IIII)V" } : Jvm.MethodName)) ∈ TT := tt_2 141 rfl rfl
theorem tw_1_142 : (Jvm.Cond.code ({ cls := "OneRing$Search", name := "record", desc := "(IIII)V" } : Jvm.MethodName) prog_4_method_7_code (5 : Nat) (Option.none : Option Jvm.ClassFile.FieldType)) ∈ TT := tt_2 142 rfl rfl
theorem tw_1_143 : (Jvm.Cond.methodLink "OneRing$Search" (77 : Nat) ({ cls := "java/lang/Math", name := "min", desc := "(II)I" } : Jvm.MethodName)) ∈ TT := tt_2 143 rfl rfl
theorem tw_1_144 : (Jvm.Cond.methodLink "OneRing$Search" (92 : Nat) ({ cls := "OneRing$Parish", name := "figure", desc := "(II)I" } : Jvm.MethodName)) ∈ TT := tt_2 144 rfl rfl
theorem tw_1_145 : (Jvm.Cond.methodLink "OneRing$Search" (98 : Nat) ({ cls := "OneRing$Stand", name := "hoursBetween", desc := "(II)I" } : Jvm.MethodName)) ∈ TT := tt_2 145 rfl rfl
theorem tw_1_146 : (Jvm.Cond.methodLink "OneRing$Search" (101 : Nat) ({ cls := "OneRing$Parish", name := "begin", desc := "(III)I" } : Jvm.MethodName)) ∈ TT := tt_2 146 rfl rfl
theorem tw_1_147 : (Jvm.Cond.methodLink "OneRing$Search" (105 : Nat) ({ cls := "OneRing$Parish", name := "ringFree", desc := "(II)I" } : Jvm.MethodName)) ∈ TT := tt_2 147 rfl rfl
theorem tw_1_148 : (Jvm.Cond.methodLink "OneRingLaw" (68 : Nat) ({ cls := "OneRing", name := "slack", desc := "()I" } : Jvm.MethodName)) ∈ TT := tt_2 148 rfl rfl
theorem tw_1_149 : (Jvm.Cond.instanceMethod ({ cls := "OneRing", name := "slack", desc := "()I" } : Jvm.MethodName)) ∈ TT := tt_2 149 rfl rfl
theorem tw_1_150 : (Jvm.Cond.selects "OneRing" ({ cls := "OneRing", name := "slack", desc := "()I" } : Jvm.MethodName) ({ cls := "OneRing", name := "slack", desc := "()I" } : Jvm.MethodName)) ∈ TT := tt_2 150 rfl rfl
theorem tw_1_151 : (Jvm.Cond.code ({ cls := "OneRing", name := "slack", desc := "()I" } : Jvm.MethodName) prog_1_method_15_code (3 : Nat) (Option.some Jvm.ClassFile.FieldType.int)) ∈ TT := tt_2 151 rfl rfl
theorem tw_1_152 : (Jvm.Cond.methodLink "OneRing" (161 : Nat) ({ cls := "OneRing", name := "mostFrom", desc := "(LOneRing$Stand;)I" } : Jvm.MethodName)) ∈ TT := tt_2 152 rfl rfl
theorem tw_1_154 : (Jvm.Cond.instanceMethod ({ cls := "OneRing", name := "mostFrom", desc := "(LOneRing$Stand;)I" } : Jvm.MethodName)) ∈ TT := tt_2 154 rfl rfl
theorem tw_1_155 : (Jvm.Cond.code ({ cls := "OneRing", name := "mostFrom", desc := "(LOneRing$Stand;)I" } : Jvm.MethodName) prog_1_method_37_code (2 : Nat) (Option.some Jvm.ClassFile.FieldType.int)) ∈ TT := tt_2 155 rfl rfl
theorem tw_1_156 : (Jvm.Cond.methodLink "OneRing" (165 : Nat) ({ cls := "OneRing$Stand", name := "take", desc := "(LOneRing$Stand;)V" } : Jvm.MethodName)) ∈ TT := tt_2 156 rfl rfl
theorem tw_1_157 : (Jvm.Cond.methodLink "OneRingLaw" (72 : Nat) ({ cls := "OneRing", name := "mending", desc := "(Z)I" } : Jvm.MethodName)) ∈ TT := tt_2 157 rfl rfl
theorem tw_1_158 : (Jvm.Cond.instanceMethod ({ cls := "OneRing", name := "mending", desc := "(Z)I" } : Jvm.MethodName)) ∈ TT := tt_2 158 rfl rfl
theorem tw_1_159 : (Jvm.Cond.selects "OneRing" ({ cls := "OneRing", name := "mending", desc := "(Z)I" } : Jvm.MethodName) ({ cls := "OneRing", name := "mending", desc := "(Z)I" } : Jvm.MethodName)) ∈ TT := tt_2 159 rfl rfl
theorem tw_1_160 : (Jvm.Cond.code ({ cls := "OneRing", name := "mending", desc := "(Z)I" } : Jvm.MethodName) prog_1_method_16_code (6 : Nat) (Option.some Jvm.ClassFile.FieldType.int)) ∈ TT := tt_2 160 rfl rfl
theorem tw_1_161 : (Jvm.Cond.methodLink "OneRingLaw" (77 : Nat) ({ cls := "OneRing", name := "judge", desc := "(II)I" } : Jvm.MethodName)) ∈ TT := tt_2 161 rfl rfl
theorem tw_1_162 : (Jvm.Cond.instanceMethod ({ cls := "OneRing", name := "judge", desc := "(II)I" } : Jvm.MethodName)) ∈ TT := tt_2 162 rfl rfl
theorem tw_1_163 : (Jvm.Cond.selects "OneRing" ({ cls := "OneRing", name := "judge", desc := "(II)I" } : Jvm.MethodName) ({ cls := "OneRing", name := "judge", desc := "(II)I" } : Jvm.MethodName)) ∈ TT := tt_2 163 rfl rfl
theorem tw_1_164 : (Jvm.Cond.code ({ cls := "OneRing", name := "judge", desc := "(II)I" } : Jvm.MethodName) prog_1_method_17_code (4 : Nat) (Option.some Jvm.ClassFile.FieldType.int)) ∈ TT := tt_2 164 rfl rfl
theorem tw_1_165 : (Jvm.Cond.methodLink "OneRing" (168 : Nat) ({ cls := "OneRing", name := "isRow", desc := "(II)Z" } : Jvm.MethodName)) ∈ TT := tt_2 165 rfl rfl
theorem tw_1_166 : (Jvm.Cond.static ({ cls := "OneRing", name := "isRow", desc := "(II)Z" } : Jvm.MethodName)) ∈ TT := tt_2 166 rfl rfl
theorem tw_1_167 : (Jvm.Cond.code ({ cls := "OneRing", name := "isRow", desc := "(II)Z" } : Jvm.MethodName) prog_1_method_34_code (2 : Nat) (Option.some Jvm.ClassFile.FieldType.boolean)) ∈ TT := tt_2 167 rfl rfl
theorem tw_1_168 : (Jvm.Cond.fieldLink "OneRing" (237 : Nat) "OneRing" "TENS" "[I") ∈ TT := tt_2 168 rfl rfl
theorem tw_1_170 : (Jvm.Cond.methodLink "OneRing" (172 : Nat) ({ cls := "OneRing", name := "weddingInRow", desc := "(III)I" } : Jvm.MethodName)) ∈ TT := tt_2 170 rfl rfl
theorem tw_1_171 : (Jvm.Cond.static ({ cls := "OneRing", name := "weddingInRow", desc := "(III)I" } : Jvm.MethodName)) ∈ TT := tt_2 171 rfl rfl
theorem tw_1_172 : (Jvm.Cond.code ({ cls := "OneRing", name := "weddingInRow", desc := "(III)I" } : Jvm.MethodName) prog_1_method_35_code (4 : Nat) (Option.some Jvm.ClassFile.FieldType.int)) ∈ TT := tt_2 172 rfl rfl
theorem tw_1_173 : (Jvm.Cond.methodLink "OneRingLaw" (81 : Nat) ({ cls := "OneRing", name := "later", desc := "(I)I" } : Jvm.MethodName)) ∈ TT := tt_2 173 rfl rfl
theorem tw_1_174 : (Jvm.Cond.instanceMethod ({ cls := "OneRing", name := "later", desc := "(I)I" } : Jvm.MethodName)) ∈ TT := tt_2 174 rfl rfl
theorem tw_1_175 : (Jvm.Cond.selects "OneRing" ({ cls := "OneRing", name := "later", desc := "(I)I" } : Jvm.MethodName) ({ cls := "OneRing", name := "later", desc := "(I)I" } : Jvm.MethodName)) ∈ TT := tt_2 175 rfl rfl
theorem tw_1_176 : (Jvm.Cond.code ({ cls := "OneRing", name := "later", desc := "(I)I" } : Jvm.MethodName) prog_1_method_18_code (4 : Nat) (Option.some Jvm.ClassFile.FieldType.int)) ∈ TT := tt_2 176 rfl rfl
theorem tw_1_177 : (Jvm.Cond.methodLink "OneRing" (176 : Nat) ({ cls := "OneRing$Parish", name := "begin", desc := "(III)I" } : Jvm.MethodName)) ∈ TT := tt_2 177 rfl rfl
theorem tw_1_178 : (Jvm.Cond.methodLink "OneRingLaw" (85 : Nat) ({ cls := "OneRing", name := "see", desc := "(II)I" } : Jvm.MethodName)) ∈ TT := tt_2 178 rfl rfl
theorem tw_1_179 : (Jvm.Cond.instanceMethod ({ cls := "OneRing", name := "see", desc := "(II)I" } : Jvm.MethodName)) ∈ TT := tt_2 179 rfl rfl
theorem tw_1_180 : (Jvm.Cond.selects "OneRing" ({ cls := "OneRing", name := "see", desc := "(II)I" } : Jvm.MethodName) ({ cls := "OneRing", name := "see", desc := "(II)I" } : Jvm.MethodName)) ∈ TT := tt_2 180 rfl rfl
theorem tw_1_181 : (Jvm.Cond.code ({ cls := "OneRing", name := "see", desc := "(II)I" } : Jvm.MethodName) prog_1_method_19_code (3 : Nat) (Option.some Jvm.ClassFile.FieldType.int)) ∈ TT := tt_2 181 rfl rfl
theorem tw_1_182 : (Jvm.Cond.methodLink "OneRingLaw" (89 : Nat) ({ cls := "OneRing", name := "unsee", desc := "()I" } : Jvm.MethodName)) ∈ TT := tt_2 182 rfl rfl
theorem tw_1_183 : (Jvm.Cond.instanceMethod ({ cls := "OneRing", name := "unsee", desc := "()I" } : Jvm.MethodName)) ∈ TT := tt_2 183 rfl rfl
theorem tw_1_184 : (Jvm.Cond.selects "OneRing" ({ cls := "OneRing", name := "unsee", desc := "()I" } : Jvm.MethodName) ({ cls := "OneRing", name := "unsee", desc := "()I" } : Jvm.MethodName)) ∈ TT := tt_2 184 rfl rfl
theorem tw_1_185 : (Jvm.Cond.code ({ cls := "OneRing", name := "unsee", desc := "()I" } : Jvm.MethodName) prog_1_method_20_code (2 : Nat) (Option.some Jvm.ClassFile.FieldType.int)) ∈ TT := tt_2 185 rfl rfl
theorem tw_1_186 : (Jvm.Cond.methodLink "OneRingLaw" (93 : Nat) ({ cls := "OneRing", name := "rows", desc := "(II)I" } : Jvm.MethodName)) ∈ TT := tt_2 186 rfl rfl
theorem tw_1_187 : (Jvm.Cond.instanceMethod ({ cls := "OneRing", name := "rows", desc := "(II)I" } : Jvm.MethodName)) ∈ TT := tt_2 187 rfl rfl
theorem tw_1_188 : (Jvm.Cond.selects "OneRing" ({ cls := "OneRing", name := "rows", desc := "(II)I" } : Jvm.MethodName) ({ cls := "OneRing", name := "rows", desc := "(II)I" } : Jvm.MethodName)) ∈ TT := tt_2 188 rfl rfl
theorem tw_1_189 : (Jvm.Cond.code ({ cls := "OneRing", name := "rows", desc := "(II)I" } : Jvm.MethodName) prog_1_method_21_code (4 : Nat) (Option.some Jvm.ClassFile.FieldType.int)) ∈ TT := tt_2 189 rfl rfl
theorem tw_1_190 : (Jvm.Cond.methodLink "OneRing" (179 : Nat) ({ cls := "OneRing$Search", name := "reset", desc := "(LOneRing$Stand;I)V" } : Jvm.MethodName)) ∈ TT := tt_2 190 rfl rfl
theorem tw_1_191 : (Jvm.Cond.methodLink "OneRing" (183 : Nat) ({ cls := "OneRing$Search", name := "allowOnly", desc := "(II)V" } : Jvm.MethodName)) ∈ TT := tt_2 191 rfl rfl
theorem tw_1_192 : (Jvm.Cond.instanceMethod ({ cls := "OneRing$Search", name := "allowOnly", desc := "(II)V" } : Jvm.MethodName)) ∈ TT := tt_2 192 rfl rfl
theorem tw_1_193 : (Jvm.Cond.selects "OneRing$Search" ({ cls := "OneRing$Search", name := "allowOnly", desc := "(II)V" } : Jvm.MethodName) ({ cls := "OneRing$Search", name := "allowOnly", desc := "(II)V" } : Jvm.MethodName)) ∈ TT := tt_2 193 rfl rfl
theorem tw_1_194 : (Jvm.Cond.code ({ cls := "OneRing$Search", name := "allowOnly", desc := "(II)V" } : Jvm.MethodName) prog_4_method_4_code (3 : Nat) (Option.none : Option Jvm.ClassFile.FieldType)) ∈ TT := tt_2 194 rfl rfl
theorem tw_1_195 : (Jvm.Cond.methodLink "OneRing" (187 : Nat) ({ cls := "OneRing$Search", name := "run", desc := "(LOneRing$Parish;)V" } : Jvm.MethodName)) ∈ TT := tt_2 195 rfl rfl
theorem tw_1_196 : (Jvm.Cond.methodLink "OneRing" (197 : Nat) ({ cls := "OneRing$Parish", name := "everyone", desc := "()I" } : Jvm.MethodName)) ∈ TT := tt_2 196 rfl rfl
theorem tw_1_197 : (Jvm.Cond.instanceMethod ({ cls := "OneRing$Parish", name := "everyone", desc := "()I" } : Jvm.MethodName)) ∈ TT := tt_2 197 rfl rfl
theorem tw_1_198 : (Jvm.Cond.selects "OneRing$Parish" ({ cls := "OneRing$Parish", name := "everyone", desc := "()I" } : Jvm.MethodName) ({ cls := "OneRing$Parish", name := "everyone", desc := "()I" } : Jvm.MethodName)) ∈ TT := tt_2 198 rfl rfl
theorem tw_1_199 : (Jvm.Cond.code ({ cls := "OneRing$Parish", name := "everyone", desc := "()I" } : Jvm.MethodName) prog_3_method_4_code (1 : Nat) (Option.some Jvm.ClassFile.FieldType.int)) ∈ TT := tt_2 199 rfl rfl
theorem tw_1_200 : (Jvm.Cond.methodLink "OneRingLaw" (97 : Nat) ({ cls := "OneRing", name := "share", desc := "(IZ)I" } : Jvm.MethodName)) ∈ TT := tt_2 200 rfl rfl
theorem tw_1_201 : (Jvm.Cond.instanceMethod ({ cls := "OneRing", name := "share", desc := "(IZ)I" } : Jvm.MethodName)) ∈ TT := tt_2 201 rfl rfl
theorem tw_1_202 : (Jvm.Cond.selects "OneRing" ({ cls := "OneRing", name := "share", desc := "(IZ)I" } : Jvm.MethodName) ({ cls := "OneRing", name := "share", desc := "(IZ)I" } : Jvm.MethodName)) ∈ TT := tt_2 202 rfl rfl
theorem tw_1_203 : (Jvm.Cond.code ({ cls := "OneRing", name := "share", desc := "(IZ)I" } : Jvm.MethodName) prog_1_method_22_code (10 : Nat) (Option.some Jvm.ClassFile.FieldType.int)) ∈ TT := tt_2 203 rfl rfl
theorem tw_1_204 : (Jvm.Cond.methodLink "OneRing" (203 : Nat) ({ cls := "OneRing", name := "fraction", desc := "(IIZ)I" } : Jvm.MethodName)) ∈ TT := tt_2 204 rfl rfl
theorem tw_1_205 : (Jvm.Cond.static ({ cls := "OneRing", name := "fraction", desc := "(IIZ)I" } : Jvm.MethodName)) ∈ TT := tt_2 205 rfl rfl
theorem tw_1_206 : (Jvm.Cond.code ({ cls := "OneRing", name := "fraction", desc := "(IIZ)I" } : Jvm.MethodName) prog_1_method_38_code (4 : Nat) (Option.some Jvm.ClassFile.FieldType.int)) ∈ TT := tt_2 206 rfl rfl
theorem tw_1_207 : (Jvm.Cond.methodLink "OneRing" (253 : Nat) ({ cls := "OneRing", name := "greatestDivisor", desc := "(II)I" } : Jvm.MethodName)) ∈ TT := tt_2 207 rfl rfl
theorem tw_1_208 : (Jvm.Cond.static ({ cls := "OneRing", name := "greatestDivisor", desc := "(II)I" } : Jvm.MethodName)) ∈ TT := tt_2 208 rfl rfl
theorem tw_1_209 : (Jvm.Cond.code ({ cls := "OneRing", name := "greatestDivisor", desc := "(II)I" } : Jvm.MethodName) prog_1_method_39_code (6 : Nat) (Option.some Jvm.ClassFile.FieldType.int)) ∈ TT := tt_2 209 rfl rfl
theorem tw_1_210 : (Jvm.Cond.methodLink "OneRing" (207 : Nat) ({ cls := "OneRing", name := "fillMostOf", desc := "()V" } : Jvm.MethodName)) ∈ TT := tt_2 210 rfl rfl
theorem tw_1_212 : (Jvm.Cond.instanceMethod ({ cls := "OneRing", name := "fillMostOf", desc := "()V" } : Jvm.MethodName)) ∈ TT := tt_2 212 rfl rfl
theorem tw_1_213 : (Jvm.Cond.code ({ cls := "OneRing", name := "fillMostOf", desc := "()V" } : Jvm.MethodName) prog_1_method_40_code (4 : Nat) (Option.none : Option Jvm.ClassFile.FieldType)) ∈ TT := tt_2 213 rfl rfl
theorem tw_1_214 : (Jvm.Cond.methodLink "OneRing" (213 : Nat) ({ cls := "java/lang/Integer", name := "bitCount", desc := "(I)I" } : Jvm.MethodName)) ∈ TT := tt_2 214 rfl rfl
theorem tw_1_215 : (Jvm.Cond.static ({ cls := "java/lang/Integer", name := "bitCount", desc := "(I)I" } : Jvm.MethodName)) ∈ TT := tt_2 215 rfl rfl
theorem tw_1_216 : (Jvm.Cond.code ({ cls := "java/lang/Integer", name := "bitCount", desc := "(I)I" } : Jvm.MethodName) prog_9_method_49_code (1 : Nat) (Option.some Jvm.ClassFile.FieldType.int)) ∈ TT := tt_2 216 rfl rfl
theorem tw_1_217 : (Jvm.Cond.constant "java/lang/Integer" (265 : Nat) (1431655765 : Int32)) ∈ TT := tt_2 217 rfl rfl
theorem tw_1_218 : (Jvm.Cond.constant "java/lang/Integer" (266 : Nat) (858993459 : Int32)) ∈ TT := tt_2 218 rfl rfl
theorem tw_1_219 : (Jvm.Cond.constant "java/lang/Integer" (267 : Nat) (252645135 : Int32)) ∈ TT := tt_2 219 rfl rfl
theorem tw_1_220 : (Jvm.Cond.methodLink "OneRing" (259 : Nat) ({ cls := "java/lang/Math", name := "max", desc := "(II)I" } : Jvm.MethodName)) ∈ TT := tt_2 220 rfl rfl
theorem tw_1_221 : (Jvm.Cond.fieldLink "OneRing" (219 : Nat) "OneRing" "FACTORIALS" "[I") ∈ TT := tt_2 221 rfl rfl
theorem tw_1_223 : (Jvm.Cond.methodLink "OneRingLaw" (102 : Nat) ({ cls := "OneRing", name := "rests", desc := "(III)I" } : Jvm.MethodName)) ∈ TT := tt_2 223 rfl rfl
theorem tw_1_224 : (Jvm.Cond.instanceMethod ({ cls := "OneRing", name := "rests", desc := "(III)I" } : Jvm.MethodName)) ∈ TT := tt_2 224 rfl rfl
theorem tw_1_225 : (Jvm.Cond.selects "OneRing" ({ cls := "OneRing", name := "rests", desc := "(III)I" } : Jvm.MethodName) ({ cls := "OneRing", name := "rests", desc := "(III)I" } : Jvm.MethodName)) ∈ TT := tt_2 225 rfl rfl
theorem tw_1_226 : (Jvm.Cond.code ({ cls := "OneRing", name := "rests", desc := "(III)I" } : Jvm.MethodName) prog_1_method_23_code (7 : Nat) (Option.some Jvm.ClassFile.FieldType.int)) ∈ TT := tt_2 226 rfl rfl
theorem tw_1_227 : (Jvm.Cond.methodLink "OneRing" (222 : Nat) ({ cls := "OneRing", name := "isAtRest", desc := "(IIII)Z" } : Jvm.MethodName)) ∈ TT := tt_2 227 rfl rfl
theorem tw_1_229 : (Jvm.Cond.instanceMethod ({ cls := "OneRing", name := "isAtRest", desc := "(IIII)Z" } : Jvm.MethodName)) ∈ TT := tt_2 229 rfl rfl
theorem tw_1_230 : (Jvm.Cond.code ({ cls := "OneRing", name := "isAtRest", desc := "(IIII)Z" } : Jvm.MethodName) prog_1_method_41_code (5 : Nat) (Option.some Jvm.ClassFile.FieldType.boolean)) ∈ TT := tt_2 230 rfl rfl
theorem tw_1_231 : (Jvm.Cond.methodLink "OneRing" (264 : Nat) ({ cls := "OneRing", name := "gain", desc := "(IIII)I" } : Jvm.MethodName)) ∈ TT := tt_2 231 rfl rfl
theorem tw_1_233 : (Jvm.Cond.instanceMethod ({ cls := "OneRing", name := "gain", desc := "(IIII)I" } : Jvm.MethodName)) ∈ TT := tt_2 233 rfl rfl
theorem tw_1_234 : (Jvm.Cond.code ({ cls := "OneRing", name := "gain", desc := "(IIII)I" } : Jvm.MethodName) prog_1_method_42_code (8 : Nat) (Option.some Jvm.ClassFile.FieldType.int)) ∈ TT := tt_2 234 rfl rfl
theorem tw_1_235 : (Jvm.Cond.methodLink "OneRingLaw" (107 : Nat) ({ cls := "OneRing", name := "falls", desc := "(IIIZ)I" } : Jvm.MethodName)) ∈ TT := tt_2 235 rfl rfl
theorem tw_1_236 : (Jvm.Cond.instanceMethod ({ cls := "OneRing", name := "falls", desc := "(IIIZ)I" } : Jvm.MethodName)) ∈ TT := tt_2 236 rfl rfl
theorem tw_1_237 : (Jvm.Cond.selects "OneRing" ({ cls := "OneRing", name := "falls", desc := "(IIIZ)I" } : Jvm.MethodName) ({ cls := "OneRing", name := "falls", desc := "(IIIZ)I" } : Jvm.MethodName)) ∈ TT := tt_2 237 rfl rfl
theorem tw_1_238 : (Jvm.Cond.code ({ cls := "OneRing", name := "falls", desc := "(IIIZ)I" } : Jvm.MethodName) prog_1_method_24_code (8 : Nat) (Option.some Jvm.ClassFile.FieldType.int)) ∈ TT := tt_2 238 rfl rfl
theorem tw_1_239 : (Jvm.Cond.methodLink "OneRing" (226 : Nat) ({ cls := "OneRing", name := "isRowOfOpenWeddings", desc := "(II)Z" } : Jvm.MethodName)) ∈ TT := tt_2 239 rfl rfl
theorem tw_2_1 : (Jvm.Cond.instanceMethod ({ cls := "OneRing", name := "isRowOfOpenWeddings", desc := "(II)Z" } : Jvm.MethodName)) ∈ TT := tt_3 1 rfl rfl
theorem tw_2_2 : (Jvm.Cond.code ({ cls := "OneRing", name := "isRowOfOpenWeddings", desc := "(II)Z" } : Jvm.MethodName) prog_1_method_43_code (6 : Nat) (Option.some Jvm.ClassFile.FieldType.boolean)) ∈ TT := tt_3 2 rfl rfl
theorem tw_2_3 : (Jvm.Cond.methodLink "OneRing" (229 : Nat) ({ cls := "OneRing", name := "weightOfFalls", desc := "(IIII)I" } : Jvm.MethodName)) ∈ TT := tt_3 3 rfl rfl
theorem tw_2_5 : (Jvm.Cond.instanceMethod ({ cls := "OneRing", name := "weightOfFalls", desc := "(IIII)I" } : Jvm.MethodName)) ∈ TT := tt_3 5 rfl rfl
theorem tw_2_6 : (Jvm.Cond.code ({ cls := "OneRing", name := "weightOfFalls", desc := "(IIII)I" } : Jvm.MethodName) prog_1_method_44_code (10 : Nat) (Option.some Jvm.ClassFile.FieldType.int)) ∈ TT := tt_3 6 rfl rfl
theorem tw_2_7 : (Jvm.Cond.methodLink "OneRing" (233 : Nat) ({ cls := "OneRing", name := "holdsWithFalls", desc := "(III)Z" } : Jvm.MethodName)) ∈ TT := tt_3 7 rfl rfl
theorem tw_2_9 : (Jvm.Cond.instanceMethod ({ cls := "OneRing", name := "holdsWithFalls", desc := "(III)Z" } : Jvm.MethodName)) ∈ TT := tt_3 9 rfl rfl
theorem tw_2_10 : (Jvm.Cond.code ({ cls := "OneRing", name := "holdsWithFalls", desc := "(III)Z" } : Jvm.MethodName) prog_1_method_45_code (5 : Nat) (Option.some Jvm.ClassFile.FieldType.boolean)) ∈ TT := tt_3 10 rfl rfl
theorem tw_2_11 : (Jvm.Cond.methodLink "OneRingLaw" (114 : Nat) ({ cls := "OneRing", name := "seed", desc := "(J)J" } : Jvm.MethodName)) ∈ TT := tt_3 11 rfl rfl
theorem tw_2_12 : (Jvm.Cond.instanceMethod ({ cls := "OneRing", name := "seed", desc := "(J)J" } : Jvm.MethodName)) ∈ TT := tt_3 12 rfl rfl
theorem tw_2_13 : (Jvm.Cond.selects "OneRing" ({ cls := "OneRing", name := "seed", desc := "(J)J" } : Jvm.MethodName) ({ cls := "OneRing", name := "seed", desc := "(J)J" } : Jvm.MethodName)) ∈ TT := tt_3 13 rfl rfl
theorem tw_2_14 : (Jvm.Cond.code ({ cls := "OneRing", name := "seed", desc := "(J)J" } : Jvm.MethodName) prog_1_method_25_code (5 : Nat) (Option.some Jvm.ClassFile.FieldType.long)) ∈ TT := tt_3 14 rfl rfl
theorem tw_2_15 : (Jvm.Cond.methodLink "OneRingLaw" (119 : Nat) ({ cls := "OneRing", name := "summers", desc := "(I)I" } : Jvm.MethodName)) ∈ TT := tt_3 15 rfl rfl
theorem tw_2_16 : (Jvm.Cond.instanceMethod ({ cls := "OneRing", name := "summers", desc := "(I)I" } : Jvm.MethodName)) ∈ TT := tt_3 16 rfl rfl
theorem tw_2_17 : (Jvm.Cond.selects "OneRing" ({ cls := "OneRing", name := "summers", desc := "(I)I" } : Jvm.MethodName) ({ cls := "OneRing", name := "summers", desc := "(I)I" } : Jvm.MethodName)) ∈ TT := tt_3 17 rfl rfl
theorem tw_2_18 : (Jvm.Cond.code ({ cls := "OneRing", name := "summers", desc := "(I)I" } : Jvm.MethodName) prog_1_method_26_code (5 : Nat) (Option.some Jvm.ClassFile.FieldType.int)) ∈ TT := tt_3 18 rfl rfl
theorem tw_2_19 : (Jvm.Cond.constantLong "OneRing" (240 : Nat) (6364136223846793005 : Int64)) ∈ TT := tt_3 19 rfl rfl
theorem tw_2_20 : (Jvm.Cond.constantLong "OneRing" (242 : Nat) (1442695040888963407 : Int64)) ∈ TT := tt_3 20 rfl rfl
theorem tw_2_21 : (Jvm.Cond.methodLink "OneRingLaw" (123 : Nat) ({ cls := "OneRing", name := "keep", desc := "(I)I" } : Jvm.MethodName)) ∈ TT := tt_3 21 rfl rfl
theorem tw_2_22 : (Jvm.Cond.instanceMethod ({ cls := "OneRing", name := "keep", desc := "(I)I" } : Jvm.MethodName)) ∈ TT := tt_3 22 rfl rfl
theorem tw_2_23 : (Jvm.Cond.selects "OneRing" ({ cls := "OneRing", name := "keep", desc := "(I)I" } : Jvm.MethodName) ({ cls := "OneRing", name := "keep", desc := "(I)I" } : Jvm.MethodName)) ∈ TT := tt_3 23 rfl rfl
theorem tw_2_24 : (Jvm.Cond.code ({ cls := "OneRing", name := "keep", desc := "(I)I" } : Jvm.MethodName) prog_1_method_27_code (3 : Nat) (Option.some Jvm.ClassFile.FieldType.int)) ∈ TT := tt_3 24 rfl rfl
theorem tw_2_25 : (Jvm.Cond.methodLink "OneRing" (244 : Nat) ({ cls := "OneRing", name := "isSlot", desc := "(I)Z" } : Jvm.MethodName)) ∈ TT := tt_3 25 rfl rfl
theorem tw_2_27 : (Jvm.Cond.instanceMethod ({ cls := "OneRing", name := "isSlot", desc := "(I)Z" } : Jvm.MethodName)) ∈ TT := tt_3 27 rfl rfl
theorem tw_2_28 : (Jvm.Cond.code ({ cls := "OneRing", name := "isSlot", desc := "(I)Z" } : Jvm.MethodName) prog_1_method_32_code (2 : Nat) (Option.some Jvm.ClassFile.FieldType.boolean)) ∈ TT := tt_3 28 rfl rfl
theorem tw_2_29 : (Jvm.Cond.methodLink "OneRingLaw" (127 : Nat) ({ cls := "OneRing", name := "again", desc := "(I)I" } : Jvm.MethodName)) ∈ TT := tt_3 29 rfl rfl
theorem tw_2_30 : (Jvm.Cond.instanceMethod ({ cls := "OneRing", name := "again", desc := "(I)I" } : Jvm.MethodName)) ∈ TT := tt_3 30 rfl rfl
theorem tw_2_31 : (Jvm.Cond.selects "OneRing" ({ cls := "OneRing", name := "again", desc := "(I)I" } : Jvm.MethodName) ({ cls := "OneRing", name := "again", desc := "(I)I" } : Jvm.MethodName)) ∈ TT := tt_3 31 rfl rfl
theorem tw_2_32 : (Jvm.Cond.code ({ cls := "OneRing", name := "again", desc := "(I)I" } : Jvm.MethodName) prog_1_method_28_code (2 : Nat) (Option.some Jvm.ClassFile.FieldType.int)) ∈ TT := tt_3 32 rfl rfl
theorem tw_2_33 : (Jvm.Cond.methodLink "OneRingLaw" (131 : Nat) ({ cls := "OneRing", name := "count", desc := "(I)I" } : Jvm.MethodName)) ∈ TT := tt_3 33 rfl rfl
theorem tw_2_34 : (Jvm.Cond.instanceMethod ({ cls := "OneRing", name := "count", desc := "(I)I" } : Jvm.MethodName)) ∈ TT := tt_3 34 rfl rfl
theorem tw_2_35 : (Jvm.Cond.selects "OneRing" ({ cls := "OneRing", name := "count", desc := "(I)I" } : Jvm.MethodName) ({ cls := "OneRing", name := "count", desc := "(I)I" } : Jvm.MethodName)) ∈ TT := tt_3 35 rfl rfl
theorem tw_2_36 : (Jvm.Cond.code ({ cls := "OneRing", name := "count", desc := "(I)I" } : Jvm.MethodName) prog_1_method_29_code (2 : Nat) (Option.some Jvm.ClassFile.FieldType.int)) ∈ TT := tt_3 36 rfl rfl
theorem tw_2_37 : (Jvm.Cond.methodLink "OneRing" (250 : Nat) ({ cls := "OneRing", name := "holdingNext", desc := "()I" } : Jvm.MethodName)) ∈ TT := tt_3 37 rfl rfl
theorem tw_2_39 : (Jvm.Cond.instanceMethod ({ cls := "OneRing", name := "holdingNext", desc := "()I" } : Jvm.MethodName)) ∈ TT := tt_3 39 rfl rfl
theorem tw_2_40 : (Jvm.Cond.code ({ cls := "OneRing", name := "holdingNext", desc := "()I" } : Jvm.MethodName) prog_1_method_36_code (3 : Nat) (Option.some Jvm.ClassFile.FieldType.int)) ∈ TT := tt_3 40 rfl rfl
theorem tw_2_41 : (Jvm.Cond.classLink "OneRingLaw" (10 : Nat) "OneRingModel") ∈ TT := tt_3 41 rfl rfl
theorem tw_2_42 : (Jvm.Cond.instantiable "OneRingModel" (21 : Nat)) ∈ TT := tt_3 42 rfl rfl
theorem tw_2_43 : (Jvm.Cond.methodLink "OneRingLaw" (12 : Nat) ({ cls := "OneRingModel", name := "<init>", desc := "()V" } : Jvm.MethodName)) ∈ TT := tt_3 43 rfl rfl
theorem tw_2_44 : (Jvm.Cond.instanceMethod ({ cls := "OneRingModel", name := "<init>", desc := "()V" } : Jvm.MethodName)) ∈ TT := tt_3 44 rfl rfl
theorem tw_2_45 : (Jvm.Cond.code ({ cls := "OneRingModel", name := "<init>", desc := "()V" } : Jvm.MethodName) prog_8_method_1_code (2 : Nat) (Option.none : Option Jvm.ClassFile.FieldType)) ∈ TT := tt_3 45 rfl rfl
theorem tw_2_46 : (Jvm.Cond.methodLink "OneRingModel" (1 : Nat) ({ cls := "java/lang/Object", name := "<init>", desc := "()V" } : Jvm.MethodName)) ∈ TT := tt_3 46 rfl rfl
theorem tw_2_47 : (Jvm.Cond.fieldLink "OneRingModel" (80 : Nat) "OneRingModel" "weddings" "I") ∈ TT := tt_3 47 rfl rfl
theorem tw_2_48 : (Jvm.Cond.fieldLink "OneRingModel" (53 : Nat) "OneRingModel" "sunset" "I") ∈ TT := tt_3 48 rfl rfl
theorem tw_2_49 : (Jvm.Cond.fieldLink "OneRingModel" (7 : Nat) "OneRingModel" "church" "[I") ∈ TT := tt_3 49 rfl rfl
theorem tw_2_50 : (Jvm.Cond.fieldLink "OneRingModel" (13 : Nat) "OneRingModel" "from" "[I") ∈ TT := tt_3 50 rfl rfl
theorem tw_2_51 : (Jvm.Cond.fieldLink "OneRingModel" (16 : Nat) "OneRingModel" "upTo" "[I") ∈ TT := tt_3 51 rfl rfl
theorem tw_2_52 : (Jvm.Cond.fieldLink "OneRingModel" (19 : Nat) "OneRingModel" "hours" "[I") ∈ TT := tt_3 52 rfl rfl
theorem tw_2_53 : (Jvm.Cond.fieldLink "OneRingModel" (22 : Nat) "OneRingModel" "kind" "[I") ∈ TT := tt_3 53 rfl rfl
theorem tw_2_54 : (Jvm.Cond.fieldLink "OneRingModel" (25 : Nat) "OneRingModel" "now" "[I") ∈ TT := tt_3 54 rfl rfl
theorem tw_2_55 : (Jvm.Cond.fieldLink "OneRingModel" (28 : Nat) "OneRingModel" "text" "[I") ∈ TT := tt_3 55 rfl rfl
theorem tw_2_56 : (Jvm.Cond.fieldLink "OneRingModel" (63 : Nat) "OneRingModel" "length" "I") ∈ TT := tt_3 56 rfl rfl
theorem tw_2_57 : (Jvm.Cond.fieldLink "OneRingModel" (83 : Nat) "OneRingModel" "acts" "I") ∈ TT := tt_3 57 rfl rfl
theorem tw_2_58 : (Jvm.Cond.fieldLink "OneRingModel" (117 : Nat) "OneRingModel" "next" "I") ∈ TT := tt_3 58 rfl rfl
theorem tw_2_59 : (Jvm.Cond.fieldLink "OneRingModel" (31 : Nat) "OneRingModel" "row" "[I") ∈ TT := tt_3 59 rfl rfl
theorem tw_2_60 : (Jvm.Cond.fieldLink "OneRingModel" (34 : Nat) "OneRingModel" "earliest" "[I") ∈ TT := tt_3 60 rfl rfl
theorem tw_2_61 : (Jvm.Cond.fieldLink "OneRingModel" (160 : Nat) "OneRingModel" "seen" "I") ∈ TT := tt_3 61 rfl rfl
theorem tw_2_62 : (Jvm.Cond.fieldLink "OneRingModel" (37 : Nat) "OneRingModel" "seenBehind" "[I") ∈ TT := tt_3 62 rfl rfl
theorem tw_2_63 : (Jvm.Cond.fieldLink "OneRingModel" (40 : Nat) "OneRingModel" "seenIn" "[I") ∈ TT := tt_3 63 rfl rfl
theorem tw_2_64 : (Jvm.Cond.fieldLink "OneRingModel" (43 : Nat) "OneRingModel" "mosts" "[I") ∈ TT := tt_3 64 rfl rfl
theorem tw_2_65 : (Jvm.Cond.fieldLink "OneRingModel" (203 : Nat) "OneRingModel" "seed" "J") ∈ TT := tt_3 65 rfl rfl
theorem tw_2_66 : (Jvm.Cond.fieldLink "OneRingModel" (46 : Nat) "OneRingModel" "isKept" "[Z") ∈ TT := tt_3 66 rfl rfl
theorem tw_2_67 : (Jvm.Cond.fieldLink "OneRingModel" (50 : Nat) "OneRingModel" "kept" "[I") ∈ TT := tt_3 67 rfl rfl
theorem tw_2_68 : (Jvm.Cond.lays "OneRingModel" "OneRingModel" "weddings" "I") ∈ TT := tt_3 68 rfl rfl
theorem tw_2_70 : (Jvm.Cond.lays "OneRingModel" "OneRingModel" "sunset" "I") ∈ TT := tt_3 70 rfl rfl
theorem tw_2_72 : (Jvm.Cond.laysFinal "OneRingModel" "OneRingModel" "church" "[I") ∈ TT := tt_3 72 rfl rfl
theorem tw_2_74 : (Jvm.Cond.laysFinal "OneRingModel" "OneRingModel" "from" "[I") ∈ TT := tt_3 74 rfl rfl
theorem tw_2_76 : (Jvm.Cond.laysFinal "OneRingModel" "OneRingModel" "upTo" "[I") ∈ TT := tt_3 76 rfl rfl
theorem tw_2_78 : (Jvm.Cond.laysFinal "OneRingModel" "OneRingModel" "hours" "[I") ∈ TT := tt_3 78 rfl rfl
theorem tw_2_80 : (Jvm.Cond.laysFinal "OneRingModel" "OneRingModel" "kind" "[I") ∈ TT := tt_3 80 rfl rfl
theorem tw_2_82 : (Jvm.Cond.laysFinal "OneRingModel" "OneRingModel" "now" "[I") ∈ TT := tt_3 82 rfl rfl
theorem tw_2_84 : (Jvm.Cond.laysFinal "OneRingModel" "OneRingModel" "text" "[I") ∈ TT := tt_3 84 rfl rfl
theorem tw_2_86 : (Jvm.Cond.lays "OneRingModel" "OneRingModel" "length" "I") ∈ TT := tt_3 86 rfl rfl
theorem tw_2_88 : (Jvm.Cond.lays "OneRingModel" "OneRingModel" "acts" "I") ∈ TT := tt_3 88 rfl rfl
theorem tw_2_90 : (Jvm.Cond.lays "OneRingModel" "OneRingModel" "next" "I") ∈ TT := tt_3 90 rfl rfl
theorem tw_2_92 : (Jvm.Cond.laysFinal "OneRingModel" "OneRingModel" "row" "[I") ∈ TT := tt_3 92 rfl rfl
theorem tw_2_94 : (Jvm.Cond.laysFinal "OneRingModel" "OneRingModel" "earliest" "[I") ∈ TT := tt_3 94 rfl rfl
theorem tw_2_96 : (Jvm.Cond.lays "OneRingModel" "OneRingModel" "seen" "I") ∈ TT := tt_3 96 rfl rfl
theorem tw_2_98 : (Jvm.Cond.laysFinal "OneRingModel" "OneRingModel" "seenBehind" "[I") ∈ TT := tt_3 98 rfl rfl
theorem tw_2_100 : (Jvm.Cond.laysFinal "OneRingModel" "OneRingModel" "seenIn" "[I") ∈ TT := tt_3 100 rfl rfl
theorem tw_2_102 : (Jvm.Cond.laysFinal "OneRingModel" "OneRingModel" "mosts" "[I") ∈ TT := tt_3 102 rfl rfl
theorem tw_2_104 : (Jvm.Cond.lays "OneRingModel" "OneRingModel" "seed" "J") ∈ TT := tt_3 104 rfl rfl
theorem tw_2_106 : (Jvm.Cond.laysFinal "OneRingModel" "OneRingModel" "isKept" "[Z") ∈ TT := tt_3 106 rfl rfl
theorem tw_2_108 : (Jvm.Cond.laysFinal "OneRingModel" "OneRingModel" "kept" "[I") ∈ TT := tt_3 108 rfl rfl
theorem tw_2_111 : (Jvm.Cond.methodLink "OneRingLaw" (17 : Nat) ({ cls := "OneRingModel", name := "write", desc := "(I)I" } : Jvm.MethodName)) ∈ TT := tt_3 111 rfl rfl
theorem tw_2_112 : (Jvm.Cond.instanceMethod ({ cls := "OneRingModel", name := "write", desc := "(I)I" } : Jvm.MethodName)) ∈ TT := tt_3 112 rfl rfl
theorem tw_2_113 : (Jvm.Cond.selects "OneRingModel" ({ cls := "OneRingModel", name := "write", desc := "(I)I" } : Jvm.MethodName) ({ cls := "OneRingModel", name := "write", desc := "(I)I" } : Jvm.MethodName)) ∈ TT := tt_3 113 rfl rfl
theorem tw_2_114 : (Jvm.Cond.code ({ cls := "OneRingModel", name := "write", desc := "(I)I" } : Jvm.MethodName) prog_8_method_6_code (2 : Nat) (Option.some Jvm.ClassFile.FieldType.int)) ∈ TT := tt_3 114 rfl rfl
theorem tw_2_115 : (Jvm.Cond.constantLong "OneRingModel" (57 : Nat) (255 : Int64)) ∈ TT := tt_3 115 rfl rfl
theorem tw_2_116 : (Jvm.Cond.methodLink "OneRingModel" (59 : Nat) ({ cls := "OneRingModel", name := "in", desc := "(JJJ)Z" } : Jvm.MethodName)) ∈ TT := tt_3 116 rfl rfl
theorem tw_2_117 : (Jvm.Cond.static ({ cls := "OneRingModel", name := "in", desc := "(JJJ)Z" } : Jvm.MethodName)) ∈ TT := tt_3 117 rfl rfl
theorem tw_2_118 : (Jvm.Cond.code ({ cls := "OneRingModel", name := "in", desc := "(JJJ)Z" } : Jvm.MethodName) prog_8_method_3_code (6 : Nat) (Option.some Jvm.ClassFile.FieldType.boolean)) ∈ TT := tt_3 118 rfl rfl
theorem tw_2_119 : (Jvm.Cond.methodLink "OneRingLaw" (22 : Nat) ({ cls := "OneRingModel", name := "wipe", desc := "()I" } : Jvm.MethodName)) ∈ TT := tt_3 119 rfl rfl
theorem tw_2_120 : (Jvm.Cond.instanceMethod ({ cls := "OneRingModel", name := "wipe", desc := "()I" } : Jvm.MethodName)) ∈ TT := tt_3 120 rfl rfl
theorem tw_2_121 : (Jvm.Cond.selects "OneRingModel" ({ cls := "OneRingModel", name := "wipe", desc := "()I" } : Jvm.MethodName) ({ cls := "OneRingModel", name := "wipe", desc := "()I" } : Jvm.MethodName)) ∈ TT := tt_3 121 rfl rfl
theorem tw_2_122 : (Jvm.Cond.code ({ cls := "OneRingModel", name := "wipe", desc := "()I" } : Jvm.MethodName) prog_8_method_7_code (2 : Nat) (Option.some Jvm.ClassFile.FieldType.int)) ∈ TT := tt_3 122 rfl rfl
theorem tw_2_123 : (Jvm.Cond.methodLink "OneRingLaw" (26 : Nat) ({ cls := "OneRingModel", name := "fault", desc := "()I" } : Jvm.MethodName)) ∈ TT := tt_3 123 rfl rfl
theorem tw_2_124 : (Jvm.Cond.instanceMethod ({ cls := "OneRingModel", name := "fault", desc := "()I" } : Jvm.MethodName)) ∈ TT := tt_3 124 rfl rfl
theorem tw_2_125 : (Jvm.Cond.selects "OneRingModel" ({ cls := "OneRingModel", name := "fault", desc := "()I" } : Jvm.MethodName) ({ cls := "OneRingModel", name := "fault", desc := "()I" } : Jvm.MethodName)) ∈ TT := tt_3 125 rfl rfl
theorem tw_2_126 : (Jvm.Cond.code ({ cls := "OneRingModel", name := "fault", desc := "()I" } : Jvm.MethodName) prog_8_method_9_code (2 : Nat) (Option.some Jvm.ClassFile.FieldType.int)) ∈ TT := tt_3 126 rfl rfl
theorem tw_2_127 : (Jvm.Cond.methodLink "OneRingModel" (72 : Nat) ({ cls := "OneRingModel", name := "mayBe", desc := "(I)Z" } : Jvm.MethodName)) ∈ TT := tt_3 127 rfl rfl
theorem tw_2_129 : (Jvm.Cond.instanceMethod ({ cls := "OneRingModel", name := "mayBe", desc := "(I)Z" } : Jvm.MethodName)) ∈ TT := tt_3 129 rfl rfl
theorem tw_2_130 : (Jvm.Cond.code ({ cls := "OneRingModel", name := "mayBe", desc := "(I)Z" } : Jvm.MethodName) prog_8_method_8_code (3 : Nat) (Option.some Jvm.ClassFile.FieldType.boolean)) ∈ TT := tt_3 130 rfl rfl
theorem tw_2_131 : (Jvm.Cond.constantLong "OneRingModel" (66 : Nat) (9 : Int64)) ∈ TT := tt_3 131 rfl rfl
theorem tw_2_132 : (Jvm.Cond.constantLong "OneRingModel" (68 : Nat) (5 : Int64)) ∈ TT := tt_3 132 rfl rfl
theorem tw_2_133 : (Jvm.Cond.constantLong "OneRingModel" (70 : Nat) (3 : Int64)) ∈ TT := tt_3 133 rfl rfl
theorem tw_2_134 : (Jvm.Cond.methodLink "OneRingLaw" (30 : Nat) ({ cls := "OneRingModel", name := "parish", desc := "()I" } : Jvm.MethodName)) ∈ TT := tt_3 134 rfl rfl
theorem tw_2_135 : (Jvm.Cond.instanceMethod ({ cls := "OneRingModel", name := "parish", desc := "()I" } : Jvm.MethodName)) ∈ TT := tt_3 135 rfl rfl
theorem tw_2_136 : (Jvm.Cond.selects "OneRingModel" ({ cls := "OneRingModel", name := "parish", desc := "()I" } : Jvm.MethodName) ({ cls := "OneRingModel", name := "parish", desc := "()I" } : Jvm.MethodName)) ∈ TT := tt_3 136 rfl rfl
theorem tw_2_137 : (Jvm.Cond.code ({ cls := "OneRingModel", name := "parish", desc := "()I" } : Jvm.MethodName) prog_8_method_10_code (3 : Nat) (Option.some Jvm.ClassFile.FieldType.int)) ∈ TT := tt_3 137 rfl rfl
theorem tw_2_138 : (Jvm.Cond.methodLink "OneRingModel" (76 : Nat) ({ cls := "OneRingModel", name := "fault", desc := "()I" } : Jvm.MethodName)) ∈ TT := tt_3 138 rfl rfl
theorem tw_2_139 : (Jvm.Cond.methodLink "OneRingLaw" (35 : Nat) ({ cls := "OneRingModel", name := "wedding", desc := "(II)I" } : Jvm.MethodName)) ∈ TT := tt_3 139 rfl rfl
theorem tw_2_140 : (Jvm.Cond.instanceMethod ({ cls := "OneRingModel", name := "wedding", desc := "(II)I" } : Jvm.MethodName)) ∈ TT := tt_3 140 rfl rfl
theorem tw_2_141 : (Jvm.Cond.selects "OneRingModel" ({ cls := "OneRingModel", name := "wedding", desc := "(II)I" } : Jvm.MethodName) ({ cls := "OneRingModel", name := "wedding", desc := "(II)I" } : Jvm.MethodName)) ∈ TT := tt_3 141 rfl rfl
theorem tw_2_142 : (Jvm.Cond.code ({ cls := "OneRingModel", name := "wedding", desc := "(II)I" } : Jvm.MethodName) prog_8_method_20_code (3 : Nat) (Option.some Jvm.ClassFile.FieldType.int)) ∈ TT := tt_3 142 rfl rfl
theorem tw_2_143 : (Jvm.Cond.methodLink "OneRingModel" (109 : Nat) ({ cls := "OneRingModel", name := "isWedding", desc := "(I)Z" } : Jvm.MethodName)) ∈ TT := tt_3 143 rfl rfl
theorem tw_2_145 : (Jvm.Cond.instanceMethod ({ cls := "OneRingModel", name := "isWedding", desc := "(I)Z" } : Jvm.MethodName)) ∈ TT := tt_3 145 rfl rfl
theorem tw_2_146 : (Jvm.Cond.code ({ cls := "OneRingModel", name := "isWedding", desc := "(I)Z" } : Jvm.MethodName) prog_8_method_11_code (2 : Nat) (Option.some Jvm.ClassFile.FieldType.boolean)) ∈ TT := tt_3 146 rfl rfl
theorem tw_2_147 : (Jvm.Cond.methodLink "OneRingModel" (102 : Nat) ({ cls := "OneRingModel", name := "beginsNow", desc := "(II)I" } : Jvm.MethodName)) ∈ TT := tt_3 147 rfl rfl
theorem tw_2_149 : (Jvm.Cond.instanceMethod ({ cls := "OneRingModel", name := "beginsNow", desc := "(II)I" } : Jvm.MethodName)) ∈ TT := tt_3 149 rfl rfl
theorem tw_2_150 : (Jvm.Cond.code ({ cls := "OneRingModel", name := "beginsNow", desc := "(II)I" } : Jvm.MethodName) prog_8_method_18_code (4 : Nat) (Option.some Jvm.ClassFile.FieldType.int)) ∈ TT := tt_3 150 rfl rfl
theorem tw_2_151 : (Jvm.Cond.methodLink "OneRingModel" (94 : Nat) ({ cls := "OneRingModel", name := "has", desc := "(II)Z" } : Jvm.MethodName)) ∈ TT := tt_3 151 rfl rfl
theorem tw_2_152 : (Jvm.Cond.static ({ cls := "OneRingModel", name := "has", desc := "(II)Z" } : Jvm.MethodName)) ∈ TT := tt_3 152 rfl rfl
theorem tw_2_153 : (Jvm.Cond.code ({ cls := "OneRingModel", name := "has", desc := "(II)Z" } : Jvm.MethodName) prog_8_method_4_code (2 : Nat) (Option.some Jvm.ClassFile.FieldType.boolean)) ∈ TT := tt_3 153 rfl rfl
theorem tw_2_154 : (Jvm.Cond.methodLink "OneRingModel" (98 : Nat) ({ cls := "OneRingModel", name := "begins", desc := "(IIIII)I" } : Jvm.MethodName)) ∈ TT := tt_3 154 rfl rfl
theorem tw_2_156 : (Jvm.Cond.instanceMethod ({ cls := "OneRingModel", name := "begins", desc := "(IIIII)I" } : Jvm.MethodName)) ∈ TT := tt_3 156 rfl rfl
theorem tw_2_157 : (Jvm.Cond.code ({ cls := "OneRingModel", name := "begins", desc := "(IIIII)I" } : Jvm.MethodName) prog_8_method_15_code (8 : Nat) (Option.some Jvm.ClassFile.FieldType.int)) ∈ TT := tt_3 157 rfl rfl
theorem tw_2_158 : (Jvm.Cond.methodLink "OneRingModel" (86 : Nat) ({ cls := "OneRingModel", name := "wayOn", desc := "(III)I" } : Jvm.MethodName)) ∈ TT := tt_3 158 rfl rfl
theorem tw_2_160 : (Jvm.Cond.instanceMethod ({ cls := "OneRingModel", name := "wayOn", desc := "(III)I" } : Jvm.MethodName)) ∈ TT := tt_3 160 rfl rfl
theorem tw_2_161 : (Jvm.Cond.code ({ cls := "OneRingModel", name := "wayOn", desc := "(III)I" } : Jvm.MethodName) prog_8_method_14_code (7 : Nat) (Option.some Jvm.ClassFile.FieldType.int)) ∈ TT := tt_3 161 rfl rfl
theorem tw_2_162 : (Jvm.Cond.methodLink "OneRingModel" (90 : Nat) ({ cls := "OneRingModel", name := "lasts", desc := "(I)I" } : Jvm.MethodName)) ∈ TT := tt_3 162 rfl rfl
theorem tw_2_164 : (Jvm.Cond.instanceMethod ({ cls := "OneRingModel", name := "lasts", desc := "(I)I" } : Jvm.MethodName)) ∈ TT := tt_3 164 rfl rfl
theorem tw_2_165 : (Jvm.Cond.code ({ cls := "OneRingModel", name := "lasts", desc := "(I)I" } : Jvm.MethodName) prog_8_method_16_code (2 : Nat) (Option.some Jvm.ClassFile.FieldType.int)) ∈ TT := tt_3 165 rfl rfl
theorem tw_2_166 : (Jvm.Cond.methodLink "OneRingLaw" (39 : Nat) ({ cls := "OneRingModel", name := "road", desc := "(I)I" } : Jvm.MethodName)) ∈ TT := tt_3 166 rfl rfl
theorem tw_2_167 : (Jvm.Cond.instanceMethod ({ cls := "OneRingModel", name := "road", desc := "(I)I" } : Jvm.MethodName)) ∈ TT := tt_3 167 rfl rfl
theorem tw_2_168 : (Jvm.Cond.selects "OneRingModel" ({ cls := "OneRingModel", name := "road", desc := "(I)I" } : Jvm.MethodName) ({ cls := "OneRingModel", name := "road", desc := "(I)I" } : Jvm.MethodName)) ∈ TT := tt_3 168 rfl rfl
theorem tw_2_169 : (Jvm.Cond.code ({ cls := "OneRingModel", name := "road", desc := "(I)I" } : Jvm.MethodName) prog_8_method_21_code (2 : Nat) (Option.some Jvm.ClassFile.FieldType.int)) ∈ TT := tt_3 169 rfl rfl
theorem tw_2_170 : (Jvm.Cond.constantLong "OneRingModel" (112 : Nat) (4 : Int64)) ∈ TT := tt_3 170 rfl rfl
theorem tw_2_171 : (Jvm.Cond.methodLink "OneRingLaw" (43 : Nat) ({ cls := "OneRingModel", name := "way", desc := "(II)I" } : Jvm.MethodName)) ∈ TT := tt_3 171 rfl rfl
theorem tw_2_172 : (Jvm.Cond.instanceMethod ({ cls := "OneRingModel", name := "way", desc := "(II)I" } : Jvm.MethodName)) ∈ TT := tt_3 172 rfl rfl
theorem tw_2_173 : (Jvm.Cond.selects "OneRingModel" ({ cls := "OneRingModel", name := "way", desc := "(II)I" } : Jvm.MethodName) ({ cls := "OneRingModel", name := "way", desc := "(II)I" } : Jvm.MethodName)) ∈ TT := tt_3 173 rfl rfl
theorem tw_2_174 : (Jvm.Cond.code ({ cls := "OneRingModel", name := "way", desc := "(II)I" } : Jvm.MethodName) prog_8_method_22_code (3 : Nat) (Option.some Jvm.ClassFile.FieldType.int)) ∈ TT := tt_3 174 rfl rfl
theorem tw_2_175 : (Jvm.Cond.methodLink "OneRingModel" (114 : Nat) ({ cls := "OneRingModel", name := "isChurch", desc := "(I)Z" } : Jvm.MethodName)) ∈ TT := tt_3 175 rfl rfl
theorem tw_2_176 : (Jvm.Cond.static ({ cls := "OneRingModel", name := "isChurch", desc := "(I)Z" } : Jvm.MethodName)) ∈ TT := tt_3 176 rfl rfl
theorem tw_2_177 : (Jvm.Cond.code ({ cls := "OneRingModel", name := "isChurch", desc := "(I)Z" } : Jvm.MethodName) prog_8_method_12_code (1 : Nat) (Option.some Jvm.ClassFile.FieldType.boolean)) ∈ TT := tt_3 177 rfl rfl
theorem tw_2_178 : (Jvm.Cond.methodLink "OneRingLaw" (47 : Nat) ({ cls := "OneRingModel", name := "wed", desc := "(I)I" } : Jvm.MethodName)) ∈ TT := tt_3 178 rfl rfl
theorem tw_2_179 : (Jvm.Cond.instanceMethod ({ cls := "OneRingModel", name := "wed", desc := "(I)I" } : Jvm.MethodName)) ∈ TT := tt_3 179 rfl rfl
theorem tw_2_180 : (Jvm.Cond.selects "OneRingModel" ({ cls := "OneRingModel", name := "wed", desc := "(I)I" } : Jvm.MethodName) ({ cls := "OneRingModel", name := "wed", desc := "(I)I" } : Jvm.MethodName)) ∈ TT := tt_3 180 rfl rfl
theorem tw_2_181 : (Jvm.Cond.code ({ cls := "OneRingModel", name := "wed", desc := "(I)I" } : Jvm.MethodName) prog_8_method_24_code (2 : Nat) (Option.some Jvm.ClassFile.FieldType.int)) ∈ TT := tt_3 181 rfl rfl
theorem tw_2_182 : (Jvm.Cond.methodLink "OneRingModel" (120 : Nat) ({ cls := "OneRingModel", name := "keepAct", desc := "()V" } : Jvm.MethodName)) ∈ TT := tt_3 182 rfl rfl
theorem tw_2_184 : (Jvm.Cond.instanceMethod ({ cls := "OneRingModel", name := "keepAct", desc := "()V" } : Jvm.MethodName)) ∈ TT := tt_3 184 rfl rfl
theorem tw_2_185 : (Jvm.Cond.code ({ cls := "OneRingModel", name := "keepAct", desc := "()V" } : Jvm.MethodName) prog_8_method_23_code (2 : Nat) (Option.none : Option Jvm.ClassFile.FieldType)) ∈ TT := tt_3 185 rfl rfl
theorem tw_2_186 : (Jvm.Cond.methodLink "OneRingModel" (123 : Nat) ({ cls := "OneRingModel", name := "wedOn", desc := "(II)Z" } : Jvm.MethodName)) ∈ TT := tt_3 186 rfl rfl
theorem tw_2_188 : (Jvm.Cond.instanceMethod ({ cls := "OneRingModel", name := "wedOn", desc := "(II)Z" } : Jvm.MethodName)) ∈ TT := tt_3 188 rfl rfl
theorem tw_2_189 : (Jvm.Cond.code ({ cls := "OneRingModel", name := "wedOn", desc := "(II)Z" } : Jvm.MethodName) prog_8_method_19_code (5 : Nat) (Option.some Jvm.ClassFile.FieldType.boolean)) ∈ TT := tt_3 189 rfl rfl
theorem tw_2_190 : (Jvm.Cond.methodLink "OneRingModel" (106 : Nat) ({ cls := "OneRingModel", name := "behind", desc := "(II)I" } : Jvm.MethodName)) ∈ TT := tt_3 190 rfl rfl
theorem tw_2_192 : (Jvm.Cond.instanceMethod ({ cls := "OneRingModel", name := "behind", desc := "(II)I" } : Jvm.MethodName)) ∈ TT := tt_3 192 rfl rfl
theorem tw_2_193 : (Jvm.Cond.code ({ cls := "OneRingModel", name := "behind", desc := "(II)I" } : Jvm.MethodName) prog_8_method_17_code (3 : Nat) (Option.some Jvm.ClassFile.FieldType.int)) ∈ TT := tt_3 193 rfl rfl
theorem tw_2_194 : (Jvm.Cond.methodLink "OneRingLaw" (51 : Nat) ({ cls := "OneRingModel", name := "carry", desc := "(I)I" } : Jvm.MethodName)) ∈ TT := tt_3 194 rfl rfl
theorem tw_2_195 : (Jvm.Cond.instanceMethod ({ cls := "OneRingModel", name := "carry", desc := "(I)I" } : Jvm.MethodName)) ∈ TT := tt_3 195 rfl rfl
theorem tw_2_196 : (Jvm.Cond.selects "OneRingModel" ({ cls := "OneRingModel", name := "carry", desc := "(I)I" } : Jvm.MethodName) ({ cls := "OneRingModel", name := "carry", desc := "(I)I" } : Jvm.MethodName)) ∈ TT := tt_3 196 rfl rfl
theorem tw_2_197 : (Jvm.Cond.code ({ cls := "OneRingModel", name := "carry", desc := "(I)I" } : Jvm.MethodName) prog_8_method_25_code (2 : Nat) (Option.some Jvm.ClassFile.FieldType.int)) ∈ TT := tt_3 197 rfl rfl
theorem tw_2_198 : (Jvm.Cond.methodLink "OneRingLaw" (55 : Nat) ({ cls := "OneRingModel", name := "linger", desc := "()I" } : Jvm.MethodName)) ∈ TT := tt_3 198 rfl rfl
theorem tw_2_199 : (Jvm.Cond.instanceMethod ({ cls := "OneRingModel", name := "linger", desc := "()I" } : Jvm.MethodName)) ∈ TT := tt_3 199 rfl rfl
theorem tw_2_200 : (Jvm.Cond.selects "OneRingModel" ({ cls := "OneRingModel", name := "linger", desc := "()I" } : Jvm.MethodName) ({ cls := "OneRingModel", name := "linger", desc := "()I" } : Jvm.MethodName)) ∈ TT := tt_3 200 rfl rfl
theorem tw_2_201 : (Jvm.Cond.code ({ cls := "OneRingModel", name := "linger", desc := "()I" } : Jvm.MethodName) prog_8_method_26_code (1 : Nat) (Option.some Jvm.ClassFile.FieldType.int)) ∈ TT := tt_3 201 rfl rfl
theorem tw_2_202 : (Jvm.Cond.methodLink "OneRingLaw" (59 : Nat) ({ cls := "OneRingModel", name := "mend", desc := "(I)I" } : Jvm.MethodName)) ∈ TT := tt_3 202 rfl rfl
theorem tw_2_203 : (Jvm.Cond.instanceMethod ({ cls := "OneRingModel", name := "mend", desc := "(I)I" } : Jvm.MethodName)) ∈ TT := tt_3 203 rfl rfl
theorem tw_2_204 : (Jvm.Cond.selects "OneRingModel" ({ cls := "OneRingModel", name := "mend", desc := "(I)I" } : Jvm.MethodName) ({ cls := "OneRingModel", name := "mend", desc := "(I)I" } : Jvm.MethodName)) ∈ TT := tt_3 204 rfl rfl
theorem tw_2_205 : (Jvm.Cond.code ({ cls := "OneRingModel", name := "mend", desc := "(I)I" } : Jvm.MethodName) prog_8_method_27_code (2 : Nat) (Option.some Jvm.ClassFile.FieldType.int)) ∈ TT := tt_3 205 rfl rfl
theorem tw_2_206 : (Jvm.Cond.methodLink "OneRingLaw" (63 : Nat) ({ cls := "OneRingModel", name := "undo", desc := "()I" } : Jvm.MethodName)) ∈ TT := tt_3 206 rfl rfl
theorem tw_2_207 : (Jvm.Cond.instanceMethod ({ cls := "OneRingModel", name := "undo", desc := "()I" } : Jvm.MethodName)) ∈ TT := tt_3 207 rfl rfl
theorem tw_2_208 : (Jvm.Cond.selects "OneRingModel" ({ cls := "OneRingModel", name := "undo", desc := "()I" } : Jvm.MethodName) ({ cls := "OneRingModel", name := "undo", desc := "()I" } : Jvm.MethodName)) ∈ TT := tt_3 208 rfl rfl
theorem tw_2_209 : (Jvm.Cond.code ({ cls := "OneRingModel", name := "undo", desc := "()I" } : Jvm.MethodName) prog_8_method_28_code (2 : Nat) (Option.some Jvm.ClassFile.FieldType.int)) ∈ TT := tt_3 209 rfl rfl
theorem tw_2_210 : (Jvm.Cond.methodLink "OneRingLaw" (67 : Nat) ({ cls := "OneRingModel", name := "most", desc := "(I)I" } : Jvm.MethodName)) ∈ TT := tt_3 210 rfl rfl
theorem tw_2_211 : (Jvm.Cond.instanceMethod ({ cls := "OneRingModel", name := "most", desc := "(I)I" } : Jvm.MethodName)) ∈ TT := tt_3 211 rfl rfl
theorem tw_2_212 : (Jvm.Cond.selects "OneRingModel" ({ cls := "OneRingModel", name := "most", desc := "(I)I" } : Jvm.MethodName) ({ cls := "OneRingModel", name := "most", desc := "(I)I" } : Jvm.MethodName)) ∈ TT := tt_3 212 rfl rfl
theorem tw_2_213 : (Jvm.Cond.code ({ cls := "OneRingModel", name := "most", desc := "(I)I" } : Jvm.MethodName) prog_8_method_35_code (3 : Nat) (Option.some Jvm.ClassFile.FieldType.int)) ∈ TT := tt_3 213 rfl rfl
theorem tw_2_214 : (Jvm.Cond.constantLong "OneRingModel" (147 : Nat) (2 : Int64)) ∈ TT := tt_3 214 rfl rfl
theorem tw_2_215 : (Jvm.Cond.methodLink "OneRingModel" (141 : Nat) ({ cls := "OneRingModel", name := "every", desc := "()I" } : Jvm.MethodName)) ∈ TT := tt_3 215 rfl rfl
theorem tw_2_217 : (Jvm.Cond.instanceMethod ({ cls := "OneRingModel", name := "every", desc := "()I" } : Jvm.MethodName)) ∈ TT := tt_3 217 rfl rfl
theorem tw_2_218 : (Jvm.Cond.code ({ cls := "OneRingModel", name := "every", desc := "()I" } : Jvm.MethodName) prog_8_method_13_code (1 : Nat) (Option.some Jvm.ClassFile.FieldType.int)) ∈ TT := tt_3 218 rfl rfl
theorem tw_2_219 : (Jvm.Cond.methodLink "OneRingModel" (144 : Nat) ({ cls := "OneRingModel", name := "mostOn", desc := "(II)I" } : Jvm.MethodName)) ∈ TT := tt_3 219 rfl rfl
theorem tw_2_221 : (Jvm.Cond.instanceMethod ({ cls := "OneRingModel", name := "mostOn", desc := "(II)I" } : Jvm.MethodName)) ∈ TT := tt_3 221 rfl rfl
theorem tw_2_222 : (Jvm.Cond.code ({ cls := "OneRingModel", name := "mostOn", desc := "(II)I" } : Jvm.MethodName) prog_8_method_30_code (9 : Nat) (Option.some Jvm.ClassFile.FieldType.int)) ∈ TT := tt_3 222 rfl rfl
theorem tw_2_223 : (Jvm.Cond.methodLink "OneRingModel" (126 : Nat) ({ cls := "OneRingModel", name := "noteEarlier", desc := "(III)V" } : Jvm.MethodName)) ∈ TT := tt_3 223 rfl rfl
theorem tw_2_225 : (Jvm.Cond.instanceMethod ({ cls := "OneRingModel", name := "noteEarlier", desc := "(III)V" } : Jvm.MethodName)) ∈ TT := tt_3 225 rfl rfl
theorem tw_2_226 : (Jvm.Cond.code ({ cls := "OneRingModel", name := "noteEarlier", desc := "(III)V" } : Jvm.MethodName) prog_8_method_29_code (6 : Nat) (Option.none : Option Jvm.ClassFile.FieldType)) ∈ TT := tt_3 226 rfl rfl
theorem tw_2_227 : (Jvm.Cond.methodLink "OneRingModel" (130 : Nat) ({ cls := "OneRingModel", name := "ones", desc := "(I)I" } : Jvm.MethodName)) ∈ TT := tt_3 227 rfl rfl
theorem tw_2_228 : (Jvm.Cond.static ({ cls := "OneRingModel", name := "ones", desc := "(I)I" } : Jvm.MethodName)) ∈ TT := tt_3 228 rfl rfl
theorem tw_2_229 : (Jvm.Cond.code ({ cls := "OneRingModel", name := "ones", desc := "(I)I" } : Jvm.MethodName) prog_8_method_5_code (3 : Nat) (Option.some Jvm.ClassFile.FieldType.int)) ∈ TT := tt_3 229 rfl rfl
theorem tw_2_230 : (Jvm.Cond.methodLink "OneRingModel" (149 : Nat) ({ cls := "OneRingModel", name := "firstRow", desc := "(I)I" } : Jvm.MethodName)) ∈ TT := tt_3 230 rfl rfl
theorem tw_2_232 : (Jvm.Cond.instanceMethod ({ cls := "OneRingModel", name := "firstRow", desc := "(I)I" } : Jvm.MethodName)) ∈ TT := tt_3 232 rfl rfl
theorem tw_2_233 : (Jvm.Cond.code ({ cls := "OneRingModel", name := "firstRow", desc := "(I)I" } : Jvm.MethodName) prog_8_method_33_code (6 : Nat) (Option.some Jvm.ClassFile.FieldType.int)) ∈ TT := tt_3 233 rfl rfl
theorem tw_2_234 : (Jvm.Cond.methodLink "OneRingModel" (133 : Nat) ({ cls := "OneRingModel", name := "goesOn", desc := "(III)Z" } : Jvm.MethodName)) ∈ TT := tt_3 234 rfl rfl
theorem tw_2_236 : (Jvm.Cond.instanceMethod ({ cls := "OneRingModel", name := "goesOn", desc := "(III)Z" } : Jvm.MethodName)) ∈ TT := tt_3 236 rfl rfl
theorem tw_2_237 : (Jvm.Cond.code ({ cls := "OneRingModel", name := "goesOn", desc := "(III)Z" } : Jvm.MethodName) prog_8_method_34_code (6 : Nat) (Option.some Jvm.ClassFile.FieldType.boolean)) ∈ TT := tt_3 237 rfl rfl
theorem tw_2_238 : (Jvm.Cond.methodLink "OneRingModel" (137 : Nat) ({ cls := "OneRingModel", name := "layTrial", desc := "()V" } : Jvm.MethodName)) ∈ TT := tt_3 238 rfl rfl
theorem tw_3_0 : (Jvm.Cond.instanceMethod ({ cls := "OneRingModel", name := "layTrial", desc := "()V" } : Jvm.MethodName)) ∈ TT := tt_4 0 rfl rfl
theorem tw_3_1 : (Jvm.Cond.code ({ cls := "OneRingModel", name := "layTrial", desc := "()V" } : Jvm.MethodName) prog_8_method_32_code (2 : Nat) (Option.none : Option Jvm.ClassFile.FieldType)) ∈ TT := tt_4 1 rfl rfl
theorem tw_3_2 : (Jvm.Cond.constant "OneRingModel" (140 : Nat) (100000 : Int32)) ∈ TT := tt_4 2 rfl rfl
theorem tw_3_3 : (Jvm.Cond.methodLink "OneRingModel" (152 : Nat) ({ cls := "OneRingModel", name := "endOf", desc := "(I)I" } : Jvm.MethodName)) ∈ TT := tt_4 3 rfl rfl
theorem tw_3_5 : (Jvm.Cond.instanceMethod ({ cls := "OneRingModel", name := "endOf", desc := "(I)I" } : Jvm.MethodName)) ∈ TT := tt_4 5 rfl rfl
theorem tw_3_6 : (Jvm.Cond.code ({ cls := "OneRingModel", name := "endOf", desc := "(I)I" } : Jvm.MethodName) prog_8_method_31_code (5 : Nat) (Option.some Jvm.ClassFile.FieldType.int)) ∈ TT := tt_4 6 rfl rfl
theorem tw_3_7 : (Jvm.Cond.methodLink "OneRingLaw" (71 : Nat) ({ cls := "OneRingModel", name := "slack", desc := "()I" } : Jvm.MethodName)) ∈ TT := tt_4 7 rfl rfl
theorem tw_3_8 : (Jvm.Cond.instanceMethod ({ cls := "OneRingModel", name := "slack", desc := "()I" } : Jvm.MethodName)) ∈ TT := tt_4 8 rfl rfl
theorem tw_3_9 : (Jvm.Cond.selects "OneRingModel" ({ cls := "OneRingModel", name := "slack", desc := "()I" } : Jvm.MethodName) ({ cls := "OneRingModel", name := "slack", desc := "()I" } : Jvm.MethodName)) ∈ TT := tt_4 9 rfl rfl
theorem tw_3_10 : (Jvm.Cond.code ({ cls := "OneRingModel", name := "slack", desc := "()I" } : Jvm.MethodName) prog_8_method_36_code (3 : Nat) (Option.some Jvm.ClassFile.FieldType.int)) ∈ TT := tt_4 10 rfl rfl
theorem tw_3_11 : (Jvm.Cond.methodLink "OneRingLaw" (76 : Nat) ({ cls := "OneRingModel", name := "mending", desc := "(Z)I" } : Jvm.MethodName)) ∈ TT := tt_4 11 rfl rfl
theorem tw_3_12 : (Jvm.Cond.instanceMethod ({ cls := "OneRingModel", name := "mending", desc := "(Z)I" } : Jvm.MethodName)) ∈ TT := tt_4 12 rfl rfl
theorem tw_3_13 : (Jvm.Cond.selects "OneRingModel" ({ cls := "OneRingModel", name := "mending", desc := "(Z)I" } : Jvm.MethodName) ({ cls := "OneRingModel", name := "mending", desc := "(Z)I" } : Jvm.MethodName)) ∈ TT := tt_4 13 rfl rfl
theorem tw_3_14 : (Jvm.Cond.code ({ cls := "OneRingModel", name := "mending", desc := "(Z)I" } : Jvm.MethodName) prog_8_method_37_code (6 : Nat) (Option.some Jvm.ClassFile.FieldType.int)) ∈ TT := tt_4 14 rfl rfl
theorem tw_3_15 : (Jvm.Cond.methodLink "OneRingLaw" (80 : Nat) ({ cls := "OneRingModel", name := "judge", desc := "(II)I" } : Jvm.MethodName)) ∈ TT := tt_4 15 rfl rfl
theorem tw_3_16 : (Jvm.Cond.instanceMethod ({ cls := "OneRingModel", name := "judge", desc := "(II)I" } : Jvm.MethodName)) ∈ TT := tt_4 16 rfl rfl
theorem tw_3_17 : (Jvm.Cond.selects "OneRingModel" ({ cls := "OneRingModel", name := "judge", desc := "(II)I" } : Jvm.MethodName) ({ cls := "OneRingModel", name := "judge", desc := "(II)I" } : Jvm.MethodName)) ∈ TT := tt_4 17 rfl rfl
theorem tw_3_18 : (Jvm.Cond.code ({ cls := "OneRingModel", name := "judge", desc := "(II)I" } : Jvm.MethodName) prog_8_method_39_code (5 : Nat) (Option.some Jvm.ClassFile.FieldType.int)) ∈ TT := tt_4 18 rfl rfl
theorem tw_3_19 : (Jvm.Cond.constantLong "OneRingModel" (155 : Nat) (6 : Int64)) ∈ TT := tt_4 19 rfl rfl
theorem tw_3_20 : (Jvm.Cond.methodLink "OneRingModel" (157 : Nat) ({ cls := "OneRingModel", name := "tenTo", desc := "(I)I" } : Jvm.MethodName)) ∈ TT := tt_4 20 rfl rfl
theorem tw_3_21 : (Jvm.Cond.static ({ cls := "OneRingModel", name := "tenTo", desc := "(I)I" } : Jvm.MethodName)) ∈ TT := tt_4 21 rfl rfl
theorem tw_3_22 : (Jvm.Cond.code ({ cls := "OneRingModel", name := "tenTo", desc := "(I)I" } : Jvm.MethodName) prog_8_method_38_code (3 : Nat) (Option.some Jvm.ClassFile.FieldType.int)) ∈ TT := tt_4 22 rfl rfl
theorem tw_3_23 : (Jvm.Cond.methodLink "OneRingLaw" (84 : Nat) ({ cls := "OneRingModel", name := "later", desc := "(I)I" } : Jvm.MethodName)) ∈ TT := tt_4 23 rfl rfl
theorem tw_3_24 : (Jvm.Cond.instanceMethod ({ cls := "OneRingModel", name := "later", desc := "(I)I" } : Jvm.MethodName)) ∈ TT := tt_4 24 rfl rfl
theorem tw_3_25 : (Jvm.Cond.selects "OneRingModel" ({ cls := "OneRingModel", name := "later", desc := "(I)I" } : Jvm.MethodName) ({ cls := "OneRingModel", name := "later", desc := "(I)I" } : Jvm.MethodName)) ∈ TT := tt_4 25 rfl rfl
theorem tw_3_26 : (Jvm.Cond.code ({ cls := "OneRingModel", name := "later", desc := "(I)I" } : Jvm.MethodName) prog_8_method_40_code (4 : Nat) (Option.some Jvm.ClassFile.FieldType.int)) ∈ TT := tt_4 26 rfl rfl
theorem tw_3_27 : (Jvm.Cond.methodLink "OneRingLaw" (88 : Nat) ({ cls := "OneRingModel", name := "see", desc := "(II)I" } : Jvm.MethodName)) ∈ TT := tt_4 27 rfl rfl
theorem tw_3_28 : (Jvm.Cond.instanceMethod ({ cls := "OneRingModel", name := "see", desc := "(II)I" } : Jvm.MethodName)) ∈ TT := tt_4 28 rfl rfl
theorem tw_3_29 : (Jvm.Cond.selects "OneRingModel" ({ cls := "OneRingModel", name := "see", desc := "(II)I" } : Jvm.MethodName) ({ cls := "OneRingModel", name := "see", desc := "(II)I" } : Jvm.MethodName)) ∈ TT := tt_4 29 rfl rfl
theorem tw_3_30 : (Jvm.Cond.code ({ cls := "OneRingModel", name := "see", desc := "(II)I" } : Jvm.MethodName) prog_8_method_41_code (3 : Nat) (Option.some Jvm.ClassFile.FieldType.int)) ∈ TT := tt_4 30 rfl rfl
theorem tw_3_31 : (Jvm.Cond.methodLink "OneRingLaw" (92 : Nat) ({ cls := "OneRingModel", name := "unsee", desc := "()I" } : Jvm.MethodName)) ∈ TT := tt_4 31 rfl rfl
theorem tw_3_32 : (Jvm.Cond.instanceMethod ({ cls := "OneRingModel", name := "unsee", desc := "()I" } : Jvm.MethodName)) ∈ TT := tt_4 32 rfl rfl
theorem tw_3_33 : (Jvm.Cond.selects "OneRingModel" ({ cls := "OneRingModel", name := "unsee", desc := "()I" } : Jvm.MethodName) ({ cls := "OneRingModel", name := "unsee", desc := "()I" } : Jvm.MethodName)) ∈ TT := tt_4 33 rfl rfl
theorem tw_3_34 : (Jvm.Cond.code ({ cls := "OneRingModel", name := "unsee", desc := "()I" } : Jvm.MethodName) prog_8_method_42_code (2 : Nat) (Option.some Jvm.ClassFile.FieldType.int)) ∈ TT := tt_4 34 rfl rfl
theorem tw_3_35 : (Jvm.Cond.methodLink "OneRingLaw" (96 : Nat) ({ cls := "OneRingModel", name := "rows", desc := "(II)I" } : Jvm.MethodName)) ∈ TT := tt_4 35 rfl rfl
theorem tw_3_36 : (Jvm.Cond.instanceMethod ({ cls := "OneRingModel", name := "rows", desc := "(II)I" } : Jvm.MethodName)) ∈ TT := tt_4 36 rfl rfl
theorem tw_3_37 : (Jvm.Cond.selects "OneRingModel" ({ cls := "OneRingModel", name := "rows", desc := "(II)I" } : Jvm.MethodName) ({ cls := "OneRingModel", name := "rows", desc := "(II)I" } : Jvm.MethodName)) ∈ TT := tt_4 37 rfl rfl
theorem tw_3_38 : (Jvm.Cond.code ({ cls := "OneRingModel", name := "rows", desc := "(II)I" } : Jvm.MethodName) prog_8_method_46_code (9 : Nat) (Option.some Jvm.ClassFile.FieldType.int)) ∈ TT := tt_4 38 rfl rfl
theorem tw_3_39 : (Jvm.Cond.methodLink "OneRingModel" (166 : Nat) ({ cls := "OneRingModel", name := "rowsOf", desc := "(II)I" } : Jvm.MethodName)) ∈ TT := tt_4 39 rfl rfl
theorem tw_3_40 : (Jvm.Cond.static ({ cls := "OneRingModel", name := "rowsOf", desc := "(II)I" } : Jvm.MethodName)) ∈ TT := tt_4 40 rfl rfl
theorem tw_3_41 : (Jvm.Cond.code ({ cls := "OneRingModel", name := "rowsOf", desc := "(II)I" } : Jvm.MethodName) prog_8_method_44_code (4 : Nat) (Option.some Jvm.ClassFile.FieldType.int)) ∈ TT := tt_4 41 rfl rfl
theorem tw_3_42 : (Jvm.Cond.methodLink "OneRingModel" (169 : Nat) ({ cls := "OneRingModel", name := "rowBy", desc := "(II)I" } : Jvm.MethodName)) ∈ TT := tt_4 42 rfl rfl
theorem tw_3_44 : (Jvm.Cond.instanceMethod ({ cls := "OneRingModel", name := "rowBy", desc := "(II)I" } : Jvm.MethodName)) ∈ TT := tt_4 44 rfl rfl
theorem tw_3_45 : (Jvm.Cond.code ({ cls := "OneRingModel", name := "rowBy", desc := "(II)I" } : Jvm.MethodName) prog_8_method_45_code (13 : Nat) (Option.some Jvm.ClassFile.FieldType.int)) ∈ TT := tt_4 45 rfl rfl
theorem tw_3_46 : (Jvm.Cond.methodLink "OneRingModel" (163 : Nat) ({ cls := "OneRingModel", name := "isSeen", desc := "(I)Z" } : Jvm.MethodName)) ∈ TT := tt_4 46 rfl rfl
theorem tw_3_48 : (Jvm.Cond.instanceMethod ({ cls := "OneRingModel", name := "isSeen", desc := "(I)Z" } : Jvm.MethodName)) ∈ TT := tt_4 48 rfl rfl
theorem tw_3_49 : (Jvm.Cond.code ({ cls := "OneRingModel", name := "isSeen", desc := "(I)Z" } : Jvm.MethodName) prog_8_method_43_code (4 : Nat) (Option.some Jvm.ClassFile.FieldType.boolean)) ∈ TT := tt_4 49 rfl rfl
theorem tw_3_50 : (Jvm.Cond.methodLink "OneRingLaw" (101 : Nat) ({ cls := "OneRingModel", name := "share", desc := "(IZ)I" } : Jvm.MethodName)) ∈ TT := tt_4 50 rfl rfl
theorem tw_3_51 : (Jvm.Cond.instanceMethod ({ cls := "OneRingModel", name := "share", desc := "(IZ)I" } : Jvm.MethodName)) ∈ TT := tt_4 51 rfl rfl
theorem tw_3_52 : (Jvm.Cond.selects "OneRingModel" ({ cls := "OneRingModel", name := "share", desc := "(IZ)I" } : Jvm.MethodName) ({ cls := "OneRingModel", name := "share", desc := "(IZ)I" } : Jvm.MethodName)) ∈ TT := tt_4 52 rfl rfl
theorem tw_3_53 : (Jvm.Cond.code ({ cls := "OneRingModel", name := "share", desc := "(IZ)I" } : Jvm.MethodName) prog_8_method_49_code (7 : Nat) (Option.some Jvm.ClassFile.FieldType.int)) ∈ TT := tt_4 53 rfl rfl
theorem tw_3_54 : (Jvm.Cond.methodLink "OneRingModel" (172 : Nat) ({ cls := "OneRingModel", name := "factorial", desc := "(I)I" } : Jvm.MethodName)) ∈ TT := tt_4 54 rfl rfl
theorem tw_3_55 : (Jvm.Cond.static ({ cls := "OneRingModel", name := "factorial", desc := "(I)I" } : Jvm.MethodName)) ∈ TT := tt_4 55 rfl rfl
theorem tw_3_56 : (Jvm.Cond.code ({ cls := "OneRingModel", name := "factorial", desc := "(I)I" } : Jvm.MethodName) prog_8_method_47_code (3 : Nat) (Option.some Jvm.ClassFile.FieldType.int)) ∈ TT := tt_4 56 rfl rfl
theorem tw_3_57 : (Jvm.Cond.methodLink "OneRingModel" (175 : Nat) ({ cls := "OneRingModel", name := "common", desc := "(II)I" } : Jvm.MethodName)) ∈ TT := tt_4 57 rfl rfl
theorem tw_3_58 : (Jvm.Cond.static ({ cls := "OneRingModel", name := "common", desc := "(II)I" } : Jvm.MethodName)) ∈ TT := tt_4 58 rfl rfl
theorem tw_3_59 : (Jvm.Cond.code ({ cls := "OneRingModel", name := "common", desc := "(II)I" } : Jvm.MethodName) prog_8_method_48_code (5 : Nat) (Option.some Jvm.ClassFile.FieldType.int)) ∈ TT := tt_4 59 rfl rfl
theorem tw_3_60 : (Jvm.Cond.methodLink "OneRingLaw" (106 : Nat) ({ cls := "OneRingModel", name := "rests", desc := "(III)I" } : Jvm.MethodName)) ∈ TT := tt_4 60 rfl rfl
theorem tw_3_61 : (Jvm.Cond.instanceMethod ({ cls := "OneRingModel", name := "rests", desc := "(III)I" } : Jvm.MethodName)) ∈ TT := tt_4 61 rfl rfl
theorem tw_3_62 : (Jvm.Cond.selects "OneRingModel" ({ cls := "OneRingModel", name := "rests", desc := "(III)I" } : Jvm.MethodName) ({ cls := "OneRingModel", name := "rests", desc := "(III)I" } : Jvm.MethodName)) ∈ TT := tt_4 62 rfl rfl
theorem tw_3_63 : (Jvm.Cond.code ({ cls := "OneRingModel", name := "rests", desc := "(III)I" } : Jvm.MethodName) prog_8_method_53_code (7 : Nat) (Option.some Jvm.ClassFile.FieldType.int)) ∈ TT := tt_4 63 rfl rfl
theorem tw_3_64 : (Jvm.Cond.methodLink "OneRingModel" (185 : Nat) ({ cls := "OneRingModel", name := "isRest", desc := "(IIII)Z" } : Jvm.MethodName)) ∈ TT := tt_4 64 rfl rfl
theorem tw_3_66 : (Jvm.Cond.instanceMethod ({ cls := "OneRingModel", name := "isRest", desc := "(IIII)Z" } : Jvm.MethodName)) ∈ TT := tt_4 66 rfl rfl
theorem tw_3_67 : (Jvm.Cond.code ({ cls := "OneRingModel", name := "isRest", desc := "(IIII)Z" } : Jvm.MethodName) prog_8_method_52_code (5 : Nat) (Option.some Jvm.ClassFile.FieldType.boolean)) ∈ TT := tt_4 67 rfl rfl
theorem tw_3_68 : (Jvm.Cond.methodLink "OneRingModel" (181 : Nat) ({ cls := "OneRingModel", name := "gain", desc := "(IIII)I" } : Jvm.MethodName)) ∈ TT := tt_4 68 rfl rfl
theorem tw_3_70 : (Jvm.Cond.instanceMethod ({ cls := "OneRingModel", name := "gain", desc := "(IIII)I" } : Jvm.MethodName)) ∈ TT := tt_4 70 rfl rfl
theorem tw_3_71 : (Jvm.Cond.code ({ cls := "OneRingModel", name := "gain", desc := "(IIII)I" } : Jvm.MethodName) prog_8_method_51_code (6 : Nat) (Option.some Jvm.ClassFile.FieldType.int)) ∈ TT := tt_4 71 rfl rfl
theorem tw_3_72 : (Jvm.Cond.methodLink "OneRingModel" (178 : Nat) ({ cls := "OneRingModel", name := "bringsOf", desc := "(I)I" } : Jvm.MethodName)) ∈ TT := tt_4 72 rfl rfl
theorem tw_3_74 : (Jvm.Cond.instanceMethod ({ cls := "OneRingModel", name := "bringsOf", desc := "(I)I" } : Jvm.MethodName)) ∈ TT := tt_4 74 rfl rfl
theorem tw_3_75 : (Jvm.Cond.code ({ cls := "OneRingModel", name := "bringsOf", desc := "(I)I" } : Jvm.MethodName) prog_8_method_50_code (3 : Nat) (Option.some Jvm.ClassFile.FieldType.int)) ∈ TT := tt_4 75 rfl rfl
theorem tw_3_76 : (Jvm.Cond.methodLink "OneRingLaw" (111 : Nat) ({ cls := "OneRingModel", name := "falls", desc := "(IIIZ)I" } : Jvm.MethodName)) ∈ TT := tt_4 76 rfl rfl
theorem tw_3_77 : (Jvm.Cond.instanceMethod ({ cls := "OneRingModel", name := "falls", desc := "(IIIZ)I" } : Jvm.MethodName)) ∈ TT := tt_4 77 rfl rfl
theorem tw_3_78 : (Jvm.Cond.selects "OneRingModel" ({ cls := "OneRingModel", name := "falls", desc := "(IIIZ)I" } : Jvm.MethodName) ({ cls := "OneRingModel", name := "falls", desc := "(IIIZ)I" } : Jvm.MethodName)) ∈ TT := tt_4 78 rfl rfl
theorem tw_3_79 : (Jvm.Cond.code ({ cls := "OneRingModel", name := "falls", desc := "(IIIZ)I" } : Jvm.MethodName) prog_8_method_58_code (10 : Nat) (Option.some Jvm.ClassFile.FieldType.int)) ∈ TT := tt_4 79 rfl rfl
theorem tw_3_80 : (Jvm.Cond.constantLong "OneRingModel" (189 : Nat) (10 : Int64)) ∈ TT := tt_4 80 rfl rfl
theorem tw_3_81 : (Jvm.Cond.methodLink "OneRingModel" (191 : Nat) ({ cls := "OneRingModel", name := "areOpen", desc := "(II)Z" } : Jvm.MethodName)) ∈ TT := tt_4 81 rfl rfl
theorem tw_3_83 : (Jvm.Cond.instanceMethod ({ cls := "OneRingModel", name := "areOpen", desc := "(II)Z" } : Jvm.MethodName)) ∈ TT := tt_4 83 rfl rfl
theorem tw_3_84 : (Jvm.Cond.code ({ cls := "OneRingModel", name := "areOpen", desc := "(II)Z" } : Jvm.MethodName) prog_8_method_54_code (7 : Nat) (Option.some Jvm.ClassFile.FieldType.boolean)) ∈ TT := tt_4 84 rfl rfl
theorem tw_3_85 : (Jvm.Cond.methodLink "OneRingModel" (194 : Nat) ({ cls := "OneRingModel", name := "waysIn", desc := "(II)I" } : Jvm.MethodName)) ∈ TT := tt_4 85 rfl rfl
theorem tw_3_87 : (Jvm.Cond.instanceMethod ({ cls := "OneRingModel", name := "waysIn", desc := "(II)I" } : Jvm.MethodName)) ∈ TT := tt_4 87 rfl rfl
theorem tw_3_88 : (Jvm.Cond.code ({ cls := "OneRingModel", name := "waysIn", desc := "(II)I" } : Jvm.MethodName) prog_8_method_56_code (7 : Nat) (Option.some Jvm.ClassFile.FieldType.int)) ∈ TT := tt_4 88 rfl rfl
theorem tw_3_89 : (Jvm.Cond.methodLink "OneRingModel" (197 : Nat) ({ cls := "OneRingModel", name := "power", desc := "(II)I" } : Jvm.MethodName)) ∈ TT := tt_4 89 rfl rfl
theorem tw_3_90 : (Jvm.Cond.static ({ cls := "OneRingModel", name := "power", desc := "(II)I" } : Jvm.MethodName)) ∈ TT := tt_4 90 rfl rfl
theorem tw_3_91 : (Jvm.Cond.code ({ cls := "OneRingModel", name := "power", desc := "(II)I" } : Jvm.MethodName) prog_8_method_57_code (4 : Nat) (Option.some Jvm.ClassFile.FieldType.int)) ∈ TT := tt_4 91 rfl rfl
theorem tw_3_92 : (Jvm.Cond.methodLink "OneRingModel" (200 : Nat) ({ cls := "OneRingModel", name := "holds", desc := "(III)Z" } : Jvm.MethodName)) ∈ TT := tt_4 92 rfl rfl
theorem tw_3_94 : (Jvm.Cond.instanceMethod ({ cls := "OneRingModel", name := "holds", desc := "(III)Z" } : Jvm.MethodName)) ∈ TT := tt_4 94 rfl rfl
theorem tw_3_95 : (Jvm.Cond.code ({ cls := "OneRingModel", name := "holds", desc := "(III)Z" } : Jvm.MethodName) prog_8_method_55_code (9 : Nat) (Option.some Jvm.ClassFile.FieldType.boolean)) ∈ TT := tt_4 95 rfl rfl
theorem tw_3_96 : (Jvm.Cond.methodLink "OneRingLaw" (118 : Nat) ({ cls := "OneRingModel", name := "seed", desc := "(J)J" } : Jvm.MethodName)) ∈ TT := tt_4 96 rfl rfl
theorem tw_3_97 : (Jvm.Cond.instanceMethod ({ cls := "OneRingModel", name := "seed", desc := "(J)J" } : Jvm.MethodName)) ∈ TT := tt_4 97 rfl rfl
theorem tw_3_98 : (Jvm.Cond.selects "OneRingModel" ({ cls := "OneRingModel", name := "seed", desc := "(J)J" } : Jvm.MethodName) ({ cls := "OneRingModel", name := "seed", desc := "(J)J" } : Jvm.MethodName)) ∈ TT := tt_4 98 rfl rfl
theorem tw_3_99 : (Jvm.Cond.code ({ cls := "OneRingModel", name := "seed", desc := "(J)J" } : Jvm.MethodName) prog_8_method_59_code (5 : Nat) (Option.some Jvm.ClassFile.FieldType.long)) ∈ TT := tt_4 99 rfl rfl
theorem tw_3_100 : (Jvm.Cond.methodLink "OneRingLaw" (122 : Nat) ({ cls := "OneRingModel", name := "summers", desc := "(I)I" } : Jvm.MethodName)) ∈ TT := tt_4 100 rfl rfl
theorem tw_3_101 : (Jvm.Cond.instanceMethod ({ cls := "OneRingModel", name := "summers", desc := "(I)I" } : Jvm.MethodName)) ∈ TT := tt_4 101 rfl rfl
theorem tw_3_102 : (Jvm.Cond.selects "OneRingModel" ({ cls := "OneRingModel", name := "summers", desc := "(I)I" } : Jvm.MethodName) ({ cls := "OneRingModel", name := "summers", desc := "(I)I" } : Jvm.MethodName)) ∈ TT := tt_4 102 rfl rfl
theorem tw_3_103 : (Jvm.Cond.code ({ cls := "OneRingModel", name := "summers", desc := "(I)I" } : Jvm.MethodName) prog_8_method_60_code (5 : Nat) (Option.some Jvm.ClassFile.FieldType.int)) ∈ TT := tt_4 103 rfl rfl
theorem tw_3_104 : (Jvm.Cond.constantLong "OneRingModel" (207 : Nat) (30 : Int64)) ∈ TT := tt_4 104 rfl rfl
theorem tw_3_105 : (Jvm.Cond.constantLong "OneRingModel" (209 : Nat) (6364136223846793005 : Int64)) ∈ TT := tt_4 105 rfl rfl
theorem tw_3_106 : (Jvm.Cond.constantLong "OneRingModel" (211 : Nat) (1442695040888963407 : Int64)) ∈ TT := tt_4 106 rfl rfl
theorem tw_3_107 : (Jvm.Cond.constantLong "OneRingModel" (213 : Nat) (8 : Int64)) ∈ TT := tt_4 107 rfl rfl
theorem tw_3_108 : (Jvm.Cond.methodLink "OneRingLaw" (126 : Nat) ({ cls := "OneRingModel", name := "keep", desc := "(I)I" } : Jvm.MethodName)) ∈ TT := tt_4 108 rfl rfl
theorem tw_3_109 : (Jvm.Cond.instanceMethod ({ cls := "OneRingModel", name := "keep", desc := "(I)I" } : Jvm.MethodName)) ∈ TT := tt_4 109 rfl rfl
theorem tw_3_110 : (Jvm.Cond.selects "OneRingModel" ({ cls := "OneRingModel", name := "keep", desc := "(I)I" } : Jvm.MethodName) ({ cls := "OneRingModel", name := "keep", desc := "(I)I" } : Jvm.MethodName)) ∈ TT := tt_4 110 rfl rfl
theorem tw_3_111 : (Jvm.Cond.code ({ cls := "OneRingModel", name := "keep", desc := "(I)I" } : Jvm.MethodName) prog_8_method_61_code (3 : Nat) (Option.some Jvm.ClassFile.FieldType.int)) ∈ TT := tt_4 111 rfl rfl
theorem tw_3_112 : (Jvm.Cond.methodLink "OneRingLaw" (130 : Nat) ({ cls := "OneRingModel", name := "again", desc := "(I)I" } : Jvm.MethodName)) ∈ TT := tt_4 112 rfl rfl
theorem tw_3_113 : (Jvm.Cond.instanceMethod ({ cls := "OneRingModel", name := "again", desc := "(I)I" } : Jvm.MethodName)) ∈ TT := tt_4 113 rfl rfl
theorem tw_3_114 : (Jvm.Cond.selects "OneRingModel" ({ cls := "OneRingModel", name := "again", desc := "(I)I" } : Jvm.MethodName) ({ cls := "OneRingModel", name := "again", desc := "(I)I" } : Jvm.MethodName)) ∈ TT := tt_4 114 rfl rfl
theorem tw_3_115 : (Jvm.Cond.code ({ cls := "OneRingModel", name := "again", desc := "(I)I" } : Jvm.MethodName) prog_8_method_62_code (3 : Nat) (Option.some Jvm.ClassFile.FieldType.int)) ∈ TT := tt_4 115 rfl rfl
theorem tw_3_116 : (Jvm.Cond.methodLink "OneRingLaw" (134 : Nat) ({ cls := "OneRingModel", name := "count", desc := "(I)I" } : Jvm.MethodName)) ∈ TT := tt_4 116 rfl rfl
theorem tw_3_117 : (Jvm.Cond.instanceMethod ({ cls := "OneRingModel", name := "count", desc := "(I)I" } : Jvm.MethodName)) ∈ TT := tt_4 117 rfl rfl
theorem tw_3_118 : (Jvm.Cond.selects "OneRingModel" ({ cls := "OneRingModel", name := "count", desc := "(I)I" } : Jvm.MethodName) ({ cls := "OneRingModel", name := "count", desc := "(I)I" } : Jvm.MethodName)) ∈ TT := tt_4 118 rfl rfl
theorem tw_3_119 : (Jvm.Cond.code ({ cls := "OneRingModel", name := "count", desc := "(I)I" } : Jvm.MethodName) prog_8_method_63_code (4 : Nat) (Option.some Jvm.ClassFile.FieldType.int)) ∈ TT := tt_4 119 rfl rfl
theorem tw_3_120 : (Jvm.Cond.constantLong "OneRingLaw" (112 : Nat) (4294967295 : Int64)) ∈ TT := tt_4 120 rfl rfl
theorem tw_p_0 : Cond.selects "OneRing$Text" ⟨"OneRing$Text", "fits", "(I)Z"⟩ ⟨"OneRing$Text", "fits", "(I)Z"⟩ ∈ TT := tt_p (y := ⟨"OneRing$Text", "fits", "(I)Z"⟩) (n := 2) (List.mem_append_left _ (List.mem_of_getElem? (l := lw_privs_1) (i := 0) rfl)) rfl
theorem tw_p_1 : Cond.selects "OneRing$Text" ⟨"OneRing$Text", "fitsWedding", "(I)Z"⟩ ⟨"OneRing$Text", "fitsWedding", "(I)Z"⟩ ∈ TT := tt_p (y := ⟨"OneRing$Text", "fitsWedding", "(I)Z"⟩) (n := 2) (List.mem_append_left _ (List.mem_of_getElem? (l := lw_privs_1) (i := 1) rfl)) rfl
theorem tw_p_2 : Cond.selects "OneRing$Text" ⟨"OneRing$Text", "isFigure", "(III)Z"⟩ ⟨"OneRing$Text", "isFigure", "(III)Z"⟩ ∈ TT := tt_p (y := ⟨"OneRing$Text", "isFigure", "(III)Z"⟩) (n := 2) (List.mem_append_left _ (List.mem_of_getElem? (l := lw_privs_1) (i := 2) rfl)) rfl
theorem tw_p_3 : Cond.selects "OneRing$Acts" ⟨"OneRing$Acts", "standAt", "(I)LOneRing$Stand;"⟩ ⟨"OneRing$Acts", "standAt", "(I)LOneRing$Stand;"⟩ ∈ TT := tt_p (y := ⟨"OneRing$Acts", "standAt", "(I)LOneRing$Stand;"⟩) (n := 3) (List.mem_append_left _ (List.mem_of_getElem? (l := lw_privs_1) (i := 3) rfl)) rfl
theorem tw_p_4 : Cond.selects "OneRing$Search" ⟨"OneRing$Search", "allows", "(II)Z"⟩ ⟨"OneRing$Search", "allows", "(II)Z"⟩ ∈ TT := tt_p (y := ⟨"OneRing$Search", "allows", "(II)Z"⟩) (n := 10) (List.mem_append_left _ (List.mem_of_getElem? (l := lw_privs_1) (i := 4) rfl)) rfl
theorem tw_p_5 : Cond.selects "OneRing$Search" ⟨"OneRing$Search", "record", "(IIII)V"⟩ ⟨"OneRing$Search", "record", "(IIII)V"⟩ ∈ TT := tt_p (y := ⟨"OneRing$Search", "record", "(IIII)V"⟩) (n := 10) (List.mem_append_left _ (List.mem_of_getElem? (l := lw_privs_1) (i := 5) rfl)) rfl
theorem tw_p_6 : Cond.selects "OneRing" ⟨"OneRing", "mostFrom", "(LOneRing$Stand;)I"⟩ ⟨"OneRing", "mostFrom", "(LOneRing$Stand;)I"⟩ ∈ TT := tt_p (y := ⟨"OneRing", "mostFrom", "(LOneRing$Stand;)I"⟩) (n := 13) (List.mem_append_left _ (List.mem_of_getElem? (l := lw_privs_1) (i := 6) rfl)) rfl
theorem tw_p_7 : Cond.selects "OneRing" ⟨"OneRing", "fillMostOf", "()V"⟩ ⟨"OneRing", "fillMostOf", "()V"⟩ ∈ TT := tt_p (y := ⟨"OneRing", "fillMostOf", "()V"⟩) (n := 13) (List.mem_append_left _ (List.mem_of_getElem? (l := lw_privs_1) (i := 7) rfl)) rfl
theorem tw_p_8 : Cond.selects "OneRing" ⟨"OneRing", "isAtRest", "(IIII)Z"⟩ ⟨"OneRing", "isAtRest", "(IIII)Z"⟩ ∈ TT := tt_p (y := ⟨"OneRing", "isAtRest", "(IIII)Z"⟩) (n := 13) (List.mem_append_left _ (List.mem_of_getElem? (l := lw_privs_1) (i := 8) rfl)) rfl
theorem tw_p_9 : Cond.selects "OneRing" ⟨"OneRing", "gain", "(IIII)I"⟩ ⟨"OneRing", "gain", "(IIII)I"⟩ ∈ TT := tt_p (y := ⟨"OneRing", "gain", "(IIII)I"⟩) (n := 13) (List.mem_append_left _ (List.mem_of_getElem? (l := lw_privs_1) (i := 9) rfl)) rfl
theorem tw_p_10 : Cond.selects "OneRing" ⟨"OneRing", "isRowOfOpenWeddings", "(II)Z"⟩ ⟨"OneRing", "isRowOfOpenWeddings", "(II)Z"⟩ ∈ TT := tt_p (y := ⟨"OneRing", "isRowOfOpenWeddings", "(II)Z"⟩) (n := 13) (List.mem_append_left _ (List.mem_of_getElem? (l := lw_privs_1) (i := 10) rfl)) rfl
theorem tw_p_11 : Cond.selects "OneRing" ⟨"OneRing", "weightOfFalls", "(IIII)I"⟩ ⟨"OneRing", "weightOfFalls", "(IIII)I"⟩ ∈ TT := tt_p (y := ⟨"OneRing", "weightOfFalls", "(IIII)I"⟩) (n := 13) (List.mem_append_left _ (List.mem_of_getElem? (l := lw_privs_1) (i := 11) rfl)) rfl
theorem tw_p_12 : Cond.selects "OneRing" ⟨"OneRing", "holdsWithFalls", "(III)Z"⟩ ⟨"OneRing", "holdsWithFalls", "(III)Z"⟩ ∈ TT := tt_p (y := ⟨"OneRing", "holdsWithFalls", "(III)Z"⟩) (n := 13) (List.mem_append_left _ (List.mem_of_getElem? (l := lw_privs_1) (i := 12) rfl)) rfl
theorem tw_p_13 : Cond.selects "OneRing" ⟨"OneRing", "isSlot", "(I)Z"⟩ ⟨"OneRing", "isSlot", "(I)Z"⟩ ∈ TT := tt_p (y := ⟨"OneRing", "isSlot", "(I)Z"⟩) (n := 13) (List.mem_append_left _ (List.mem_of_getElem? (l := lw_privs_1) (i := 13) rfl)) rfl
theorem tw_p_14 : Cond.selects "OneRing" ⟨"OneRing", "holdingNext", "()I"⟩ ⟨"OneRing", "holdingNext", "()I"⟩ ∈ TT := tt_p (y := ⟨"OneRing", "holdingNext", "()I"⟩) (n := 13) (List.mem_append_left _ (List.mem_of_getElem? (l := lw_privs_1) (i := 14) rfl)) rfl
theorem tw_p_15 : Cond.selects "OneRingModel" ⟨"OneRingModel", "mayBe", "(I)Z"⟩ ⟨"OneRingModel", "mayBe", "(I)Z"⟩ ∈ TT := tt_p (y := ⟨"OneRingModel", "mayBe", "(I)Z"⟩) (n := 21) (List.mem_append_left _ (List.mem_of_getElem? (l := lw_privs_1) (i := 15) rfl)) rfl
theorem tw_p_16 : Cond.selects "OneRingModel" ⟨"OneRingModel", "isWedding", "(I)Z"⟩ ⟨"OneRingModel", "isWedding", "(I)Z"⟩ ∈ TT := tt_p (y := ⟨"OneRingModel", "isWedding", "(I)Z"⟩) (n := 21) (List.mem_append_right _ (List.mem_append_left _ (List.mem_of_getElem? (l := lw_privs_2) (i := 0) rfl))) rfl
theorem tw_p_17 : Cond.selects "OneRingModel" ⟨"OneRingModel", "beginsNow", "(II)I"⟩ ⟨"OneRingModel", "beginsNow", "(II)I"⟩ ∈ TT := tt_p (y := ⟨"OneRingModel", "beginsNow", "(II)I"⟩) (n := 21) (List.mem_append_right _ (List.mem_append_left _ (List.mem_of_getElem? (l := lw_privs_2) (i := 1) rfl))) rfl
theorem tw_p_18 : Cond.selects "OneRingModel" ⟨"OneRingModel", "begins", "(IIIII)I"⟩ ⟨"OneRingModel", "begins", "(IIIII)I"⟩ ∈ TT := tt_p (y := ⟨"OneRingModel", "begins", "(IIIII)I"⟩) (n := 21) (List.mem_append_right _ (List.mem_append_left _ (List.mem_of_getElem? (l := lw_privs_2) (i := 2) rfl))) rfl
theorem tw_p_19 : Cond.selects "OneRingModel" ⟨"OneRingModel", "wayOn", "(III)I"⟩ ⟨"OneRingModel", "wayOn", "(III)I"⟩ ∈ TT := tt_p (y := ⟨"OneRingModel", "wayOn", "(III)I"⟩) (n := 21) (List.mem_append_right _ (List.mem_append_left _ (List.mem_of_getElem? (l := lw_privs_2) (i := 3) rfl))) rfl
theorem tw_p_20 : Cond.selects "OneRingModel" ⟨"OneRingModel", "lasts", "(I)I"⟩ ⟨"OneRingModel", "lasts", "(I)I"⟩ ∈ TT := tt_p (y := ⟨"OneRingModel", "lasts", "(I)I"⟩) (n := 21) (List.mem_append_right _ (List.mem_append_left _ (List.mem_of_getElem? (l := lw_privs_2) (i := 4) rfl))) rfl
theorem tw_p_21 : Cond.selects "OneRingModel" ⟨"OneRingModel", "keepAct", "()V"⟩ ⟨"OneRingModel", "keepAct", "()V"⟩ ∈ TT := tt_p (y := ⟨"OneRingModel", "keepAct", "()V"⟩) (n := 21) (List.mem_append_right _ (List.mem_append_left _ (List.mem_of_getElem? (l := lw_privs_2) (i := 5) rfl))) rfl
theorem tw_p_22 : Cond.selects "OneRingModel" ⟨"OneRingModel", "wedOn", "(II)Z"⟩ ⟨"OneRingModel", "wedOn", "(II)Z"⟩ ∈ TT := tt_p (y := ⟨"OneRingModel", "wedOn", "(II)Z"⟩) (n := 21) (List.mem_append_right _ (List.mem_append_left _ (List.mem_of_getElem? (l := lw_privs_2) (i := 6) rfl))) rfl
theorem tw_p_23 : Cond.selects "OneRingModel" ⟨"OneRingModel", "behind", "(II)I"⟩ ⟨"OneRingModel", "behind", "(II)I"⟩ ∈ TT := tt_p (y := ⟨"OneRingModel", "behind", "(II)I"⟩) (n := 21) (List.mem_append_right _ (List.mem_append_left _ (List.mem_of_getElem? (l := lw_privs_2) (i := 7) rfl))) rfl
theorem tw_p_24 : Cond.selects "OneRingModel" ⟨"OneRingModel", "every", "()I"⟩ ⟨"OneRingModel", "every", "()I"⟩ ∈ TT := tt_p (y := ⟨"OneRingModel", "every", "()I"⟩) (n := 21) (List.mem_append_right _ (List.mem_append_left _ (List.mem_of_getElem? (l := lw_privs_2) (i := 8) rfl))) rfl
theorem tw_p_25 : Cond.selects "OneRingModel" ⟨"OneRingModel", "mostOn", "(II)I"⟩ ⟨"OneRingModel", "mostOn", "(II)I"⟩ ∈ TT := tt_p (y := ⟨"OneRingModel", "mostOn", "(II)I"⟩) (n := 21) (List.mem_append_right _ (List.mem_append_left _ (List.mem_of_getElem? (l := lw_privs_2) (i := 9) rfl))) rfl
theorem tw_p_26 : Cond.selects "OneRingModel" ⟨"OneRingModel", "noteEarlier", "(III)V"⟩ ⟨"OneRingModel", "noteEarlier", "(III)V"⟩ ∈ TT := tt_p (y := ⟨"OneRingModel", "noteEarlier", "(III)V"⟩) (n := 21) (List.mem_append_right _ (List.mem_append_left _ (List.mem_of_getElem? (l := lw_privs_2) (i := 10) rfl))) rfl
theorem tw_p_27 : Cond.selects "OneRingModel" ⟨"OneRingModel", "firstRow", "(I)I"⟩ ⟨"OneRingModel", "firstRow", "(I)I"⟩ ∈ TT := tt_p (y := ⟨"OneRingModel", "firstRow", "(I)I"⟩) (n := 21) (List.mem_append_right _ (List.mem_append_left _ (List.mem_of_getElem? (l := lw_privs_2) (i := 11) rfl))) rfl
theorem tw_p_28 : Cond.selects "OneRingModel" ⟨"OneRingModel", "goesOn", "(III)Z"⟩ ⟨"OneRingModel", "goesOn", "(III)Z"⟩ ∈ TT := tt_p (y := ⟨"OneRingModel", "goesOn", "(III)Z"⟩) (n := 21) (List.mem_append_right _ (List.mem_append_left _ (List.mem_of_getElem? (l := lw_privs_2) (i := 12) rfl))) rfl
theorem tw_p_29 : Cond.selects "OneRingModel" ⟨"OneRingModel", "layTrial", "()V"⟩ ⟨"OneRingModel", "layTrial", "()V"⟩ ∈ TT := tt_p (y := ⟨"OneRingModel", "layTrial", "()V"⟩) (n := 21) (List.mem_append_right _ (List.mem_append_left _ (List.mem_of_getElem? (l := lw_privs_2) (i := 13) rfl))) rfl
theorem tw_p_30 : Cond.selects "OneRingModel" ⟨"OneRingModel", "endOf", "(I)I"⟩ ⟨"OneRingModel", "endOf", "(I)I"⟩ ∈ TT := tt_p (y := ⟨"OneRingModel", "endOf", "(I)I"⟩) (n := 21) (List.mem_append_right _ (List.mem_append_left _ (List.mem_of_getElem? (l := lw_privs_2) (i := 14) rfl))) rfl
theorem tw_p_31 : Cond.selects "OneRingModel" ⟨"OneRingModel", "rowBy", "(II)I"⟩ ⟨"OneRingModel", "rowBy", "(II)I"⟩ ∈ TT := tt_p (y := ⟨"OneRingModel", "rowBy", "(II)I"⟩) (n := 21) (List.mem_append_right _ (List.mem_append_left _ (List.mem_of_getElem? (l := lw_privs_2) (i := 15) rfl))) rfl
theorem tw_p_32 : Cond.selects "OneRingModel" ⟨"OneRingModel", "isSeen", "(I)Z"⟩ ⟨"OneRingModel", "isSeen", "(I)Z"⟩ ∈ TT := tt_p (y := ⟨"OneRingModel", "isSeen", "(I)Z"⟩) (n := 21) (List.mem_append_right _ (List.mem_append_right _ (List.mem_of_getElem? (l := lw_privs_3) (i := 0) rfl))) rfl
theorem tw_p_33 : Cond.selects "OneRingModel" ⟨"OneRingModel", "isRest", "(IIII)Z"⟩ ⟨"OneRingModel", "isRest", "(IIII)Z"⟩ ∈ TT := tt_p (y := ⟨"OneRingModel", "isRest", "(IIII)Z"⟩) (n := 21) (List.mem_append_right _ (List.mem_append_right _ (List.mem_of_getElem? (l := lw_privs_3) (i := 1) rfl))) rfl
theorem tw_p_34 : Cond.selects "OneRingModel" ⟨"OneRingModel", "gain", "(IIII)I"⟩ ⟨"OneRingModel", "gain", "(IIII)I"⟩ ∈ TT := tt_p (y := ⟨"OneRingModel", "gain", "(IIII)I"⟩) (n := 21) (List.mem_append_right _ (List.mem_append_right _ (List.mem_of_getElem? (l := lw_privs_3) (i := 2) rfl))) rfl
theorem tw_p_35 : Cond.selects "OneRingModel" ⟨"OneRingModel", "bringsOf", "(I)I"⟩ ⟨"OneRingModel", "bringsOf", "(I)I"⟩ ∈ TT := tt_p (y := ⟨"OneRingModel", "bringsOf", "(I)I"⟩) (n := 21) (List.mem_append_right _ (List.mem_append_right _ (List.mem_of_getElem? (l := lw_privs_3) (i := 3) rfl))) rfl
theorem tw_p_36 : Cond.selects "OneRingModel" ⟨"OneRingModel", "areOpen", "(II)Z"⟩ ⟨"OneRingModel", "areOpen", "(II)Z"⟩ ∈ TT := tt_p (y := ⟨"OneRingModel", "areOpen", "(II)Z"⟩) (n := 21) (List.mem_append_right _ (List.mem_append_right _ (List.mem_of_getElem? (l := lw_privs_3) (i := 4) rfl))) rfl
theorem tw_p_37 : Cond.selects "OneRingModel" ⟨"OneRingModel", "waysIn", "(II)I"⟩ ⟨"OneRingModel", "waysIn", "(II)I"⟩ ∈ TT := tt_p (y := ⟨"OneRingModel", "waysIn", "(II)I"⟩) (n := 21) (List.mem_append_right _ (List.mem_append_right _ (List.mem_of_getElem? (l := lw_privs_3) (i := 5) rfl))) rfl
theorem tw_p_38 : Cond.selects "OneRingModel" ⟨"OneRingModel", "holds", "(III)Z"⟩ ⟨"OneRingModel", "holds", "(III)Z"⟩ ∈ TT := tt_p (y := ⟨"OneRingModel", "holds", "(III)Z"⟩) (n := 21) (List.mem_append_right _ (List.mem_append_right _ (List.mem_of_getElem? (l := lw_privs_3) (i := 6) rfl))) rfl
theorem inl_X0 : ∀ w ∈ u_ws RX0 TX0 3, w ∈ TT := List.forall_mem_cons.mpr ⟨tw_0_98, List.forall_mem_cons.mpr ⟨tw_0_100, List.forall_mem_cons.mpr ⟨tw_0_102, fun _ h => absurd h List.not_mem_nil⟩⟩⟩
theorem inl_X1 : ∀ w ∈ u_ws RX1 TX1 4, w ∈ TT := List.forall_mem_cons.mpr ⟨tw_0_47, List.forall_mem_cons.mpr ⟨tw_0_49, List.forall_mem_cons.mpr ⟨tw_0_51, List.forall_mem_cons.mpr ⟨tw_0_53, fun _ h => absurd h List.not_mem_nil⟩⟩⟩⟩
theorem inl_X2 : ∀ w ∈ u_ws RX2 TX2 10, w ∈ TT := List.forall_mem_cons.mpr ⟨tw_0_130, List.forall_mem_cons.mpr ⟨tw_0_132, List.forall_mem_cons.mpr ⟨tw_0_134, List.forall_mem_cons.mpr ⟨tw_0_136, List.forall_mem_cons.mpr ⟨tw_0_138, List.forall_mem_cons.mpr ⟨tw_0_140, List.forall_mem_cons.mpr ⟨tw_0_142, List.forall_mem_cons.mpr ⟨tw_0_144, List.forall_mem_cons.mpr ⟨tw_0_146, List.forall_mem_cons.mpr ⟨tw_0_148, fun _ h => absurd h List.not_mem_nil⟩⟩⟩⟩⟩⟩⟩⟩⟩⟩
theorem inl_X3 : ∀ w ∈ u_ws RX3 TX3 4, w ∈ TT := List.forall_mem_cons.mpr ⟨tw_0_76, List.forall_mem_cons.mpr ⟨tw_0_78, List.forall_mem_cons.mpr ⟨tw_0_80, List.forall_mem_cons.mpr ⟨tw_0_82, fun _ h => absurd h List.not_mem_nil⟩⟩⟩⟩
theorem inl_X4 : ∀ w ∈ u_ws RX4 TX4 2, w ∈ TT := List.forall_mem_cons.mpr ⟨tw_0_28, List.forall_mem_cons.mpr ⟨tw_0_30, fun _ h => absurd h List.not_mem_nil⟩⟩
theorem inl_X5 : ∀ w ∈ u_ws RX5 TX5 13, w ∈ TT := List.forall_mem_cons.mpr ⟨tw_0_164, List.forall_mem_cons.mpr ⟨tw_0_166, List.forall_mem_cons.mpr ⟨tw_0_168, List.forall_mem_cons.mpr ⟨tw_0_170, List.forall_mem_cons.mpr ⟨tw_0_172, List.forall_mem_cons.mpr ⟨tw_0_174, List.forall_mem_cons.mpr ⟨tw_0_176, List.forall_mem_cons.mpr ⟨tw_0_178, List.forall_mem_cons.mpr ⟨tw_0_180, List.forall_mem_cons.mpr ⟨tw_0_182, List.forall_mem_cons.mpr ⟨tw_0_184, List.forall_mem_cons.mpr ⟨tw_0_186, List.forall_mem_cons.mpr ⟨tw_0_188, fun _ h => absurd h List.not_mem_nil⟩⟩⟩⟩⟩⟩⟩⟩⟩⟩⟩⟩⟩
theorem inl_X6 : ∀ w ∈ u_ws RX6 TX6 21, w ∈ TT := List.forall_mem_cons.mpr ⟨tw_2_68, List.forall_mem_cons.mpr ⟨tw_2_70, List.forall_mem_cons.mpr ⟨tw_2_72, List.forall_mem_cons.mpr ⟨tw_2_74, List.forall_mem_cons.mpr ⟨tw_2_76, List.forall_mem_cons.mpr ⟨tw_2_78, List.forall_mem_cons.mpr ⟨tw_2_80, List.forall_mem_cons.mpr ⟨tw_2_82, List.forall_mem_cons.mpr ⟨tw_2_84, List.forall_mem_cons.mpr ⟨tw_2_86, List.forall_mem_cons.mpr ⟨tw_2_88, List.forall_mem_cons.mpr ⟨tw_2_90, List.forall_mem_cons.mpr ⟨tw_2_92, List.forall_mem_cons.mpr ⟨tw_2_94, List.forall_mem_cons.mpr ⟨tw_2_96, List.forall_mem_cons.mpr ⟨tw_2_98, List.forall_mem_cons.mpr ⟨tw_2_100, List.forall_mem_cons.mpr ⟨tw_2_102, List.forall_mem_cons.mpr ⟨tw_2_104, List.forall_mem_cons.mpr ⟨tw_2_106, List.forall_mem_cons.mpr ⟨tw_2_108, fun _ h => absurd h List.not_mem_nil⟩⟩⟩⟩⟩⟩⟩⟩⟩⟩⟩⟩⟩⟩⟩⟩⟩⟩⟩⟩⟩
end
section
/-! an abstract machine over the shape of heap that stands behind the constructors: refs are (kind, which one); all that changes are ints (and two longs) -/
abbrev AV : Type := Int32 ⊕ Int64 ⊕ Option (Nat × Nat)
abbrev aI (x : Int32) : AV := Sum.inl x
abbrev aL (x : Int64) : AV := Sum.inr (Sum.inl x)
abbrev aR (k i : Nat) : AV := Sum.inr (Sum.inr (some (k, i)))
abbrev aN : AV := Sum.inr (Sum.inr none)
abbrev AM : Type := Nat → Nat → Nat
def cv (al : AM) : AV → Value
  | .inl x => .int x
  | .inr (.inl x) => .long x
  | .inr (.inr (some q)) => .ref (al q.1 q.2)
  | .inr (.inr none) => .null
abbrev Wd : Type := (Nat → Nat → Nat → Int32) × (Nat → Int64)
abbrev XS : Type := Nat × (Nat → Int32)
abbrev MD : Type := MethodName × ByteArray × Nat × Option FieldType
def cntK : Nat → Nat
  | 3 => 19
  | 15 => 19
  | 7 => 0
  | 8 => 0
  | 9 => 0
  | k => if k < 36 then 1 else 0
def lenK (X : XS) : Nat → Nat
  | 10 => 48 | 11 => 30 | 12 => 6 | 13 => 7 | 14 => 64 | 15 => 5 | 16 => 6 | 17 => 6 | 18 => 64 | 19 => 2
  | 20 => 6 | 21 => 6 | 22 => 6 | 23 => 6 | 24 => 6 | 25 => 16 | 26 => 48 | 27 => 112 | 28 => 384 | 29 => 6
  | 30 => 6 | 31 => 64 | 32 => 16 | 33 => 2 | 34 => 2 | 35 => 14 | 40 => 7 | 41 => 7 | 42 => X.1 | _ => 0
def refK : Nat → Nat → Nat → Option (Nat × Nat)
  | 0, _, 0 => some (35, 0)
  | 1, _, 0 => some (11, 0) | 1, _, 1 => some (12, 0)
  | 2, _, 0 => some (3, 2) | 2, _, 1 => some (13, 0) | 2, _, 2 => some (14, 0)
  | 3, i, 0 => some (15, i)
  | 4, _, 0 => some (10, 0)
  | 5, _, 0 => some (4, 0) | 5, _, 1 => some (1, 0) | 5, _, 2 => some (3, 0) | 5, _, 3 => some (3, 1) | 5, _, 4 => some (0, 0) | 5, _, 5 => some (2, 0)
  | 5, _, 6 => some (34, 0) | 5, _, 7 => some (19, 0) | 5, _, 8 => some (16, 0) | 5, _, 9 => some (17, 0) | 5, _, 10 => some (18, 0)
  | 6, _, 2 => some (20, 0) | 6, _, 3 => some (21, 0) | 6, _, 4 => some (22, 0) | 6, _, 5 => some (23, 0) | 6, _, 6 => some (24, 0) | 6, _, 7 => some (25, 0) | 6, _, 8 => some (26, 0)
  | 6, _, 12 => some (27, 0) | 6, _, 13 => some (28, 0) | 6, _, 15 => some (29, 0) | 6, _, 16 => some (30, 0) | 6, _, 17 => some (31, 0) | 6, _, 19 => some (33, 0) | 6, _, 20 => some (32, 0)
  | _, _, _ => none
def lngK (k f : Nat) : Bool := (k == 5 && f == 12) || (k == 6 && f == 18)
def fldA (k i f : Nat) (w : Wd) : AV := match refK k i f with
  | some q => aR q.1 q.2
  | none => if lngK k f = true then aL (w.2 k) else aI (w.1 k i f)
def nFl : Nat → Nat
  | 0 => 3 | 1 => 4 | 2 => 10 | 3 => 4 | 4 => 2 | 5 => 13 | _ => 21
def RK : Nat → String
  | 0 => RX0 | 1 => RX1 | 2 => RX2 | 3 => RX3 | 4 => RX4 | 5 => RX5 | _ => RX6
def TK : Nat → u_T
  | 0 => TX0 | 1 => TX1 | 2 => TX2 | 3 => TX3 | 4 => TX4 | 5 => TX5 | _ => TX6
def tyK : Nat → Nat → FieldType
  | 0 => tyX0 | 1 => tyX1 | 2 => tyX2 | 3 => tyX3 | 4 => tyX4 | 5 => tyX5 | _ => tyX6
def cellA (X : XS) (al : AM) (cI cZ cS : ClassId) (w : Wd) (q : Nat × Nat) : va_E :=
  if q.1 < 7 then .inr (q.1, (List.range (nFl q.1)).map (fun f => cv al (fldA q.1 q.2 f w)))
  else if q.1 = 34 then .inl (cS, 2, .inr (.inr (.inr (.inr (fun j => some (al 3 (3 + j)))))))
  else if q.1 = 35 then .inl (cS, 14, .inr (.inr (.inr (.inr (fun j => some (al 3 (5 + j)))))))
  else if q.1 = 19 ∨ q.1 = 33 then .inl (cZ, lenK X q.1, .inl (w.1 q.1 q.2))
  else .inl (cI, lenK X q.1, .inl (w.1 q.1 q.2))
def keysA : List (Nat × Nat) := (List.range 36).flatMap fun k => (List.range (cntK k)).map fun i => (k, i)
def keysN : List Nat := keysA.map fun q => q.1 * 100 + q.2
theorem keys_nd : va_nd keysN = true := by decide +kernel
theorem keys_small : keysA.all (fun q => decide (q.2 < 100)) = true := by decide +kernel
theorem keys_in {k i : Nat} (h : i < cntK k) : ∃ p : Nat, keysA[p]? = some (k, i) := by
  have hk : k < 36 := by
    apply Nat.lt_of_not_le
    intro h36
    unfold cntK at h
    split at h <;> first | omega | (rw [if_neg (by omega)] at h; omega)
  have hm : (k, i) ∈ keysA := List.mem_flatMap.mpr ⟨k, List.mem_range.mpr hk, List.mem_map.mpr ⟨i, List.mem_range.mpr h, rfl⟩⟩
  exact List.getElem?_of_mem hm
theorem keys_inj {a b : Nat} {q : Nat × Nat} (ha : keysA[a]? = some q) (hb : keysA[b]? = some q) : a = b :=
  va_nd_inj keysN keys_nd a b (q.1 * 100 + q.2) (by rw [keysN, List.getElem?_map, ha]; rfl) (by rw [keysN, List.getElem?_map, hb]; rfl)
def wsA (X : XS) (al : AM) (cI cZ cS : ClassId) (w : Wd) : va_W := keysA.map fun q => (al q.1 q.2, cellA X al cI cZ cS w q)
def PA (X : XS) (al : AM) (D : va_G) (cI cZ cS : ClassId) (w : Wd) (H : Heap) : Prop := va_P D vwCl (wsA X al cI cZ cS w) H
def DA (al : AM) (lo : Nat) : Prop := (∀ (a b : Nat) (p q : Nat × Nat), keysA[a]? = some p → keysA[b]? = some q → al p.1 p.2 = al q.1 q.2 → a = b) ∧ ∀ q ∈ keysA, lo ≤ al q.1 q.2
def tensA : Nat → Int32
  | 0 => 1 | 1 => 10 | 2 => 100 | 3 => 1000 | 4 => 10000 | 5 => 100000 | _ => 1000000
def facsA : Nat → Int32
  | 0 => 1 | 1 => 1 | 2 => 2 | 3 => 6 | 4 => 24 | 5 => 120 | _ => 720
/-- the links to 'at' from the classes inside -/
def nestsA : List (String × Nat × MethodName) := [(RX4, 19, yX5_at), (RX3, 25, yX5_at), (RX1, 42, yX5_at), (RX2, 73, yX5_at)]
def EA (X : XS) (al : AM) (D : va_G) (cI cZ cS : ClassId) (lo : Nat) (s : State) : Prop :=
  va_K D vwCl [(cI, .int), (cZ, .boolean), (cS, .object RX3)] s ∧ DA al lo ∧
  (va_T .int (al 40 0) 7 (fun j => .int (tensA j)) (fun q => lo ≤ q) s s.heap ∧ va_T .int (al 41 0) 7 (fun j => .int (facsA j)) (fun q => lo ≤ q) s s.heap ∧ va_T .int (al 42 0) X.1 (fun j => .int (X.2 j)) (fun q => lo ≤ q) s s.heap) ∧
  va_Z RX5 "TENS" "[I" (.ref (al 40 0)) (fun q => lo ≤ q) s s.heap ∧ va_Z RX5 "FACTORIALS" "[I" (.ref (al 41 0)) (fun q => lo ≤ q) s s.heap ∧ ∀ q ∈ nestsA, va_Nw (.methodLinkNest q.1 q.2.1 q.2.2 RX5) s
def CT (d : Nat) (M : MD) (p : Program) (R : Room) (s : State) (m : MethodId) (args : Array Value) (meth : Method) (c : Code) : Prop :=
  p.tables.exec = Jvm.exec ∧ c.code = M.2.1 ∧ c.maxLocals = M.2.2.1 ∧ s.vm.findClass M.1.cls = some m.cls ∧ (∀ w ∈ TT, w.before args s = true) ∧ meth.locks = false ∧ meth.sig.returnType = M.2.2.2 ∧ d ≤ R.frames ∧ 40 * d ≤ R.locals
def LA (al : AM) (la : Array Slot) (n : Nat) (ls : List (Option AV)) : Prop := la.size = n ∧ lv_wf la ∧ ∀ (i : Nat) (a : AV), ls[i]? = some (some a) → la[i]? = some (.val (cv al a))
def RI (M : MD) (pc : Nat) (r : Option AV) : Prop := match r with
  | none => decode M.2.1 pc = .ok (.return_, 1) ∧ M.2.2.2 = none
  | some (.inl x) => decode M.2.1 pc = .ok (.ireturn, 1) ∧ ∃ ty, M.2.2.2 = some ty ∧ narrow ty (.int x) = .int x
  | some (.inr (.inl _)) => decode M.2.1 pc = .ok (.lreturn, 1) ∧ M.2.2.2 = some .long
  | some (.inr (.inr _)) => decode M.2.1 pc = .ok (.areturn, 1) ∧ ∃ rt, M.2.2.2 = some rt ∧ ((∃ n, rt = .object n) ∨ ∃ t, rt = .array t)
/-- from here (a place in a method, its variables, its stack, the world) the method comes to its end, with an answer and a world that Q holds of; d: so many calls may stand open in it -/
def AW (d : Nat) (X : XS) (M : MD) (pc : Nat) (ls : List (Option AV)) (st : List AV) (w : Wd) (Q : Option AV → Wd → Prop) : Prop :=
  ∀ (al : AM) (D : va_G) (cI cZ cS : ClassId) (lo : Nat) (p : Program) (l : Launch) (e : Env) (R : Room) (s : State) (m : MethodId) (args : Array Value) (below : List Frame) (meth : Method) (c : Code) (H : Heap) (locs : List Loc) (cells slots : Nat) (la : Array Slot) (Z : State → Prop),
    CT d M p R s m args meth c → EA X al D cI cZ cS lo s → cells ≤ R.cells → slots ≤ R.slots → PA X al D cI cZ cS w H → va_S (fun q => lo ≤ q) s.heap H locs → LA al la M.2.2.1 ls →
    (∀ (r : Option AV) (w' : Wd) (H' : Heap) (locs' : List Loc) (la' : Array Slot) (pc' : Nat), Q r w' → RI M pc' r → PA X al D cI cZ cS w' H' → va_S (fun q => lo ≤ q) s.heap H' locs' → W p l e R s m args below meth c H' locs' cells slots Z (F0 m pc' la' (r.toList.map (cv al)))) →
    W p l e R s m args below meth c H locs cells slots Z (F0 m pc la (st.map (cv al)))
/-! the world's cells, by key -/
theorem wsA_at {X : XS} {al : AM} {cI cZ cS : ClassId} {w : Wd} {p : Nat} {q : Nat × Nat} (h : keysA[p]? = some q) : (wsA X al cI cZ cS w)[p]? = some (al q.1 q.2, cellA X al cI cZ cS w q) := by
  rw [wsA, List.getElem?_map, h]; rfl
theorem wsA_set {X : XS} {al : AM} {cI cZ cS : ClassId} {w w' : Wd} {p : Nat} {q : Nat × Nat} (h : keysA[p]? = some q) (hw : ∀ q' ∈ keysA, q' ≠ q → cellA X al cI cZ cS w' q' = cellA X al cI cZ cS w q') : (wsA X al cI cZ cS w).set p (al q.1 q.2, cellA X al cI cZ cS w' q) = wsA X al cI cZ cS w' := by
  apply List.ext_getElem?
  intro n
  by_cases hn : n = p
  · subst hn
    have hl : n < (wsA X al cI cZ cS w).length := by rw [wsA, List.length_map]; exact (List.getElem?_eq_some_iff.mp h).1
    rw [List.getElem?_set_self hl, wsA_at h]
  · rw [List.getElem?_set_ne (Ne.symm hn), wsA, wsA, List.getElem?_map, List.getElem?_map]
    cases hk : keysA[n]? with
    | none => rfl
    | some q' =>
      have hq : q' ≠ q := fun z => hn (keys_inj (z ▸ hk) h)
      simp only [Option.map_some, hw q' (List.mem_of_getElem? hk) hq]
theorem wsA_D {X : XS} {al : AM} {cI cZ cS : ClassId} {w : Wd} {lo : Nat} (h : DA al lo) : va_D (fun q => lo ≤ q) (wsA X al cI cZ cS w) := by
  refine ⟨fun i j p q hi hj hpq => ?_, fun k q hk => ?_⟩
  · rw [wsA, List.getElem?_map] at hi hj
    cases hi' : keysA[i]? with
    | none => rw [hi'] at hi; cases hi
    | some a =>
      cases hj' : keysA[j]? with
      | none => rw [hj'] at hj; cases hj
      | some b =>
        rw [hi'] at hi; rw [hj'] at hj
        cases hi; cases hj
        exact h.1 i j a b hi' hj' hpq
  · rw [wsA, List.getElem?_map] at hk
    cases hk' : keysA[k]? with
    | none => rw [hk'] at hk; cases hk
    | some a =>
      rw [hk'] at hk
      cases hk
      exact h.2 a (List.mem_of_getElem? hk')
/-- one int of the world, anew -/
def wS (w : Wd) (k i j : Nat) (x : Int32) : Wd := (fun k' i' => if k' = k ∧ i' = i then (fun j' => if j' = j then x else w.1 k i j') else w.1 k' i', w.2)
def wL (w : Wd) (k : Nat) (x : Int64) : Wd := (w.1, fun k' => if k' = k then x else w.2 k')
theorem wS_same {w : Wd} {k i j : Nat} {x : Int32} : (wS w k i j x).1 k i = fun j' => if j' = j then x else w.1 k i j' := by simp [wS]
theorem wS_off {w : Wd} {k i j : Nat} {x : Int32} {k' i' : Nat} (h : ¬ (k' = k ∧ i' = i)) : (wS w k i j x).1 k' i' = w.1 k' i' := by simp only [wS, if_neg h]
theorem vw_at : ∀ k, k < 7 → vwCl[k]? = some (RK k, TK k, nFl k)
  | 0, _ => rfl | 1, _ => rfl | 2, _ => rfl | 3, _ => rfl | 4, _ => rfl | 5, _ => rfl | 6, _ => rfl
  | n + 7, h => absurd h (by omega)
theorem inl_at : ∀ k, k < 7 → ∀ w ∈ u_ws (RK k) (TK k) (nFl k), w ∈ TT
  | 0, _ => inl_X0 | 1, _ => inl_X1 | 2, _ => inl_X2 | 3, _ => inl_X3 | 4, _ => inl_X4 | 5, _ => inl_X5 | 6, _ => inl_X6
  | n + 7, h => absurd h (by omega)
theorem ty_at : ∀ k, k < 7 → ∀ f, f < nFl k → parseFieldDescriptor (TK k f).2.2.1 = some (tyK k f)
  | 0, _ => tyX0_ok | 1, _ => tyX1_ok | 2, _ => tyX2_ok | 3, _ => tyX3_ok | 4, _ => tyX4_ok | 5, _ => tyX5_ok | 6, _ => tyX6_ok
  | n + 7, h => absurd h (by omega)
theorem nm_at : ∀ k, k < 7 → ∀ a, a < nFl k → ∀ b, b < nFl k → a ≠ b → (TK k a).2.1 ≠ (TK k b).2.1
  | 0, _ => nmX0 | 1, _ => nmX1 | 2, _ => nmX2 | 3, _ => nmX3 | 4, _ => nmX4 | 5, _ => nmX5 | 6, _ => nmX6
  | n + 7, h => absurd h (by omega)
theorem k_lt {k i : Nat} (h : i < cntK k) : k < 36 := by
  apply Nat.lt_of_not_le
  intro h36
  unfold cntK at h
  split at h <;> first | omega | (rw [if_neg (by omega)] at h; omega)
theorem cellA_obj {X : XS} {al : AM} {cI cZ cS : ClassId} {w : Wd} {k i : Nat} (hk : k < 7) : cellA X al cI cZ cS w (k, i) = .inr (k, (List.range (nFl k)).map (fun f => cv al (fldA k i f w))) := by
  unfold cellA; rw [if_pos hk]
/-- arrays of ints (and of booleans) among the kinds -/
def intK (k : Nat) : Bool := decide (10 ≤ k) && decide (k < 34) && !(k == 19) && !(k == 33)
def bolK (k : Nat) : Bool := k == 19 || k == 33
theorem cellA_int {X : XS} {al : AM} {cI cZ cS : ClassId} {w : Wd} {k i : Nat} (hk : intK k = true) : cellA X al cI cZ cS w (k, i) = .inl (cI, lenK X k, .inl (w.1 k i)) := by
  simp only [intK, Bool.and_eq_true, decide_eq_true_eq, Bool.not_eq_true', beq_eq_false_iff_ne, ne_eq] at hk
  obtain ⟨⟨⟨h1, h2⟩, h3⟩, h4⟩ := hk
  unfold cellA
  rw [if_neg (by show ¬ k < 7; omega), if_neg (by show ¬ k = 34; omega), if_neg (by show ¬ k = 35; omega), if_neg (by show ¬ (k = 19 ∨ k = 33); omega)]
theorem cellA_bol {X : XS} {al : AM} {cI cZ cS : ClassId} {w : Wd} {k i : Nat} (hk : bolK k = true) : cellA X al cI cZ cS w (k, i) = .inl (cZ, lenK X k, .inl (w.1 k i)) := by
  simp only [bolK, Bool.or_eq_true, beq_iff_eq] at hk
  unfold cellA
  rw [if_neg (by show ¬ k < 7; omega), if_neg (by show ¬ k = 34; omega), if_neg (by show ¬ k = 35; omega), if_pos (by show k = 19 ∨ k = 33; omega)]
/-- a cell whose ints and long stay -/
theorem cellA_off {X : XS} {al : AM} {cI cZ cS : ClassId} {w w' : Wd} {q : Nat × Nat} (hI : w'.1 q.1 q.2 = w.1 q.1 q.2) (hL : w'.2 q.1 = w.2 q.1) : cellA X al cI cZ cS w' q = cellA X al cI cZ cS w q := by
  unfold cellA
  simp only [hI]
  have hf : ∀ f, fldA q.1 q.2 f w' = fldA q.1 q.2 f w := fun f => by
    unfold fldA
    cases refK q.1 q.2 f with
    | some _ => rfl
    | none => simp only [hI, hL]
  simp only [hf]
theorem keys_lt {q : Nat × Nat} (h : q ∈ keysA) : q.2 < cntK q.1 := by
  obtain ⟨k, -, h2⟩ := List.mem_flatMap.mp h
  obtain ⟨i, h3, rfl⟩ := List.mem_map.mp h2
  exact List.mem_range.mp h3
/-! locals -/
def ascA (al : AM) (ls : List (Option AV)) : List (Nat × Value) := (List.range ls.length).filterMap fun j => match ls[j]? with
  | some (some a) => some (j, cv al a)
  | _ => none
theorem ascA_mem {al : AM} {ls : List (Option AV)} {j : Nat} {v : Value} : (j, v) ∈ ascA al ls ↔ ∃ a, ls[j]? = some (some a) ∧ v = cv al a := by
  unfold ascA
  constructor
  · intro h
    obtain ⟨j', -, h2⟩ := List.mem_filterMap.mp h
    split at h2
    next a ha => cases h2; exact ⟨a, ha, rfl⟩
    next => cases h2
  · rintro ⟨a, h, rfl⟩
    refine List.mem_filterMap.mpr ⟨j, List.mem_range.mpr (List.getElem?_eq_some_iff.mp h).1, ?_⟩
    rw [h]
theorem LA.has {al : AM} {la : Array Slot} {n : Nat} {ls : List (Option AV)} (h : LA al la n ls) : lv_has la n (ascA al ls) := ⟨h.1, h.2.1, fun q hq => by
  obtain ⟨a, h1, h2⟩ := ascA_mem.mp (show (q.1, q.2) ∈ ascA al ls from hq)
  rw [h2]; exact h.2.2 _ _ h1⟩
theorem LA.at {al : AM} {la : Array Slot} {n : Nat} {ls : List (Option AV)} (h : LA al la n ls) {i : Nat} {a : AV} (hi : ls[i]? = some (some a)) : la[i]? = some (.val (cv al a)) := h.2.2 i a hi
/-- no long ends at this place -/
def nlL (ls : List (Option AV)) : Nat → Bool
  | 0 => true
  | i + 1 => match ls[i]? with
    | some (some (.inr (.inl _))) => false
    | _ => true
theorem cv_cat {al : AM} {a : AV} : (cv al a).category = 2 → ∃ x, a = aL x := by
  intro h
  match a, h with
  | .inl _, h => exact absurd h (by show ¬ (1 : Nat) = 2; omega)
  | .inr (.inl x), _ => exact ⟨x, rfl⟩
  | .inr (.inr (some _)), h => exact absurd h (by show ¬ (1 : Nat) = 2; omega)
  | .inr (.inr none), h => exact absurd h (by show ¬ (1 : Nat) = 2; omega)
theorem LA.put {al : AM} {la' : Array Slot} {n i : Nat} {ls : List (Option AV)} {v : AV} (hl : nlL ls i = true) (h : lv_has la' n ((i, cv al v) :: (ascA al ls).filter (fun q => !(q.1 == i) && !(q.1 + 1 == i && q.2.category == 2)))) : LA al la' n (ls.set i (some v)) := by
  refine ⟨h.1, h.2.1, fun j a hj => ?_⟩
  by_cases hji : j = i
  · subst hji
    have hlt := (List.getElem?_eq_some_iff.mp hj).1
    rw [List.length_set] at hlt
    rw [List.getElem?_set_self hlt] at hj
    cases hj
    exact h.2.2 (j, cv al v) List.mem_cons_self
  · rw [List.getElem?_set_ne (Ne.symm hji)] at hj
    refine h.2.2 (j, cv al a) (List.mem_cons_of_mem _ (List.mem_filter.mpr ⟨ascA_mem.mpr ⟨a, hj, rfl⟩, ?_⟩))
    simp only [Bool.and_eq_true, Bool.not_eq_true', beq_eq_false_iff_ne, ne_eq, Bool.and_eq_false_iff]
    refine ⟨hji, ?_⟩
    by_cases hj1 : j + 1 = i
    · refine Or.inr (fun hc => ?_)
      obtain ⟨x, rfl⟩ := cv_cat hc
      subst hj1
      simp only [nlL, hj] at hl
      cases hl
    · exact Or.inl hj1
theorem LA.put2 {al : AM} {la' : Array Slot} {n i : Nat} {ls : List (Option AV)} {x : Int64} (hl : nlL ls i = true) (h : lv_has la' n ((i, Value.long x) :: (ascA al ls).filter (fun q => !(q.1 == i) && (!(q.1 == i + 1) && !(q.1 + 1 == i && q.2.category == 2))))) : LA al la' n ((ls.set i (some (aL x))).set (i + 1) none) := by
  refine ⟨h.1, h.2.1, fun j a hj => ?_⟩
  by_cases hj2 : j = i + 1
  · subst hj2
    have hlt := (List.getElem?_eq_some_iff.mp hj).1
    rw [List.length_set] at hlt
    rw [List.getElem?_set_self hlt] at hj
    cases hj
  · rw [List.getElem?_set_ne (Ne.symm hj2)] at hj
    by_cases hji : j = i
    · subst hji
      have hlt := (List.getElem?_eq_some_iff.mp hj).1
      rw [List.length_set] at hlt
      rw [List.getElem?_set_self hlt] at hj
      cases hj
      exact h.2.2 (j, .long x) List.mem_cons_self
    · rw [List.getElem?_set_ne (Ne.symm hji)] at hj
      refine h.2.2 (j, cv al a) (List.mem_cons_of_mem _ (List.mem_filter.mpr ⟨ascA_mem.mpr ⟨a, hj, rfl⟩, ?_⟩))
      simp only [Bool.and_eq_true, Bool.not_eq_true', beq_eq_false_iff_ne, ne_eq, Bool.and_eq_false_iff]
      refine ⟨hji, hj2, ?_⟩
      by_cases hj1 : j + 1 = i
      · refine Or.inr (fun hc => ?_)
        obtain ⟨x, rfl⟩ := cv_cat hc
        subst hj1
        simp only [nlL, hj] at hl
        cases hl
      · exact Or.inl hj1

section AWR
variable {d : Nat} {X : XS} {M : MD} {pc pc' : Nat} {ls : List (Option AV)} {st : List AV} {w : Wd} {Q : Option AV → Wd → Prop}
theorem aw_iconst {n : Int} {v : Int32} (h : decode M.2.1 pc = .ok (.iconst n, 1) ∧ pc + 1 = pc') (hv : Int32.ofInt n = v) (K : AW d X M pc' ls (aI v :: st) w Q) : AW d X M pc ls (st) w Q := by
  intro al D cI cZ cS lo p l e R s m args below meth c H locs cells slots la Z hC hE hce hsl hP hS hl hZ
  obtain ⟨hx, hb, hml, hown, hts, hlk, hrt, hdf, hdl⟩ := id hC
  obtain ⟨hd, rfl⟩ := h
  exact lv_iconst hx hb hd hv (K al D cI cZ cS lo p l e R s m args below meth c H locs cells slots la Z hC hE hce hsl hP hS hl hZ)
theorem aw_bipush {n : Int} {v : Int32} (h : decode M.2.1 pc = .ok (.bipush n, 2) ∧ pc + 2 = pc') (hv : (Int8.ofInt n).toInt32 = v) (K : AW d X M pc' ls (aI v :: st) w Q) : AW d X M pc ls (st) w Q := by
  intro al D cI cZ cS lo p l e R s m args below meth c H locs cells slots la Z hC hE hce hsl hP hS hl hZ
  obtain ⟨hx, hb, hml, hown, hts, hlk, hrt, hdf, hdl⟩ := id hC
  obtain ⟨hd, rfl⟩ := h
  exact lv_bipush hx hb hd hv (K al D cI cZ cS lo p l e R s m args below meth c H locs cells slots la Z hC hE hce hsl hP hS hl hZ)
theorem aw_sipush {n : Int} {v : Int32} (h : decode M.2.1 pc = .ok (.sipush n, 3) ∧ pc + 3 = pc') (hv : (Int16.ofInt n).toInt32 = v) (K : AW d X M pc' ls (aI v :: st) w Q) : AW d X M pc ls (st) w Q := by
  intro al D cI cZ cS lo p l e R s m args below meth c H locs cells slots la Z hC hE hce hsl hP hS hl hZ
  obtain ⟨hx, hb, hml, hown, hts, hlk, hrt, hdf, hdl⟩ := id hC
  obtain ⟨hd, rfl⟩ := h
  exact lv_sipush hx hb hd hv (K al D cI cZ cS lo p l e R s m args below meth c H locs cells slots la Z hC hE hce hsl hP hS hl hZ)
theorem aw_lconst {n : Fin 2} {v : Int64} (h : decode M.2.1 pc = .ok (.lconst n, 1) ∧ pc + 1 = pc') (hv : Int64.ofNat (n : Nat) = v) (K : AW d X M pc' ls (aL v :: st) w Q) : AW d X M pc ls (st) w Q := by
  intro al D cI cZ cS lo p l e R s m args below meth c H locs cells slots la Z hC hE hce hsl hP hS hl hZ
  obtain ⟨hx, hb, hml, hown, hts, hlk, hrt, hdf, hdl⟩ := id hC
  obtain ⟨hd, rfl⟩ := h
  exact lv_lconst hx hb hd hv (K al D cI cZ cS lo p l e R s m args below meth c H locs cells slots la Z hC hE hce hsl hP hS hl hZ)
theorem aw_null  (h : decode M.2.1 pc = .ok (.aconst_null, 1) ∧ pc + 1 = pc') (K : AW d X M pc' ls (aN :: st) w Q) : AW d X M pc ls (st) w Q := by
  intro al D cI cZ cS lo p l e R s m args below meth c H locs cells slots la Z hC hE hce hsl hP hS hl hZ
  obtain ⟨hx, hb, hml, hown, hts, hlk, hrt, hdf, hdl⟩ := id hC
  obtain ⟨hd, rfl⟩ := h
  exact lv_null hx hb hd  (K al D cI cZ cS lo p l e R s m args below meth c H locs cells slots la Z hC hE hce hsl hP hS hl hZ)
theorem aw_iload_n {k : Fin 4} {x : Int32} (h : decode M.2.1 pc = .ok (.iload_n k, 1) ∧ pc + 1 = pc') (hl0 : ls[(k : Nat)]? = some (some (aI x))) (K : AW d X M pc' ls (aI x :: st) w Q) : AW d X M pc ls (st) w Q := by
  intro al D cI cZ cS lo p l e R s m args below meth c H locs cells slots la Z hC hE hce hsl hP hS hl hZ
  obtain ⟨hx, hb, hml, hown, hts, hlk, hrt, hdf, hdl⟩ := id hC
  obtain ⟨hd, rfl⟩ := h
  exact lv_iload_n hx hb hd rfl (hl.at hl0) (K al D cI cZ cS lo p l e R s m args below meth c H locs cells slots la Z hC hE hce hsl hP hS hl hZ)
theorem aw_iload {i : Nat} {x : Int32} (h : decode M.2.1 pc = .ok (.iload i, 2) ∧ pc + 2 = pc') (hl0 : ls[i]? = some (some (aI x))) (K : AW d X M pc' ls (aI x :: st) w Q) : AW d X M pc ls (st) w Q := by
  intro al D cI cZ cS lo p l e R s m args below meth c H locs cells slots la Z hC hE hce hsl hP hS hl hZ
  obtain ⟨hx, hb, hml, hown, hts, hlk, hrt, hdf, hdl⟩ := id hC
  obtain ⟨hd, rfl⟩ := h
  exact lv_iload hx hb hd (hl.at hl0) (K al D cI cZ cS lo p l e R s m args below meth c H locs cells slots la Z hC hE hce hsl hP hS hl hZ)
theorem aw_lload_n {k : Fin 4} {x : Int64} (h : decode M.2.1 pc = .ok (.lload_n k, 1) ∧ pc + 1 = pc') (hl0 : ls[(k : Nat)]? = some (some (aL x))) (K : AW d X M pc' ls (aL x :: st) w Q) : AW d X M pc ls (st) w Q := by
  intro al D cI cZ cS lo p l e R s m args below meth c H locs cells slots la Z hC hE hce hsl hP hS hl hZ
  obtain ⟨hx, hb, hml, hown, hts, hlk, hrt, hdf, hdl⟩ := id hC
  obtain ⟨hd, rfl⟩ := h
  exact lv_lload_n hx hb hd rfl (hl.at hl0) (K al D cI cZ cS lo p l e R s m args below meth c H locs cells slots la Z hC hE hce hsl hP hS hl hZ)
theorem aw_lload {i : Nat} {x : Int64} (h : decode M.2.1 pc = .ok (.lload i, 2) ∧ pc + 2 = pc') (hl0 : ls[i]? = some (some (aL x))) (K : AW d X M pc' ls (aL x :: st) w Q) : AW d X M pc ls (st) w Q := by
  intro al D cI cZ cS lo p l e R s m args below meth c H locs cells slots la Z hC hE hce hsl hP hS hl hZ
  obtain ⟨hx, hb, hml, hown, hts, hlk, hrt, hdf, hdl⟩ := id hC
  obtain ⟨hd, rfl⟩ := h
  exact lv_lload hx hb hd (hl.at hl0) (K al D cI cZ cS lo p l e R s m args below meth c H locs cells slots la Z hC hE hce hsl hP hS hl hZ)
theorem aw_aload_n {k : Fin 4} {a b : Nat} (h : decode M.2.1 pc = .ok (.aload_n k, 1) ∧ pc + 1 = pc') (hl0 : ls[(k : Nat)]? = some (some (aR a b))) (K : AW d X M pc' ls (aR a b :: st) w Q) : AW d X M pc ls (st) w Q := by
  intro al D cI cZ cS lo p l e R s m args below meth c H locs cells slots la Z hC hE hce hsl hP hS hl hZ
  obtain ⟨hx, hb, hml, hown, hts, hlk, hrt, hdf, hdl⟩ := id hC
  obtain ⟨hd, rfl⟩ := h
  exact lv_aload_n hx hb hd rfl (hl.at hl0) (K al D cI cZ cS lo p l e R s m args below meth c H locs cells slots la Z hC hE hce hsl hP hS hl hZ)
theorem aw_istore_n {k : Fin 4} {x : Int32} (h : decode M.2.1 pc = .ok (.istore_n k, 1) ∧ pc + 1 = pc') (hn : (k : Nat) < M.2.2.1) (hnl : nlL ls (k : Nat) = true) (K : AW d X M pc' (ls.set (k : Nat) (some (aI x))) st w Q) : AW d X M pc ls (aI x :: st) w Q := by
  intro al D cI cZ cS lo p l e R s m args below meth c H locs cells slots la Z hC hE hce hsl hP hS hl hZ
  obtain ⟨hx, hb, hml, hown, hts, hlk, hrt, hdf, hdl⟩ := id hC
  obtain ⟨hd, rfl⟩ := h
  exact lv_istore_n hx hb hd rfl hl.has hn rfl (fun la' hl' => K al D cI cZ cS lo p l e R s m args below meth c H locs cells slots la' Z hC hE hce hsl hP hS (LA.put hnl hl') hZ)
theorem aw_istore {i : Nat} {x : Int32} (h : decode M.2.1 pc = .ok (.istore i, 2) ∧ pc + 2 = pc') (hn : i < M.2.2.1) (hnl : nlL ls i = true) (K : AW d X M pc' (ls.set i (some (aI x))) st w Q) : AW d X M pc ls (aI x :: st) w Q := by
  intro al D cI cZ cS lo p l e R s m args below meth c H locs cells slots la Z hC hE hce hsl hP hS hl hZ
  obtain ⟨hx, hb, hml, hown, hts, hlk, hrt, hdf, hdl⟩ := id hC
  obtain ⟨hd, rfl⟩ := h
  exact lv_istore hx hb hd hl.has hn rfl (fun la' hl' => K al D cI cZ cS lo p l e R s m args below meth c H locs cells slots la' Z hC hE hce hsl hP hS (LA.put hnl hl') hZ)
theorem aw_lstore_n {k : Fin 4} {x : Int64} (h : decode M.2.1 pc = .ok (.lstore_n k, 1) ∧ pc + 1 = pc') (hn : (k : Nat) + 1 < M.2.2.1) (hnl : nlL ls (k : Nat) = true) (K : AW d X M pc' ((ls.set (k : Nat) (some (aL x))).set ((k : Nat) + 1) none) st w Q) : AW d X M pc ls (aL x :: st) w Q := by
  intro al D cI cZ cS lo p l e R s m args below meth c H locs cells slots la Z hC hE hce hsl hP hS hl hZ
  obtain ⟨hx, hb, hml, hown, hts, hlk, hrt, hdf, hdl⟩ := id hC
  obtain ⟨hd, rfl⟩ := h
  exact lv_lstore_n hx hb hd rfl hl.has hn rfl (fun la' hl' => K al D cI cZ cS lo p l e R s m args below meth c H locs cells slots la' Z hC hE hce hsl hP hS (LA.put2 hnl hl') hZ)
theorem aw_astore_n {k : Fin 4} {a b : Nat} (h : decode M.2.1 pc = .ok (.astore_n k, 1) ∧ pc + 1 = pc') (hn : (k : Nat) < M.2.2.1) (hnl : nlL ls (k : Nat) = true) (K : AW d X M pc' (ls.set (k : Nat) (some (aR a b))) st w Q) : AW d X M pc ls (aR a b :: st) w Q := by
  intro al D cI cZ cS lo p l e R s m args below meth c H locs cells slots la Z hC hE hce hsl hP hS hl hZ
  obtain ⟨hx, hb, hml, hown, hts, hlk, hrt, hdf, hdl⟩ := id hC
  obtain ⟨hd, rfl⟩ := h
  exact lv_astore_n hx hb hd rfl hl.has hn rfl (fun la' hl' => K al D cI cZ cS lo p l e R s m args below meth c H locs cells slots la' Z hC hE hce hsl hP hS (LA.put hnl hl') hZ)
theorem aw_iinc {i : Nat} {n : Int} {x v : Int32} (h : decode M.2.1 pc = .ok (.iinc i n, 3) ∧ pc + 3 = pc') (hl0 : ls[i]? = some (some (aI x))) (hv : x + Int32.ofInt n = v) (hn : i < M.2.2.1) (hnl : nlL ls i = true) (K : AW d X M pc' (ls.set i (some (aI v))) st w Q) : AW d X M pc ls st w Q := by
  intro al D cI cZ cS lo p l e R s m args below meth c H locs cells slots la Z hC hE hce hsl hP hS hl hZ
  obtain ⟨hx, hb, hml, hown, hts, hlk, hrt, hdf, hdl⟩ := id hC
  obtain ⟨hd, rfl⟩ := h
  have hmem : (i, Value.int x) ∈ ascA al ls := ascA_mem.mpr ⟨aI x, hl0, rfl⟩
  obtain ⟨k, hk⟩ := List.getElem?_of_mem hmem
  exact lv_iinc hx hb hd hl.has hk hv hn rfl (fun la' hl' => K al D cI cZ cS lo p l e R s m args below meth c H locs cells slots la' Z hC hE hce hsl hP hS (LA.put hnl hl') hZ)
theorem aw_iadd {x y : Int32} (h : decode M.2.1 pc = .ok (.iadd, 1) ∧ pc + 1 = pc') (K : AW d X M pc' ls (aI (x + y) :: st) w Q) : AW d X M pc ls (aI y :: aI x :: st) w Q := by
  intro al D cI cZ cS lo p l e R s m args below meth c H locs cells slots la Z hC hE hce hsl hP hS hl hZ
  obtain ⟨hx, hb, hml, hown, hts, hlk, hrt, hdf, hdl⟩ := id hC
  obtain ⟨hd, rfl⟩ := h
  exact lv_iadd hx hb hd  (K al D cI cZ cS lo p l e R s m args below meth c H locs cells slots la Z hC hE hce hsl hP hS hl hZ)
theorem aw_isub {x y : Int32} (h : decode M.2.1 pc = .ok (.isub, 1) ∧ pc + 1 = pc') (K : AW d X M pc' ls (aI (x - y) :: st) w Q) : AW d X M pc ls (aI y :: aI x :: st) w Q := by
  intro al D cI cZ cS lo p l e R s m args below meth c H locs cells slots la Z hC hE hce hsl hP hS hl hZ
  obtain ⟨hx, hb, hml, hown, hts, hlk, hrt, hdf, hdl⟩ := id hC
  obtain ⟨hd, rfl⟩ := h
  exact lv_isub hx hb hd  (K al D cI cZ cS lo p l e R s m args below meth c H locs cells slots la Z hC hE hce hsl hP hS hl hZ)
theorem aw_imul {x y : Int32} (h : decode M.2.1 pc = .ok (.imul, 1) ∧ pc + 1 = pc') (K : AW d X M pc' ls (aI (x * y) :: st) w Q) : AW d X M pc ls (aI y :: aI x :: st) w Q := by
  intro al D cI cZ cS lo p l e R s m args below meth c H locs cells slots la Z hC hE hce hsl hP hS hl hZ
  obtain ⟨hx, hb, hml, hown, hts, hlk, hrt, hdf, hdl⟩ := id hC
  obtain ⟨hd, rfl⟩ := h
  exact lv_imul hx hb hd  (K al D cI cZ cS lo p l e R s m args below meth c H locs cells slots la Z hC hE hce hsl hP hS hl hZ)
theorem aw_iand {x y : Int32} (h : decode M.2.1 pc = .ok (.iand, 1) ∧ pc + 1 = pc') (K : AW d X M pc' ls (aI (x &&& y) :: st) w Q) : AW d X M pc ls (aI y :: aI x :: st) w Q := by
  intro al D cI cZ cS lo p l e R s m args below meth c H locs cells slots la Z hC hE hce hsl hP hS hl hZ
  obtain ⟨hx, hb, hml, hown, hts, hlk, hrt, hdf, hdl⟩ := id hC
  obtain ⟨hd, rfl⟩ := h
  exact lv_iand hx hb hd  (K al D cI cZ cS lo p l e R s m args below meth c H locs cells slots la Z hC hE hce hsl hP hS hl hZ)
theorem aw_ior {x y : Int32} (h : decode M.2.1 pc = .ok (.ior, 1) ∧ pc + 1 = pc') (K : AW d X M pc' ls (aI (x ||| y) :: st) w Q) : AW d X M pc ls (aI y :: aI x :: st) w Q := by
  intro al D cI cZ cS lo p l e R s m args below meth c H locs cells slots la Z hC hE hce hsl hP hS hl hZ
  obtain ⟨hx, hb, hml, hown, hts, hlk, hrt, hdf, hdl⟩ := id hC
  obtain ⟨hd, rfl⟩ := h
  exact lv_ior hx hb hd  (K al D cI cZ cS lo p l e R s m args below meth c H locs cells slots la Z hC hE hce hsl hP hS hl hZ)
theorem aw_ixor {x y : Int32} (h : decode M.2.1 pc = .ok (.ixor, 1) ∧ pc + 1 = pc') (K : AW d X M pc' ls (aI (x ^^^ y) :: st) w Q) : AW d X M pc ls (aI y :: aI x :: st) w Q := by
  intro al D cI cZ cS lo p l e R s m args below meth c H locs cells slots la Z hC hE hce hsl hP hS hl hZ
  obtain ⟨hx, hb, hml, hown, hts, hlk, hrt, hdf, hdl⟩ := id hC
  obtain ⟨hd, rfl⟩ := h
  exact lv_ixor hx hb hd  (K al D cI cZ cS lo p l e R s m args below meth c H locs cells slots la Z hC hE hce hsl hP hS hl hZ)
theorem aw_ishl {x y : Int32} (h : decode M.2.1 pc = .ok (.ishl, 1) ∧ pc + 1 = pc') (K : AW d X M pc' ls (aI (x <<< (y &&& 31)) :: st) w Q) : AW d X M pc ls (aI y :: aI x :: st) w Q := by
  intro al D cI cZ cS lo p l e R s m args below meth c H locs cells slots la Z hC hE hce hsl hP hS hl hZ
  obtain ⟨hx, hb, hml, hown, hts, hlk, hrt, hdf, hdl⟩ := id hC
  obtain ⟨hd, rfl⟩ := h
  exact lv_ishl hx hb hd  (K al D cI cZ cS lo p l e R s m args below meth c H locs cells slots la Z hC hE hce hsl hP hS hl hZ)
theorem aw_ishr {x y : Int32} (h : decode M.2.1 pc = .ok (.ishr, 1) ∧ pc + 1 = pc') (K : AW d X M pc' ls (aI (x >>> (y &&& 31)) :: st) w Q) : AW d X M pc ls (aI y :: aI x :: st) w Q := by
  intro al D cI cZ cS lo p l e R s m args below meth c H locs cells slots la Z hC hE hce hsl hP hS hl hZ
  obtain ⟨hx, hb, hml, hown, hts, hlk, hrt, hdf, hdl⟩ := id hC
  obtain ⟨hd, rfl⟩ := h
  exact lv_ishr hx hb hd  (K al D cI cZ cS lo p l e R s m args below meth c H locs cells slots la Z hC hE hce hsl hP hS hl hZ)
theorem aw_iushr {x y : Int32} (h : decode M.2.1 pc = .ok (.iushr, 1) ∧ pc + 1 = pc') (K : AW d X M pc' ls (aI ((x.toUInt32 >>> (y.toUInt32 &&& Int32.toUInt32 31)).toInt32) :: st) w Q) : AW d X M pc ls (aI y :: aI x :: st) w Q := by
  intro al D cI cZ cS lo p l e R s m args below meth c H locs cells slots la Z hC hE hce hsl hP hS hl hZ
  obtain ⟨hx, hb, hml, hown, hts, hlk, hrt, hdf, hdl⟩ := id hC
  obtain ⟨hd, rfl⟩ := h
  exact lv_iushr hx hb hd rfl (K al D cI cZ cS lo p l e R s m args below meth c H locs cells slots la Z hC hE hce hsl hP hS hl hZ)
theorem aw_idiv {x y : Int32} (h : decode M.2.1 pc = .ok (.idiv, 1) ∧ pc + 1 = pc') (hy : ¬ y = 0) (K : AW d X M pc' ls (aI (x / y) :: st) w Q) : AW d X M pc ls (aI y :: aI x :: st) w Q := by
  intro al D cI cZ cS lo p l e R s m args below meth c H locs cells slots la Z hC hE hce hsl hP hS hl hZ
  obtain ⟨hx, hb, hml, hown, hts, hlk, hrt, hdf, hdl⟩ := id hC
  obtain ⟨hd, rfl⟩ := h
  exact lv_idiv hx hb hd hy (K al D cI cZ cS lo p l e R s m args below meth c H locs cells slots la Z hC hE hce hsl hP hS hl hZ)
theorem aw_irem {x y : Int32} (h : decode M.2.1 pc = .ok (.irem, 1) ∧ pc + 1 = pc') (hy : ¬ y = 0) (K : AW d X M pc' ls (aI (x - x / y * y) :: st) w Q) : AW d X M pc ls (aI y :: aI x :: st) w Q := by
  intro al D cI cZ cS lo p l e R s m args below meth c H locs cells slots la Z hC hE hce hsl hP hS hl hZ
  obtain ⟨hx, hb, hml, hown, hts, hlk, hrt, hdf, hdl⟩ := id hC
  obtain ⟨hd, rfl⟩ := h
  exact lv_irem hx hb hd hy (K al D cI cZ cS lo p l e R s m args below meth c H locs cells slots la Z hC hE hce hsl hP hS hl hZ)
theorem aw_ineg {x : Int32} (h : decode M.2.1 pc = .ok (.ineg, 1) ∧ pc + 1 = pc') (K : AW d X M pc' ls (aI (-x) :: st) w Q) : AW d X M pc ls (aI x :: st) w Q := by
  intro al D cI cZ cS lo p l e R s m args below meth c H locs cells slots la Z hC hE hce hsl hP hS hl hZ
  obtain ⟨hx, hb, hml, hown, hts, hlk, hrt, hdf, hdl⟩ := id hC
  obtain ⟨hd, rfl⟩ := h
  exact lv_ineg hx hb hd  (K al D cI cZ cS lo p l e R s m args below meth c H locs cells slots la Z hC hE hce hsl hP hS hl hZ)
theorem aw_ladd {x y : Int64} (h : decode M.2.1 pc = .ok (.ladd, 1) ∧ pc + 1 = pc') (K : AW d X M pc' ls (aL (x + y) :: st) w Q) : AW d X M pc ls (aL y :: aL x :: st) w Q := by
  intro al D cI cZ cS lo p l e R s m args below meth c H locs cells slots la Z hC hE hce hsl hP hS hl hZ
  obtain ⟨hx, hb, hml, hown, hts, hlk, hrt, hdf, hdl⟩ := id hC
  obtain ⟨hd, rfl⟩ := h
  exact lv_ladd hx hb hd  (K al D cI cZ cS lo p l e R s m args below meth c H locs cells slots la Z hC hE hce hsl hP hS hl hZ)
theorem aw_lmul {x y : Int64} (h : decode M.2.1 pc = .ok (.lmul, 1) ∧ pc + 1 = pc') (K : AW d X M pc' ls (aL (x * y) :: st) w Q) : AW d X M pc ls (aL y :: aL x :: st) w Q := by
  intro al D cI cZ cS lo p l e R s m args below meth c H locs cells slots la Z hC hE hce hsl hP hS hl hZ
  obtain ⟨hx, hb, hml, hown, hts, hlk, hrt, hdf, hdl⟩ := id hC
  obtain ⟨hd, rfl⟩ := h
  exact lv_lmul hx hb hd  (K al D cI cZ cS lo p l e R s m args below meth c H locs cells slots la Z hC hE hce hsl hP hS hl hZ)
theorem aw_land {x y : Int64} (h : decode M.2.1 pc = .ok (.land, 1) ∧ pc + 1 = pc') (K : AW d X M pc' ls (aL (x &&& y) :: st) w Q) : AW d X M pc ls (aL y :: aL x :: st) w Q := by
  intro al D cI cZ cS lo p l e R s m args below meth c H locs cells slots la Z hC hE hce hsl hP hS hl hZ
  obtain ⟨hx, hb, hml, hown, hts, hlk, hrt, hdf, hdl⟩ := id hC
  obtain ⟨hd, rfl⟩ := h
  exact lv_land hx hb hd  (K al D cI cZ cS lo p l e R s m args below meth c H locs cells slots la Z hC hE hce hsl hP hS hl hZ)
theorem aw_lor {x y : Int64} (h : decode M.2.1 pc = .ok (.lor, 1) ∧ pc + 1 = pc') (K : AW d X M pc' ls (aL (x ||| y) :: st) w Q) : AW d X M pc ls (aL y :: aL x :: st) w Q := by
  intro al D cI cZ cS lo p l e R s m args below meth c H locs cells slots la Z hC hE hce hsl hP hS hl hZ
  obtain ⟨hx, hb, hml, hown, hts, hlk, hrt, hdf, hdl⟩ := id hC
  obtain ⟨hd, rfl⟩ := h
  exact lv_lor hx hb hd  (K al D cI cZ cS lo p l e R s m args below meth c H locs cells slots la Z hC hE hce hsl hP hS hl hZ)
theorem aw_lrem {x y : Int64} (h : decode M.2.1 pc = .ok (.lrem, 1) ∧ pc + 1 = pc') (hy : ¬ y = 0) (K : AW d X M pc' ls (aL (x - x / y * y) :: st) w Q) : AW d X M pc ls (aL y :: aL x :: st) w Q := by
  intro al D cI cZ cS lo p l e R s m args below meth c H locs cells slots la Z hC hE hce hsl hP hS hl hZ
  obtain ⟨hx, hb, hml, hown, hts, hlk, hrt, hdf, hdl⟩ := id hC
  obtain ⟨hd, rfl⟩ := h
  exact lv_lrem hx hb hd hy (K al D cI cZ cS lo p l e R s m args below meth c H locs cells slots la Z hC hE hce hsl hP hS hl hZ)
theorem aw_lshl {x : Int64} {y : Int32} (h : decode M.2.1 pc = .ok (.lshl, 1) ∧ pc + 1 = pc') (K : AW d X M pc' ls (aL (x <<< (y.toInt64 &&& 63)) :: st) w Q) : AW d X M pc ls (aI y :: aL x :: st) w Q := by
  intro al D cI cZ cS lo p l e R s m args below meth c H locs cells slots la Z hC hE hce hsl hP hS hl hZ
  obtain ⟨hx, hb, hml, hown, hts, hlk, hrt, hdf, hdl⟩ := id hC
  obtain ⟨hd, rfl⟩ := h
  exact lv_lshl hx hb hd rfl (K al D cI cZ cS lo p l e R s m args below meth c H locs cells slots la Z hC hE hce hsl hP hS hl hZ)
theorem aw_lushr {x : Int64} {y : Int32} (h : decode M.2.1 pc = .ok (.lushr, 1) ∧ pc + 1 = pc') (K : AW d X M pc' ls (aL ((x.toUInt64 >>> (y.toInt64.toUInt64 &&& Int64.toUInt64 63)).toInt64) :: st) w Q) : AW d X M pc ls (aI y :: aL x :: st) w Q := by
  intro al D cI cZ cS lo p l e R s m args below meth c H locs cells slots la Z hC hE hce hsl hP hS hl hZ
  obtain ⟨hx, hb, hml, hown, hts, hlk, hrt, hdf, hdl⟩ := id hC
  obtain ⟨hd, rfl⟩ := h
  exact lv_lushr hx hb hd rfl (K al D cI cZ cS lo p l e R s m args below meth c H locs cells slots la Z hC hE hce hsl hP hS hl hZ)
theorem aw_i2l {x : Int32} (h : decode M.2.1 pc = .ok (.i2l, 1) ∧ pc + 1 = pc') (K : AW d X M pc' ls (aL x.toInt64 :: st) w Q) : AW d X M pc ls (aI x :: st) w Q := by
  intro al D cI cZ cS lo p l e R s m args below meth c H locs cells slots la Z hC hE hce hsl hP hS hl hZ
  obtain ⟨hx, hb, hml, hown, hts, hlk, hrt, hdf, hdl⟩ := id hC
  obtain ⟨hd, rfl⟩ := h
  exact lv_i2l hx hb hd rfl (K al D cI cZ cS lo p l e R s m args below meth c H locs cells slots la Z hC hE hce hsl hP hS hl hZ)
theorem aw_l2i {x : Int64} (h : decode M.2.1 pc = .ok (.l2i, 1) ∧ pc + 1 = pc') (K : AW d X M pc' ls (aI x.toInt32 :: st) w Q) : AW d X M pc ls (aL x :: st) w Q := by
  intro al D cI cZ cS lo p l e R s m args below meth c H locs cells slots la Z hC hE hce hsl hP hS hl hZ
  obtain ⟨hx, hb, hml, hown, hts, hlk, hrt, hdf, hdl⟩ := id hC
  obtain ⟨hd, rfl⟩ := h
  exact lv_l2i hx hb hd rfl (K al D cI cZ cS lo p l e R s m args below meth c H locs cells slots la Z hC hE hce hsl hP hS hl hZ)
theorem aw_lcmp {x y : Int64} (h : decode M.2.1 pc = .ok (.lcmp, 1) ∧ pc + 1 = pc') (K : AW d X M pc' ls (aI (lg_cmp x y) :: st) w Q) : AW d X M pc ls (aL y :: aL x :: st) w Q := by
  intro al D cI cZ cS lo p l e R s m args below meth c H locs cells slots la Z hC hE hce hsl hP hS hl hZ
  obtain ⟨hx, hb, hml, hown, hts, hlk, hrt, hdf, hdl⟩ := id hC
  obtain ⟨hd, rfl⟩ := h
  exact W.lcmp hx hb hd  (K al D cI cZ cS lo p l e R s m args below meth c H locs cells slots la Z hC hE hce hsl hP hS hl hZ)
theorem aw_dupI {x : Int32} (h : decode M.2.1 pc = .ok (.dup, 1) ∧ pc + 1 = pc') (K : AW d X M pc' ls (aI x :: aI x :: st) w Q) : AW d X M pc ls (aI x :: st) w Q := by
  intro al D cI cZ cS lo p l e R s m args below meth c H locs cells slots la Z hC hE hce hsl hP hS hl hZ
  obtain ⟨hx, hb, hml, hown, hts, hlk, hrt, hdf, hdl⟩ := id hC
  obtain ⟨hd, rfl⟩ := h
  exact lv_dup hx hb hd rfl (K al D cI cZ cS lo p l e R s m args below meth c H locs cells slots la Z hC hE hce hsl hP hS hl hZ)
theorem aw_dupR {a b : Nat} (h : decode M.2.1 pc = .ok (.dup, 1) ∧ pc + 1 = pc') (K : AW d X M pc' ls (aR a b :: aR a b :: st) w Q) : AW d X M pc ls (aR a b :: st) w Q := by
  intro al D cI cZ cS lo p l e R s m args below meth c H locs cells slots la Z hC hE hce hsl hP hS hl hZ
  obtain ⟨hx, hb, hml, hown, hts, hlk, hrt, hdf, hdl⟩ := id hC
  obtain ⟨hd, rfl⟩ := h
  exact lv_dup hx hb hd rfl (K al D cI cZ cS lo p l e R s m args below meth c H locs cells slots la Z hC hE hce hsl hP hS hl hZ)
theorem aw_dup2 {x : Int32} {a b : Nat} (h : decode M.2.1 pc = .ok (.dup2, 1) ∧ pc + 1 = pc') (K : AW d X M pc' ls (aI x :: aR a b :: aI x :: aR a b :: st) w Q) : AW d X M pc ls (aI x :: aR a b :: st) w Q := by
  intro al D cI cZ cS lo p l e R s m args below meth c H locs cells slots la Z hC hE hce hsl hP hS hl hZ
  obtain ⟨hx, hb, hml, hown, hts, hlk, hrt, hdf, hdl⟩ := id hC
  obtain ⟨hd, rfl⟩ := h
  exact lv_dup2_11 hx hb hd rfl rfl (K al D cI cZ cS lo p l e R s m args below meth c H locs cells slots la Z hC hE hce hsl hP hS hl hZ)
theorem aw_popI {x : Int32} (h : decode M.2.1 pc = .ok (.pop, 1) ∧ pc + 1 = pc') (K : AW d X M pc' ls (st) w Q) : AW d X M pc ls (aI x :: st) w Q := by
  intro al D cI cZ cS lo p l e R s m args below meth c H locs cells slots la Z hC hE hce hsl hP hS hl hZ
  obtain ⟨hx, hb, hml, hown, hts, hlk, hrt, hdf, hdl⟩ := id hC
  obtain ⟨hd, rfl⟩ := h
  exact lv_pop hx hb hd rfl (K al D cI cZ cS lo p l e R s m args below meth c H locs cells slots la Z hC hE hce hsl hP hS hl hZ)
theorem aw_icmp_eq {x y : Int32} {off : Int} {tgt : Nat} (h : decode M.2.1 pc = .ok (.if_icmp .eq off, 3) ∧ (pc : Int) + off = (tgt : Int) ∧ pc + 3 = pc') (K1 : (x = y) → AW d X M tgt ls st w Q) (K2 : ¬ (x = y) → AW d X M pc' ls st w Q) : AW d X M pc ls (aI y :: aI x :: st) w Q := by
  intro al D cI cZ cS lo p l e R s m args below meth c H locs cells slots la Z hC hE hce hsl hP hS hl hZ
  obtain ⟨hx, hb, hml, hown, hts, hlk, hrt, hdf, hdl⟩ := id hC
  obtain ⟨hd, ht, rfl⟩ := h
  exact lv_icmp_eq hx hb hd ht (fun hc => K1 hc al D cI cZ cS lo p l e R s m args below meth c H locs cells slots la Z hC hE hce hsl hP hS hl hZ) (fun hc => K2 hc al D cI cZ cS lo p l e R s m args below meth c H locs cells slots la Z hC hE hce hsl hP hS hl hZ)
theorem aw_icmp_ne {x y : Int32} {off : Int} {tgt : Nat} (h : decode M.2.1 pc = .ok (.if_icmp .ne off, 3) ∧ (pc : Int) + off = (tgt : Int) ∧ pc + 3 = pc') (K1 : ¬ (x = y) → AW d X M tgt ls st w Q) (K2 : (x = y) → AW d X M pc' ls st w Q) : AW d X M pc ls (aI y :: aI x :: st) w Q := by
  intro al D cI cZ cS lo p l e R s m args below meth c H locs cells slots la Z hC hE hce hsl hP hS hl hZ
  obtain ⟨hx, hb, hml, hown, hts, hlk, hrt, hdf, hdl⟩ := id hC
  obtain ⟨hd, ht, rfl⟩ := h
  exact lv_icmp_ne hx hb hd ht (fun hc => K1 hc al D cI cZ cS lo p l e R s m args below meth c H locs cells slots la Z hC hE hce hsl hP hS hl hZ) (fun hc => K2 hc al D cI cZ cS lo p l e R s m args below meth c H locs cells slots la Z hC hE hce hsl hP hS hl hZ)
theorem aw_icmp_lt {x y : Int32} {off : Int} {tgt : Nat} (h : decode M.2.1 pc = .ok (.if_icmp .lt off, 3) ∧ (pc : Int) + off = (tgt : Int) ∧ pc + 3 = pc') (K1 : (x < y) → AW d X M tgt ls st w Q) (K2 : ¬ (x < y) → AW d X M pc' ls st w Q) : AW d X M pc ls (aI y :: aI x :: st) w Q := by
  intro al D cI cZ cS lo p l e R s m args below meth c H locs cells slots la Z hC hE hce hsl hP hS hl hZ
  obtain ⟨hx, hb, hml, hown, hts, hlk, hrt, hdf, hdl⟩ := id hC
  obtain ⟨hd, ht, rfl⟩ := h
  exact lv_icmp_lt hx hb hd ht (fun hc => K1 hc al D cI cZ cS lo p l e R s m args below meth c H locs cells slots la Z hC hE hce hsl hP hS hl hZ) (fun hc => K2 hc al D cI cZ cS lo p l e R s m args below meth c H locs cells slots la Z hC hE hce hsl hP hS hl hZ)
theorem aw_icmp_ge {x y : Int32} {off : Int} {tgt : Nat} (h : decode M.2.1 pc = .ok (.if_icmp .ge off, 3) ∧ (pc : Int) + off = (tgt : Int) ∧ pc + 3 = pc') (K1 : (y ≤ x) → AW d X M tgt ls st w Q) (K2 : ¬ (y ≤ x) → AW d X M pc' ls st w Q) : AW d X M pc ls (aI y :: aI x :: st) w Q := by
  intro al D cI cZ cS lo p l e R s m args below meth c H locs cells slots la Z hC hE hce hsl hP hS hl hZ
  obtain ⟨hx, hb, hml, hown, hts, hlk, hrt, hdf, hdl⟩ := id hC
  obtain ⟨hd, ht, rfl⟩ := h
  exact lv_icmp_ge hx hb hd ht (fun hc => K1 hc al D cI cZ cS lo p l e R s m args below meth c H locs cells slots la Z hC hE hce hsl hP hS hl hZ) (fun hc => K2 hc al D cI cZ cS lo p l e R s m args below meth c H locs cells slots la Z hC hE hce hsl hP hS hl hZ)
theorem aw_icmp_gt {x y : Int32} {off : Int} {tgt : Nat} (h : decode M.2.1 pc = .ok (.if_icmp .gt off, 3) ∧ (pc : Int) + off = (tgt : Int) ∧ pc + 3 = pc') (K1 : (y < x) → AW d X M tgt ls st w Q) (K2 : ¬ (y < x) → AW d X M pc' ls st w Q) : AW d X M pc ls (aI y :: aI x :: st) w Q := by
  intro al D cI cZ cS lo p l e R s m args below meth c H locs cells slots la Z hC hE hce hsl hP hS hl hZ
  obtain ⟨hx, hb, hml, hown, hts, hlk, hrt, hdf, hdl⟩ := id hC
  obtain ⟨hd, ht, rfl⟩ := h
  exact lv_icmp_gt hx hb hd ht (fun hc => K1 hc al D cI cZ cS lo p l e R s m args below meth c H locs cells slots la Z hC hE hce hsl hP hS hl hZ) (fun hc => K2 hc al D cI cZ cS lo p l e R s m args below meth c H locs cells slots la Z hC hE hce hsl hP hS hl hZ)
theorem aw_icmp_le {x y : Int32} {off : Int} {tgt : Nat} (h : decode M.2.1 pc = .ok (.if_icmp .le off, 3) ∧ (pc : Int) + off = (tgt : Int) ∧ pc + 3 = pc') (K1 : (x ≤ y) → AW d X M tgt ls st w Q) (K2 : ¬ (x ≤ y) → AW d X M pc' ls st w Q) : AW d X M pc ls (aI y :: aI x :: st) w Q := by
  intro al D cI cZ cS lo p l e R s m args below meth c H locs cells slots la Z hC hE hce hsl hP hS hl hZ
  obtain ⟨hx, hb, hml, hown, hts, hlk, hrt, hdf, hdl⟩ := id hC
  obtain ⟨hd, ht, rfl⟩ := h
  exact lv_icmp_le hx hb hd ht (fun hc => K1 hc al D cI cZ cS lo p l e R s m args below meth c H locs cells slots la Z hC hE hce hsl hP hS hl hZ) (fun hc => K2 hc al D cI cZ cS lo p l e R s m args below meth c H locs cells slots la Z hC hE hce hsl hP hS hl hZ)
theorem aw_if_eq {x : Int32} {off : Int} {tgt : Nat} (h : decode M.2.1 pc = .ok (.ifCond .eq off, 3) ∧ (pc : Int) + off = (tgt : Int) ∧ pc + 3 = pc') (K1 : (x = 0) → AW d X M tgt ls st w Q) (K2 : ¬ (x = 0) → AW d X M pc' ls st w Q) : AW d X M pc ls (aI x :: st) w Q := by
  intro al D cI cZ cS lo p l e R s m args below meth c H locs cells slots la Z hC hE hce hsl hP hS hl hZ
  obtain ⟨hx, hb, hml, hown, hts, hlk, hrt, hdf, hdl⟩ := id hC
  obtain ⟨hd, ht, rfl⟩ := h
  exact lv_if_eq hx hb hd ht (fun hc => K1 hc al D cI cZ cS lo p l e R s m args below meth c H locs cells slots la Z hC hE hce hsl hP hS hl hZ) (fun hc => K2 hc al D cI cZ cS lo p l e R s m args below meth c H locs cells slots la Z hC hE hce hsl hP hS hl hZ)
theorem aw_if_ne {x : Int32} {off : Int} {tgt : Nat} (h : decode M.2.1 pc = .ok (.ifCond .ne off, 3) ∧ (pc : Int) + off = (tgt : Int) ∧ pc + 3 = pc') (K1 : ¬ (x = 0) → AW d X M tgt ls st w Q) (K2 : (x = 0) → AW d X M pc' ls st w Q) : AW d X M pc ls (aI x :: st) w Q := by
  intro al D cI cZ cS lo p l e R s m args below meth c H locs cells slots la Z hC hE hce hsl hP hS hl hZ
  obtain ⟨hx, hb, hml, hown, hts, hlk, hrt, hdf, hdl⟩ := id hC
  obtain ⟨hd, ht, rfl⟩ := h
  exact lv_if_ne hx hb hd ht (fun hc => K1 hc al D cI cZ cS lo p l e R s m args below meth c H locs cells slots la Z hC hE hce hsl hP hS hl hZ) (fun hc => K2 hc al D cI cZ cS lo p l e R s m args below meth c H locs cells slots la Z hC hE hce hsl hP hS hl hZ)
theorem aw_if_lt {x : Int32} {off : Int} {tgt : Nat} (h : decode M.2.1 pc = .ok (.ifCond .lt off, 3) ∧ (pc : Int) + off = (tgt : Int) ∧ pc + 3 = pc') (K1 : (x < 0) → AW d X M tgt ls st w Q) (K2 : ¬ (x < 0) → AW d X M pc' ls st w Q) : AW d X M pc ls (aI x :: st) w Q := by
  intro al D cI cZ cS lo p l e R s m args below meth c H locs cells slots la Z hC hE hce hsl hP hS hl hZ
  obtain ⟨hx, hb, hml, hown, hts, hlk, hrt, hdf, hdl⟩ := id hC
  obtain ⟨hd, ht, rfl⟩ := h
  exact lv_if_lt hx hb hd ht (fun hc => K1 hc al D cI cZ cS lo p l e R s m args below meth c H locs cells slots la Z hC hE hce hsl hP hS hl hZ) (fun hc => K2 hc al D cI cZ cS lo p l e R s m args below meth c H locs cells slots la Z hC hE hce hsl hP hS hl hZ)
theorem aw_if_ge {x : Int32} {off : Int} {tgt : Nat} (h : decode M.2.1 pc = .ok (.ifCond .ge off, 3) ∧ (pc : Int) + off = (tgt : Int) ∧ pc + 3 = pc') (K1 : (0 ≤ x) → AW d X M tgt ls st w Q) (K2 : ¬ (0 ≤ x) → AW d X M pc' ls st w Q) : AW d X M pc ls (aI x :: st) w Q := by
  intro al D cI cZ cS lo p l e R s m args below meth c H locs cells slots la Z hC hE hce hsl hP hS hl hZ
  obtain ⟨hx, hb, hml, hown, hts, hlk, hrt, hdf, hdl⟩ := id hC
  obtain ⟨hd, ht, rfl⟩ := h
  exact lv_if_ge hx hb hd ht (fun hc => K1 hc al D cI cZ cS lo p l e R s m args below meth c H locs cells slots la Z hC hE hce hsl hP hS hl hZ) (fun hc => K2 hc al D cI cZ cS lo p l e R s m args below meth c H locs cells slots la Z hC hE hce hsl hP hS hl hZ)
theorem aw_if_gt {x : Int32} {off : Int} {tgt : Nat} (h : decode M.2.1 pc = .ok (.ifCond .gt off, 3) ∧ (pc : Int) + off = (tgt : Int) ∧ pc + 3 = pc') (K1 : (0 < x) → AW d X M tgt ls st w Q) (K2 : ¬ (0 < x) → AW d X M pc' ls st w Q) : AW d X M pc ls (aI x :: st) w Q := by
  intro al D cI cZ cS lo p l e R s m args below meth c H locs cells slots la Z hC hE hce hsl hP hS hl hZ
  obtain ⟨hx, hb, hml, hown, hts, hlk, hrt, hdf, hdl⟩ := id hC
  obtain ⟨hd, ht, rfl⟩ := h
  exact lv_if_gt hx hb hd ht (fun hc => K1 hc al D cI cZ cS lo p l e R s m args below meth c H locs cells slots la Z hC hE hce hsl hP hS hl hZ) (fun hc => K2 hc al D cI cZ cS lo p l e R s m args below meth c H locs cells slots la Z hC hE hce hsl hP hS hl hZ)
theorem aw_if_le {x : Int32} {off : Int} {tgt : Nat} (h : decode M.2.1 pc = .ok (.ifCond .le off, 3) ∧ (pc : Int) + off = (tgt : Int) ∧ pc + 3 = pc') (K1 : (x ≤ 0) → AW d X M tgt ls st w Q) (K2 : ¬ (x ≤ 0) → AW d X M pc' ls st w Q) : AW d X M pc ls (aI x :: st) w Q := by
  intro al D cI cZ cS lo p l e R s m args below meth c H locs cells slots la Z hC hE hce hsl hP hS hl hZ
  obtain ⟨hx, hb, hml, hown, hts, hlk, hrt, hdf, hdl⟩ := id hC
  obtain ⟨hd, ht, rfl⟩ := h
  exact lv_if_le hx hb hd ht (fun hc => K1 hc al D cI cZ cS lo p l e R s m args below meth c H locs cells slots la Z hC hE hce hsl hP hS hl hZ) (fun hc => K2 hc al D cI cZ cS lo p l e R s m args below meth c H locs cells slots la Z hC hE hce hsl hP hS hl hZ)
theorem aw_goto {off : Int} {tgt : Nat} (h : decode M.2.1 pc = .ok (.goto off, 3) ∧ (pc : Int) + off = (tgt : Int)) (K : AW d X M tgt ls st w Q) : AW d X M pc ls st w Q := by
  intro al D cI cZ cS lo p l e R s m args below meth c H locs cells slots la Z hC hE hce hsl hP hS hl hZ
  obtain ⟨hx, hb, hml, hown, hts, hlk, hrt, hdf, hdl⟩ := id hC
  exact lv_goto hx hb h.1 h.2 (K al D cI cZ cS lo p l e R s m args below meth c H locs cells slots la Z hC hE hce hsl hP hS hl hZ)
theorem aw_ifnonnull {off : Int} {tgt a b : Nat} (h : decode M.2.1 pc = .ok (.ifnonnull off, 3) ∧ (pc : Int) + off = (tgt : Int)) (K : AW d X M tgt ls st w Q) : AW d X M pc ls (aR a b :: st) w Q := by
  intro al D cI cZ cS lo p l e R s m args below meth c H locs cells slots la Z hC hE hce hsl hP hS hl hZ
  obtain ⟨hx, hb, hml, hown, hts, hlk, hrt, hdf, hdl⟩ := id hC
  exact lv_ifnonnull hx hb h.1 h.2 (K al D cI cZ cS lo p l e R s m args below meth c H locs cells slots la Z hC hE hce hsl hP hS hl hZ)
theorem aw_ifnull {off : Int} {a b : Nat} (h : decode M.2.1 pc = .ok (.ifnull off, 3) ∧ pc + 3 = pc') (K : AW d X M pc' ls st w Q) : AW d X M pc ls (aR a b :: st) w Q := by
  intro al D cI cZ cS lo p l e R s m args below meth c H locs cells slots la Z hC hE hce hsl hP hS hl hZ
  obtain ⟨hx, hb, hml, hown, hts, hlk, hrt, hdf, hdl⟩ := id hC
  obtain ⟨hd, rfl⟩ := h
  exact lv_ifnull hx hb hd (K al D cI cZ cS lo p l e R s m args below meth c H locs cells slots la Z hC hE hce hsl hP hS hl hZ)
theorem aw_tabIn {dflt lo0 hi0 : Int} {offs : Array Int} {len : Nat} {x : Int32} {off : Int} {tgt : Nat} (h : decode M.2.1 pc = .ok (.tableswitch dflt lo0 hi0 offs, len)) (h1 : ¬ x.toInt < lo0) (h2 : ¬ hi0 < x.toInt) (ho : offs[(x.toInt - lo0).toNat]? = some off) (ht : (pc : Int) + off = (tgt : Int)) (K : AW d X M tgt ls st w Q) : AW d X M pc ls (aI x :: st) w Q := by
  intro al D cI cZ cS lo p l e R s m args below meth c H locs cells slots la Z hC hE hce hsl hP hS hl hZ
  obtain ⟨hx, hb, hml, hown, hts, hlk, hrt, hdf, hdl⟩ := id hC
  exact lv_tableIn hx hb h h1 h2 ho ht (K al D cI cZ cS lo p l e R s m args below meth c H locs cells slots la Z hC hE hce hsl hP hS hl hZ)
theorem aw_tabOut {dflt lo0 hi0 : Int} {offs : Array Int} {len : Nat} {x : Int32} {tgt : Nat} (h : decode M.2.1 pc = .ok (.tableswitch dflt lo0 hi0 offs, len)) (h1 : x.toInt < lo0 ∨ hi0 < x.toInt) (ht : (pc : Int) + dflt = (tgt : Int)) (K : AW d X M tgt ls st w Q) : AW d X M pc ls (aI x :: st) w Q := by
  intro al D cI cZ cS lo p l e R s m args below meth c H locs cells slots la Z hC hE hce hsl hP hS hl hZ
  obtain ⟨hx, hb, hml, hown, hts, hlk, hrt, hdf, hdl⟩ := id hC
  exact lv_tableOut hx hb h h1 ht (K al D cI cZ cS lo p l e R s m args below meth c H locs cells slots la Z hC hE hce hsl hP hS hl hZ)
theorem aw_ldc2 {idx : Nat} {v : Int64} (h : decode M.2.1 pc = .ok (.ldc2_w idx, 3) ∧ pc + 3 = pc') (hw : Cond.constantLong M.1.cls idx v ∈ TT) (K : AW d X M pc' ls (aL v :: st) w Q) : AW d X M pc ls st w Q := by
  intro al D cI cZ cS lo p l e R s m args below meth c H locs cells slots la Z hC hE hce hsl hP hS hl hZ
  obtain ⟨hx, hb, hml, hown, hts, hlk, hrt, hdf, hdl⟩ := id hC
  obtain ⟨hd, rfl⟩ := h
  exact lv_ldc2 hx hb hown (hts _ hw) hd (K al D cI cZ cS lo p l e R s m args below meth c H locs cells slots la Z hC hE hce hsl hP hS hl hZ)
theorem aw_ldcw {idx : Nat} {v : Int32} (h : decode M.2.1 pc = .ok (.ldc_w idx, 3) ∧ pc + 3 = pc') (hw : Cond.constant M.1.cls idx v ∈ TT) (K : AW d X M pc' ls (aI v :: st) w Q) : AW d X M pc ls st w Q := by
  intro al D cI cZ cS lo p l e R s m args below meth c H locs cells slots la Z hC hE hce hsl hP hS hl hZ
  obtain ⟨hx, hb, hml, hown, hts, hlk, hrt, hdf, hdl⟩ := id hC
  obtain ⟨hd, rfl⟩ := h
  exact lv_ldcw hx hb hown (hts _ hw) hd (K al D cI cZ cS lo p l e R s m args below meth c H locs cells slots la Z hC hE hce hsl hP hS hl hZ)
theorem aw_ldc {idx : Nat} {v : Int32} (h : decode M.2.1 pc = .ok (.ldc idx, 2) ∧ pc + 2 = pc') (hw : Cond.constant M.1.cls idx v ∈ TT) (K : AW d X M pc' ls (aI v :: st) w Q) : AW d X M pc ls st w Q := by
  intro al D cI cZ cS lo p l e R s m args below meth c H locs cells slots la Z hC hE hce hsl hP hS hl hZ
  obtain ⟨hx, hb, hml, hown, hts, hlk, hrt, hdf, hdl⟩ := id hC
  obtain ⟨hd, rfl⟩ := h
  exact lv_ldc hx hb hown (hts _ hw) hd (K al D cI cZ cS lo p l e R s m args below meth c H locs cells slots la Z hC hE hce hsl hP hS hl hZ)
theorem aw_getf {k i f idx : Nat} {v : AV} (h : decode M.2.1 pc = .ok (.getfield idx, 3) ∧ pc + 3 = pc') (hw : Cond.fieldLink M.1.cls idx (TK k f).1 (TK k f).2.1 (TK k f).2.2.1 ∈ TT) (hk : k < 7 ∧ f < nFl k) (hi : i < cntK k) (hv : fldA k i f w = v) (K : AW d X M pc' ls (v :: st) w Q) : AW d X M pc ls (aR k i :: st) w Q := by
  intro al D cI cZ cS lo p l e R s m args below meth c H locs cells slots la Z hC hE hce hsl hP hS hl hZ
  obtain ⟨hx, hb, hml, hown, hts, hlk, hrt, hdf, hdl⟩ := id hC
  obtain ⟨hd, rfl⟩ := h
  subst hv
  obtain ⟨p0, hp0⟩ := keys_in hi
  have he := wsA_at (X := X) (al := al) (cI := cI) (cZ := cZ) (cS := cS) (w := w) hp0
  rw [cellA_obj hk.1] at he
  refine va_get hx hb hts (inl_at k hk.1) hown hE.1 hP p0 he (vw_at k hk.1) f hk.2 (hts _ hw) (fun _ h => h) (v := cv al (fldA k i f w)) ?_ hd (K al D cI cZ cS lo p l e R s m args below meth c H locs cells slots la Z hC hE hce hsl hP hS hl hZ)
  rw [List.getElem?_map, List.getElem?_range hk.2]; rfl
theorem aw_putI {k i f idx : Nat} {x : Int32} (h : decode M.2.1 pc = .ok (.putfield idx, 3) ∧ pc + 3 = pc') (hw : Cond.fieldLink M.1.cls idx (TK k f).1 (TK k f).2.1 (TK k f).2.2.1 ∈ TT) (hk : k < 7 ∧ f < nFl k) (hi : i < cntK k) (hr : refK k i f = none ∧ lngK k f = false ∧ (TK k f).2.2.2 = false ∧ tyK k f = .int) (K : AW d X M pc' ls st (wS w k i f x) Q) : AW d X M pc ls (aI x :: aR k i :: st) w Q := by
  intro al D cI cZ cS lo p l e R s m args below meth c H locs cells slots la Z hC hE hce hsl hP hS hl hZ
  obtain ⟨hx, hb, hml, hown, hts, hlk, hrt, hdf, hdl⟩ := id hC
  obtain ⟨hd, rfl⟩ := h
  obtain ⟨p0, hp0⟩ := keys_in hi
  have he := wsA_at (X := X) (al := al) (cI := cI) (cZ := cZ) (cS := cS) (w := w) hp0
  rw [cellA_obj hk.1] at he
  refine va_put hx hb hts (inl_at k hk.1) (tyK k) (ty_at k hk.1) (nm_at k hk.1) hown hE.1 hP (wsA_D hE.2.1) hS p0 he (vw_at k hk.1) f hk.2 (hts _ hw) (fun _ h => h) hr.2.2.1 (v := .int x) (by rw [ty_at k hk.1 f hk.2, hr.2.2.2]) rfl rfl (by rw [List.length_map, List.length_range]; exact hk.2) hd (fun H1 locs1 hP1 _ hS1 => ?_)
  refine K al D cI cZ cS lo p l e R s m args below meth c H1 locs1 cells slots la Z hC hE hce hsl ?_ hS1 hl hZ
  have hcell : Sum.inr (k, ((List.range (nFl k)).map (fun g => cv al (fldA k i g w))).set f (.int x)) = cellA X al cI cZ cS (wS w k i f x) (k, i) := by
    rw [cellA_obj hk.1]
    congr 2
    apply List.ext_getElem?
    intro n
    by_cases hn : n = f
    · subst hn
      rw [List.getElem?_set_self (by rw [List.length_map, List.length_range]; exact hk.2), List.getElem?_map, List.getElem?_range hk.2]
      show some (Value.int x) = some (cv al (fldA k i n (wS w k i n x)))
      unfold fldA
      rw [hr.1, wS_same]
      simp only [hr.2.1, if_true]
      rfl
    · rw [List.getElem?_set_ne (Ne.symm hn), List.getElem?_map, List.getElem?_map]
      by_cases hn2 : n < nFl k
      · rw [List.getElem?_range hn2]
        show some (cv al (fldA k i n w)) = some (cv al (fldA k i n (wS w k i f x)))
        unfold fldA
        rw [wS_same]
        simp only [if_neg hn]
        rfl
      · rw [List.getElem?_eq_none (by rw [List.length_range]; omega)]; rfl
  have hs := wsA_set (X := X) (al := al) (cI := cI) (cZ := cZ) (cS := cS) (w := w) (w' := wS w k i f x) hp0 (fun q _ hq => cellA_off (wS_off (fun z => hq (Prod.ext z.1 z.2))) rfl)
  rw [← hcell] at hs
  unfold PA
  rw [← hs]
  exact hP1
theorem aw_putL {k f idx : Nat} {x : Int64} (h : decode M.2.1 pc = .ok (.putfield idx, 3) ∧ pc + 3 = pc') (hw : Cond.fieldLink M.1.cls idx (TK k f).1 (TK k f).2.1 (TK k f).2.2.1 ∈ TT) (hk : k < 7 ∧ f < nFl k ∧ cntK k = 1) (hr : (∀ g, g < nFl k → (refK k 0 g = none ∧ lngK k g = true ↔ g = f)) ∧ (TK k f).2.2.2 = false ∧ tyK k f = .long) (K : AW d X M pc' ls st (wL w k x) Q) : AW d X M pc ls (aL x :: aR k 0 :: st) w Q := by
  intro al D cI cZ cS lo p l e R s m args below meth c H locs cells slots la Z hC hE hce hsl hP hS hl hZ
  obtain ⟨hx, hb, hml, hown, hts, hlk, hrt, hdf, hdl⟩ := id hC
  obtain ⟨hd, rfl⟩ := h
  have hi : 0 < cntK k := by rw [hk.2.2]; omega
  obtain ⟨p0, hp0⟩ := keys_in hi
  have he := wsA_at (X := X) (al := al) (cI := cI) (cZ := cZ) (cS := cS) (w := w) hp0
  rw [cellA_obj hk.1] at he
  refine va_put hx hb hts (inl_at k hk.1) (tyK k) (ty_at k hk.1) (nm_at k hk.1) hown hE.1 hP (wsA_D hE.2.1) hS p0 he (vw_at k hk.1) f hk.2.1 (hts _ hw) (fun _ h => h) hr.2.1 (v := .long x) (by rw [ty_at k hk.1 f hk.2.1, hr.2.2]) rfl rfl (by rw [List.length_map, List.length_range]; exact hk.2.1) hd (fun H1 locs1 hP1 _ hS1 => ?_)
  refine K al D cI cZ cS lo p l e R s m args below meth c H1 locs1 cells slots la Z hC hE hce hsl ?_ hS1 hl hZ
  have hcell : Sum.inr (k, ((List.range (nFl k)).map (fun g => cv al (fldA k 0 g w))).set f (.long x)) = cellA X al cI cZ cS (wL w k x) (k, 0) := by
    rw [cellA_obj hk.1]
    congr 2
    apply List.ext_getElem?
    intro n
    by_cases hn : n = f
    · subst hn
      rw [List.getElem?_set_self (by rw [List.length_map, List.length_range]; exact hk.2.1), List.getElem?_map, List.getElem?_range hk.2.1]
      obtain ⟨g1, g2⟩ := (hr.1 n hk.2.1).mpr rfl
      show some (Value.long x) = some (cv al (fldA k 0 n (wL w k x)))
      unfold fldA
      rw [g1]
      simp only [g2, if_true, wL]
      rfl
    · rw [List.getElem?_set_ne (Ne.symm hn), List.getElem?_map, List.getElem?_map]
      by_cases hn2 : n < nFl k
      · rw [List.getElem?_range hn2]
        show some (cv al (fldA k 0 n w)) = some (cv al (fldA k 0 n (wL w k x)))
        unfold fldA
        cases hrf : refK k 0 n with
        | some q => rfl
        | none =>
          have hl0 : ¬ lngK k n = true := fun z => hn ((hr.1 n hn2).mp ⟨hrf, z⟩)
          simp only [if_neg hl0, wL]
      · rw [List.getElem?_eq_none (by rw [List.length_range]; omega)]; rfl
  have hs := wsA_set (X := X) (al := al) (cI := cI) (cZ := cZ) (cS := cS) (w := w) (w' := wL w k x) hp0 (fun q hqm hq => cellA_off rfl (by
    have hne : q.1 ≠ k := fun z => by
      have h1 := keys_lt hqm
      rw [z, hk.2.2] at h1
      exact hq (Prod.ext z (by show q.2 = 0; omega))
    simp only [wL, if_neg hne]))
  rw [← hcell] at hs
  unfold PA
  rw [← hs]
  exact hP1
/-- what stands in an array of ints, the two tables and the script too -/
def rdA (X : XS) (w : Wd) (k i j : Nat) : Int32 := if k = 40 then tensA j else if k = 41 then facsA j else if k = 42 then X.2 j else w.1 k i j
def arrK (k i : Nat) : Bool := (intK k && decide (i < cntK k)) || ((k == 40 || k == 41 || k == 42) && i == 0)
theorem arrK_cases {k i : Nat} (h : arrK k i = true) : (intK k = true ∧ i < cntK k) ∨ ((k = 40 ∨ k = 41 ∨ k = 42) ∧ i = 0) := by
  simp only [arrK, Bool.or_eq_true, Bool.and_eq_true, decide_eq_true_eq, beq_iff_eq] at h
  rcases h with h | h
  · exact Or.inl h
  · exact Or.inr ⟨by rcases h.1 with (h | h) | h <;> simp [h], h.2⟩
theorem intK_lt {k : Nat} (h : intK k = true) : k < 34 := by
  simp only [intK, Bool.and_eq_true, decide_eq_true_eq] at h
  exact h.1.1.2
theorem aw_iald {k i : Nat} {x : Int32} {v : Int32} (h : decode M.2.1 pc = .ok (.iaload, 1) ∧ pc + 1 = pc') (hk : arrK k i = true) (hin : vp_in x (lenK X k)) (hv : rdA X w k i x.toNatClampNeg = v) (K : AW d X M pc' ls (aI v :: st) w Q) : AW d X M pc ls (aI x :: aR k i :: st) w Q := by
  intro al D cI cZ cS lo p l e R s m args below meth c H locs cells slots la Z hC hE hce hsl hP hS hl hZ
  obtain ⟨hx, hb, hml, hown, hts, hlk, hrt, hdf, hdl⟩ := id hC
  obtain ⟨hd, rfl⟩ := h
  subst hv
  rcases arrK_cases hk with ⟨h1, h2⟩ | ⟨h1, rfl⟩
  · obtain ⟨p0, hp0⟩ := keys_in h2
    have he := wsA_at (X := X) (al := al) (cI := cI) (cZ := cZ) (cS := cS) (w := w) hp0
    rw [cellA_int h1] at he
    have h34 := intK_lt h1
    have erd : rdA X w k i x.toNatClampNeg = w.1 k i x.toNatClampNeg := by
      unfold rdA; rw [if_neg (by omega), if_neg (by omega), if_neg (by omega)]
    rw [erd] at K
    exact va_iald hx hb hE.1 hP p0 0 he rfl hin hd (K al D cI cZ cS lo p l e R s m args below meth c H locs cells slots la Z hC hE hce hsl hP hS hl hZ)
  · rcases h1 with rfl | rfl | rfl
    · exact va_ti hx hb hE.2.2.1.1 hS hin rfl hd (K al D cI cZ cS lo p l e R s m args below meth c H locs cells slots la Z hC hE hce hsl hP hS hl hZ)
    · exact va_ti hx hb hE.2.2.1.2.1 hS hin rfl hd (K al D cI cZ cS lo p l e R s m args below meth c H locs cells slots la Z hC hE hce hsl hP hS hl hZ)
    · exact va_ti hx hb hE.2.2.1.2.2 hS hin rfl hd (K al D cI cZ cS lo p l e R s m args below meth c H locs cells slots la Z hC hE hce hsl hP hS hl hZ)
theorem aw_zald {k i : Nat} {x : Int32} (h : decode M.2.1 pc = .ok (.baload, 1) ∧ pc + 1 = pc') (hk : bolK k = true) (hi : i < cntK k) (hin : vp_in x (lenK X k)) (K : AW d X M pc' ls (aI (w.1 k i x.toNatClampNeg) :: st) w Q) : AW d X M pc ls (aI x :: aR k i :: st) w Q := by
  intro al D cI cZ cS lo p l e R s m args below meth c H locs cells slots la Z hC hE hce hsl hP hS hl hZ
  obtain ⟨hx, hb, hml, hown, hts, hlk, hrt, hdf, hdl⟩ := id hC
  obtain ⟨hd, rfl⟩ := h
  obtain ⟨p0, hp0⟩ := keys_in hi
  have he := wsA_at (X := X) (al := al) (cI := cI) (cZ := cZ) (cS := cS) (w := w) hp0
  rw [cellA_bol hk] at he
  exact va_zald hx hb hE.1 hP p0 1 he rfl hin hd (K al D cI cZ cS lo p l e R s m args below meth c H locs cells slots la Z hC hE hce hsl hP hS hl hZ)
theorem wS_cell {X : XS} {al : AM} {cI cZ cS : ClassId} {w : Wd} {k i j p0 : Nat} {x : Int32} {H1 : Heap} {D : va_G} {cA : ClassId} (hp0 : keysA[p0]? = some (k, i)) (hc : ∀ w : Wd, cellA X al cI cZ cS w (k, i) = .inl (cA, lenK X k, .inl (w.1 k i))) (hP1 : va_P D vwCl ((wsA X al cI cZ cS w).set p0 (al k i, .inl (cA, lenK X k, .inl (upd (w.1 k i) j x)))) H1) : PA X al D cI cZ cS (wS w k i j x) H1 := by
  have hs := wsA_set (X := X) (al := al) (cI := cI) (cZ := cZ) (cS := cS) (w := w) (w' := wS w k i j x) hp0 (fun q _ hq => cellA_off (wS_off (fun z => hq (Prod.ext z.1 z.2))) rfl)
  rw [hc, wS_same] at hs
  unfold PA
  rw [← hs]
  exact hP1
theorem aw_iast {k i : Nat} {x y : Int32} (h : decode M.2.1 pc = .ok (.iastore, 1) ∧ pc + 1 = pc') (hk : intK k = true) (hi : i < cntK k) (hin : vp_in x (lenK X k)) (K : AW d X M pc' ls st (wS w k i x.toNatClampNeg y) Q) : AW d X M pc ls (aI y :: aI x :: aR k i :: st) w Q := by
  intro al D cI cZ cS lo p l e R s m args below meth c H locs cells slots la Z hC hE hce hsl hP hS hl hZ
  obtain ⟨hx, hb, hml, hown, hts, hlk, hrt, hdf, hdl⟩ := id hC
  obtain ⟨hd, rfl⟩ := h
  obtain ⟨p0, hp0⟩ := keys_in hi
  have he := wsA_at (X := X) (al := al) (cI := cI) (cZ := cZ) (cS := cS) (w := w) hp0
  rw [cellA_int hk] at he
  exact va_iast hx hb hE.1 hP (wsA_D hE.2.1) hS p0 0 he rfl hin hd (fun H1 locs1 hP1 _ hS1 => K al D cI cZ cS lo p l e R s m args below meth c H1 locs1 cells slots la Z hC hE hce hsl (wS_cell hp0 (fun _ => cellA_int hk) hP1) hS1 hl hZ)
theorem aw_zast {k i : Nat} {x y : Int32} (h : decode M.2.1 pc = .ok (.bastore, 1) ∧ pc + 1 = pc') (hk : bolK k = true) (hi : i < cntK k) (hin : vp_in x (lenK X k)) (hy : vp_nar .boolean y = y) (K : AW d X M pc' ls st (wS w k i x.toNatClampNeg y) Q) : AW d X M pc ls (aI y :: aI x :: aR k i :: st) w Q := by
  intro al D cI cZ cS lo p l e R s m args below meth c H locs cells slots la Z hC hE hce hsl hP hS hl hZ
  obtain ⟨hx, hb, hml, hown, hts, hlk, hrt, hdf, hdl⟩ := id hC
  obtain ⟨hd, rfl⟩ := h
  obtain ⟨p0, hp0⟩ := keys_in hi
  have he := wsA_at (X := X) (al := al) (cI := cI) (cZ := cZ) (cS := cS) (w := w) hp0
  rw [cellA_bol hk] at he
  exact va_zast hx hb hE.1 hP (wsA_D hE.2.1) hS p0 1 he rfl hin hd (fun H1 locs1 hP1 _ hS1 => K al D cI cZ cS lo p l e R s m args below meth c H1 locs1 cells slots la Z hC hE hce hsl (wS_cell hp0 (fun _ => cellA_bol hk) (by rw [hy] at hP1; exact hP1)) hS1 hl hZ)
theorem aw_alenI {k i : Nat} {v : Int32} (h : decode M.2.1 pc = .ok (.arraylength, 1) ∧ pc + 1 = pc') (hk : arrK k i = true) (hv : Int32.ofNat (lenK X k) = v) (K : AW d X M pc' ls (aI v :: st) w Q) : AW d X M pc ls (aR k i :: st) w Q := by
  intro al D cI cZ cS lo p l e R s m args below meth c H locs cells slots la Z hC hE hce hsl hP hS hl hZ
  obtain ⟨hx, hb, hml, hown, hts, hlk, hrt, hdf, hdl⟩ := id hC
  obtain ⟨hd, rfl⟩ := h
  rcases arrK_cases hk with ⟨h1, h2⟩ | ⟨h1, rfl⟩
  · obtain ⟨p0, hp0⟩ := keys_in h2
    have he := wsA_at (X := X) (al := al) (cI := cI) (cZ := cZ) (cS := cS) (w := w) hp0
    rw [cellA_int h1] at he
    exact va_alen hx hb hE.1 hP p0 0 he rfl hv hd (K al D cI cZ cS lo p l e R s m args below meth c H locs cells slots la Z hC hE hce hsl hP hS hl hZ)
  · rcases h1 with rfl | rfl | rfl
    · exact va_tlen hx hb hE.2.2.1.1 hS hv hd (K al D cI cZ cS lo p l e R s m args below meth c H locs cells slots la Z hC hE hce hsl hP hS hl hZ)
    · exact va_tlen hx hb hE.2.2.1.2.1 hS hv hd (K al D cI cZ cS lo p l e R s m args below meth c H locs cells slots la Z hC hE hce hsl hP hS hl hZ)
    · exact va_tlen hx hb hE.2.2.1.2.2 hS hv hd (K al D cI cZ cS lo p l e R s m args below meth c H locs cells slots la Z hC hE hce hsl hP hS hl hZ)
theorem aw_alenZ {k i : Nat} {v : Int32} (h : decode M.2.1 pc = .ok (.arraylength, 1) ∧ pc + 1 = pc') (hk : bolK k = true) (hi : i < cntK k) (hv : Int32.ofNat (lenK X k) = v) (K : AW d X M pc' ls (aI v :: st) w Q) : AW d X M pc ls (aR k i :: st) w Q := by
  intro al D cI cZ cS lo p l e R s m args below meth c H locs cells slots la Z hC hE hce hsl hP hS hl hZ
  obtain ⟨hx, hb, hml, hown, hts, hlk, hrt, hdf, hdl⟩ := id hC
  obtain ⟨hd, rfl⟩ := h
  obtain ⟨p0, hp0⟩ := keys_in hi
  have he := wsA_at (X := X) (al := al) (cI := cI) (cZ := cZ) (cS := cS) (w := w) hp0
  rw [cellA_bol hk] at he
  exact va_alen hx hb hE.1 hP p0 1 he rfl hv hd (K al D cI cZ cS lo p l e R s m args below meth c H locs cells slots la Z hC hE hce hsl hP hS hl hZ)
/-- the arrays of stands: kept (34), before (35) -/
def refB : Nat → Nat
  | 34 => 3
  | _ => 5
theorem cellA_ref {X : XS} {al : AM} {cI cZ cS : ClassId} {w : Wd} {k : Nat} (hk : k = 34 ∨ k = 35) : cellA X al cI cZ cS w (k, 0) = .inl (cS, lenK X k, .inr (.inr (.inr (.inr (fun j => some (al 3 (refB k + j))))))) := by
  rcases hk with rfl | rfl <;> rfl
theorem aw_alenR {k : Nat} {v : Int32} (h : decode M.2.1 pc = .ok (.arraylength, 1) ∧ pc + 1 = pc') (hk : k = 34 ∨ k = 35) (hv : Int32.ofNat (lenK X k) = v) (K : AW d X M pc' ls (aI v :: st) w Q) : AW d X M pc ls (aR k 0 :: st) w Q := by
  intro al D cI cZ cS lo p l e R s m args below meth c H locs cells slots la Z hC hE hce hsl hP hS hl hZ
  obtain ⟨hx, hb, hml, hown, hts, hlk, hrt, hdf, hdl⟩ := id hC
  obtain ⟨hd, rfl⟩ := h
  obtain ⟨p0, hp0⟩ := keys_in (k := k) (i := 0) (by rcases hk with rfl | rfl <;> decide)
  have he := wsA_at (X := X) (al := al) (cI := cI) (cZ := cZ) (cS := cS) (w := w) hp0
  rw [cellA_ref hk] at he
  exact va_alen hx hb hE.1 hP p0 2 he rfl hv hd (K al D cI cZ cS lo p l e R s m args below meth c H locs cells slots la Z hC hE hce hsl hP hS hl hZ)
theorem aw_aald {k : Nat} {x : Int32} (h : decode M.2.1 pc = .ok (.aaload, 1) ∧ pc + 1 = pc') (hk : k = 34 ∨ k = 35) (hin : vp_in x (lenK X k)) (K : AW d X M pc' ls (aR 3 (refB k + x.toNatClampNeg) :: st) w Q) : AW d X M pc ls (aI x :: aR k 0 :: st) w Q := by
  intro al D cI cZ cS lo p l e R s m args below meth c H locs cells slots la Z hC hE hce hsl hP hS hl hZ
  obtain ⟨hx, hb, hml, hown, hts, hlk, hrt, hdf, hdl⟩ := id hC
  obtain ⟨hd, rfl⟩ := h
  obtain ⟨p0, hp0⟩ := keys_in (k := k) (i := 0) (by rcases hk with rfl | rfl <;> decide)
  have he := wsA_at (X := X) (al := al) (cI := cI) (cZ := cZ) (cS := cS) (w := w) hp0
  rw [cellA_ref hk] at he
  exact va_aldq hx hb hE.1 hP p0 2 he rfl hin hd (K al D cI cZ cS lo p l e R s m args below meth c H locs cells slots la Z hC hE hce hsl hP hS hl hZ)
theorem aw_getsT {idx : Nat} (h : decode M.2.1 pc = .ok (.getstatic idx, 3) ∧ pc + 3 = pc') (hw : Cond.fieldLink M.1.cls idx RX5 "TENS" "[I" ∈ TT) (K : AW d X M pc' ls (aR 40 0 :: st) w Q) : AW d X M pc ls st w Q := by
  intro al D cI cZ cS lo p l e R s m args below meth c H locs cells slots la Z hC hE hce hsl hP hS hl hZ
  obtain ⟨hx, hb, hml, hown, hts, hlk, hrt, hdf, hdl⟩ := id hC
  obtain ⟨hd, rfl⟩ := h
  exact va_gets hx hb hE.2.2.2.1 hS hown (hts _ hw) (fun _ h => h) hd (K al D cI cZ cS lo p l e R s m args below meth c H locs cells slots la Z hC hE hce hsl hP hS hl hZ)
theorem aw_getsF {idx : Nat} (h : decode M.2.1 pc = .ok (.getstatic idx, 3) ∧ pc + 3 = pc') (hw : Cond.fieldLink M.1.cls idx RX5 "FACTORIALS" "[I" ∈ TT) (K : AW d X M pc' ls (aR 41 0 :: st) w Q) : AW d X M pc ls st w Q := by
  intro al D cI cZ cS lo p l e R s m args below meth c H locs cells slots la Z hC hE hce hsl hP hS hl hZ
  obtain ⟨hx, hb, hml, hown, hts, hlk, hrt, hdf, hdl⟩ := id hC
  obtain ⟨hd, rfl⟩ := h
  exact va_gets hx hb hE.2.2.2.2.1 hS hown (hts _ hw) (fun _ h => h) hd (K al D cI cZ cS lo p l e R s m args below meth c H locs cells slots la Z hC hE hce hsl hP hS hl hZ)
/-! the ends -/
theorem aw_ret {r : Option AV} (hr : RI M pc r) (hq : Q r w) : AW d X M pc ls r.toList w Q := by
  intro al D cI cZ cS lo p l e R s m args below meth c H locs cells slots la Z hC hE hce hsl hP hS hl hZ
  obtain ⟨hx, hb, hml, hown, hts, hlk, hrt, hdf, hdl⟩ := id hC
  exact hZ r w H locs la pc hq hr hP hS
theorem aw_iret {x : Int32} (h : decode M.2.1 pc = .ok (.ireturn, 1)) (hn : M.2.2.2 = some .int) (hq : Q (some (aI x)) w) : AW d X M pc ls [aI x] w Q := aw_ret (r := some (aI x)) ⟨h, _, hn, rfl⟩ hq
theorem aw_zret {x : Int32} (h : decode M.2.1 pc = .ok (.ireturn, 1)) (hn : M.2.2.2 = some .boolean) (hb : narrow .boolean (.int x) = .int x) (hq : Q (some (aI x)) w) : AW d X M pc ls [aI x] w Q := aw_ret (r := some (aI x)) ⟨h, _, hn, hb⟩ hq
theorem aw_vret (h : decode M.2.1 pc = .ok (.return_, 1)) (hn : M.2.2.2 = none) (hq : Q none w) : AW d X M pc ls [] w Q := aw_ret (r := none) ⟨h, hn⟩ hq
theorem aw_lret {x : Int64} (h : decode M.2.1 pc = .ok (.lreturn, 1)) (hn : M.2.2.2 = some .long) (hq : Q (some (aL x)) w) : AW d X M pc ls [aL x] w Q := aw_ret (r := some (aL x)) ⟨h, hn⟩ hq
theorem aw_aret {a b : Nat} {nm : String} (h : decode M.2.1 pc = .ok (.areturn, 1)) (hn : M.2.2.2 = some (.object nm)) (hq : Q (some (aR a b)) w) : AW d X M pc ls [aR a b] w Q := aw_ret (r := some (aR a b)) ⟨h, _, hn, Or.inl ⟨_, rfl⟩⟩ hq
/-! fewer locals; another end; more room -/
theorem aw_loc {ls' : List (Option AV)} (h : ∀ (i : Nat) (a : AV), ls'[i]? = some (some a) → ls[i]? = some (some a)) (K : AW d X M pc ls' st w Q) : AW d X M pc ls st w Q := by
  intro al D cI cZ cS lo p l e R s m args below meth c H locs cells slots la Z hC hE hce hsl hP hS hl hZ
  obtain ⟨hx, hb, hml, hown, hts, hlk, hrt, hdf, hdl⟩ := id hC
  exact K al D cI cZ cS lo p l e R s m args below meth c H locs cells slots la Z hC hE hce hsl hP hS ⟨hl.1, hl.2.1, fun i a hi => hl.2.2 i a (h i a hi)⟩ hZ
theorem aw_post {Q' : Option AV → Wd → Prop} (h : ∀ r w', Q' r w' → Q r w') (K : AW d X M pc ls st w Q') : AW d X M pc ls st w Q := by
  intro al D cI cZ cS lo p l e R s m args below meth c H locs cells slots la Z hC hE hce hsl hP hS hl hZ
  obtain ⟨hx, hb, hml, hown, hts, hlk, hrt, hdf, hdl⟩ := id hC
  exact K al D cI cZ cS lo p l e R s m args below meth c H locs cells slots la Z hC hE hce hsl hP hS hl (fun r w' H' locs' la' pc' hq => hZ r w' H' locs' la' pc' (h r w' hq))
theorem aw_deep {d' : Nat} (h : d' ≤ d) (K : AW d' X M pc ls st w Q) : AW d X M pc ls st w Q := by
  intro al D cI cZ cS lo p l e R s m args below meth c H locs cells slots la Z hC hE hce hsl hP hS hl hZ
  obtain ⟨hx, hb, hml, hown, hts, hlk, hrt, hdf, hdl⟩ := id hC
  exact K al D cI cZ cS lo p l e R s m args below meth c H locs cells slots la Z ⟨hx, hb, hml, hown, hts, hlk, hrt, Nat.le_trans h hdf, Nat.le_trans (Nat.mul_le_mul_left 40 h) hdl⟩ hE hce hsl hP hS hl hZ
end AWR

/-! calls -/
def entA (n : Nat) (as : List AV) : List (Option AV) :=
  let l := as.flatMap fun a => match a with
    | .inr (.inl _) => [some a, none]
    | _ => [some a]
  l ++ List.replicate (n - l.length) none
def catA : AV → Nat
  | .inr (.inl _) => 2
  | _ => 1
theorem catA_eq (al : AM) (a : AV) : (cv al a).category = catA a := by
  match a with
  | .inl _ => rfl
  | .inr (.inl _) => rfl
  | .inr (.inr (some _)) => rfl
  | .inr (.inr none) => rfl
def RmA (d : Nat) : Room := { frames := d, cells := 0, slots := 0, locals := 40 * d }
theorem lv_args_at (al : AM) : ∀ (as : List AV) (i : Nat) (j : Nat) (a : AV), (as.flatMap fun a => match a with
    | .inr (.inl _) => [some a, none]
    | _ => [some a])[j]? = some (some a) → (i + j, cv al a) ∈ lv_args i (as.map (cv al)) := by
  intro as
  induction as with
  | nil => intro i j a h; simp at h
  | cons b bs ih =>
    intro i j a h
    show (i + j, cv al a) ∈ (i, cv al b) :: lv_args (if (cv al b).category = 2 then i + 2 else i + 1) (bs.map (cv al))
    rw [catA_eq]
    match b, h with
    | .inr (.inl x), h =>
      match j, h with
      | 0, h => simp at h; rw [← h]; exact List.mem_cons_self
      | 1, h => simp at h
      | j + 2, h =>
        refine List.mem_cons_of_mem _ ?_
        have h1 := ih (i + 2) j a (by simpa using h)
        rw [show i + (j + 2) = i + 2 + j by omega]
        exact h1
    | .inl x, h =>
      match j, h with
      | 0, h => simp at h; rw [← h]; exact List.mem_cons_self
      | j + 1, h =>
        refine List.mem_cons_of_mem _ ?_
        have h1 := ih (i + 1) j a (by simpa using h)
        rw [show i + (j + 1) = i + 1 + j by omega]
        exact h1
    | .inr (.inr x), h =>
      match j, h with
      | 0, h => simp at h; rw [← h]; exact List.mem_cons_self
      | j + 1, h =>
        refine List.mem_cons_of_mem _ ?_
        have h1 := ih (i + 1) j a (by simpa using h)
        rw [show i + (j + 1) = i + 1 + j by omega]
        cases x <;> exact h1
theorem entA_len (al : AM) : ∀ (as : List AV), (lg_sl (as.map (cv al))).length = (as.flatMap fun a => match a with
    | .inr (.inl _) => [some a, none]
    | _ => [some a]).length := by
  intro as
  induction as with
  | nil => rfl
  | cons b bs ih =>
    simp only [List.map_cons, lg_sl, List.flatMap_cons, List.length_append, catA_eq] at ih ⊢
    rw [ih]
    match b with
    | .inr (.inl x) => rfl
    | .inl x => rfl
    | .inr (.inr (some x)) => rfl
    | .inr (.inr none) => rfl
theorem LA.entry (al : AM) (as : List AV) (n : Nat) (h : (lg_sl (as.map (cv al))).length ≤ n) : LA al ((lg_sl (as.map (cv al)) ++ List.replicate (n - (lg_sl (as.map (cv al))).length) Slot.unset).toArray) n (entA n as) := by
  obtain ⟨h1, h2, h3⟩ := lv_entry (as.map (cv al)) h
  refine ⟨h1, h2, fun i a hi => ?_⟩
  have hm : (i, cv al a) ∈ lv_args 0 (as.map (cv al)) := by
    unfold entA at hi
    dsimp only at hi
    by_cases hlt : i < (as.flatMap fun a => match a with
      | .inr (.inl _) => [some a, none]
      | _ => [some a]).length
    · rw [List.getElem?_append_left hlt] at hi
      have := lv_args_at al as 0 i a hi
      rwa [Nat.zero_add] at this
    · rw [List.getElem?_append_right (by omega)] at hi
      have := List.eq_of_mem_replicate (List.mem_of_getElem? hi)
      cases this
  exact h3 _ hm
/-- what the tables say of a method: C: the class that is asked; n: how many arguments it takes, this aside; ln: how many places they take -/
def MI (N : MD) (C : String) (n ln : Nat) : Prop := N.1.cls = C ∧ Cond.instanceMethod N.1 ∈ TT ∧ Cond.selects C N.1 N.1 ∈ TT ∧ Cond.initialized C ∈ TT ∧ Cond.code N.1 N.2.1 N.2.2.1 N.2.2.2 ∈ TT ∧ (N.1.cls ≠ "java/lang/invoke/MethodHandle" ∧ N.1.cls ≠ "java/lang/invoke/VarHandle" ∧ (parseMethodDescriptor N.1.desc).map (fun d => d.parameters.length) = some n) ∧ N.2.2.1 ≤ 20 ∧ plainName N.1.cls = true ∧ ln ≤ N.2.2.1
def MS (N : MD) (n ln : Nat) : Prop := Cond.static N.1 ∈ TT ∧ Cond.initialized N.1.cls ∈ TT ∧ Cond.code N.1 N.2.1 N.2.2.1 N.2.2.2 ∈ TT ∧ (N.1.cls ≠ "java/lang/invoke/MethodHandle" ∧ N.1.cls ≠ "java/lang/invoke/VarHandle" ∧ (parseMethodDescriptor N.1.desc).map (fun d => d.parameters.length) = some n) ∧ N.2.2.1 ≤ 20 ∧ plainName N.1.cls = true ∧ ln ≤ N.2.2.1
def QA (X : XS) (al : AM) (D : va_G) (cI cZ cS : ClassId) (lo : Nat) (Q : Option AV → Wd → Prop) : Array Value → State → Outcome → State → Prop := fun _ st o t => ∃ r w', o = .returned (r.map (cv al)) ∧ Q r w' ∧ PA X al D cI cZ cS w' t.heap ∧ va_F (fun q => lo ≤ q) st t
theorem EA.moved {X : XS} {al : AM} {D : va_G} {cI cZ cS : ClassId} {lo : Nat} {s U : State} {H : Heap} {locs : List Loc} (h : EA X al D cI cZ cS lo s) (hvm : s.vm.Alike U.vm) (hN : ∀ q ∈ nestsA, va_Nw (.methodLinkNest q.1 q.2.1 q.2.2 RX5) U) (hU : U.heap = H) (hS : va_S (fun q => lo ≤ q) s.heap H locs) : EA X al D cI cZ cS lo U := by
  subst hU
  exact ⟨h.1.moved hvm, h.2.1, ⟨(h.2.2.1.1.kept hS.2.1).moved hvm, (h.2.2.1.2.1.kept hS.2.1).moved hvm, (h.2.2.1.2.2.kept hS.2.1).moved hvm⟩, (h.2.2.2.1.kept hS.2.1).moved hvm, (h.2.2.2.2.1.kept hS.2.1).moved hvm, hN⟩
theorem EA.warm {X : XS} {al : AM} {D : va_G} {cI cZ cS : ClassId} {lo : Nat} {s U : State} {H : Heap} {locs : List Loc} (h : EA X al D cI cZ cS lo s) (hW : s.WarmedH U.vm) (hU : U.heap = H) (hS : va_S (fun q => lo ≤ q) s.heap H locs) : EA X al D cI cZ cS lo U :=
  h.moved hW.alike (fun q hq => va_Nw.warmM hW (h.2.2.2.2.2 q hq)) hU hS
theorem met_aw {d : Nat} {X : XS} {N : MD} {l : Launch} {w : Wd} {Q : Option AV → Wd → Prop} {as : List AV} {al : AM} {D : va_G} {cI cZ cS : ClassId} {lo : Nat} (hp : plainName N.1.cls = true) (hln : (lg_sl (as.map (cv al))).length ≤ N.2.2.1) (C : AW d X N 0 (entA N.2.2.1 as) [] w Q) :
    Met l N.1 (Cond.code N.1 N.2.1 N.2.2.1 N.2.2.2 :: TT) (RmA d) (va_Pc (as.map (cv al)) (fun U => EA X al D cI cZ cS lo U ∧ PA X al D cI cZ cS w U.heap)) (QA X al D cI cZ cS lo Q) 0 0 (fun q => lo ≤ q) := by
  refine Met.ofW (cc := N.2.1) (maxL := N.2.2.1) (ret := N.2.2.2) hp rfl ?_
  intro p e s m args below meth c s₁ B hml hv
  obtain ⟨rfl, hE, hP⟩ := hv
  have hts := atoms_spec (ws := Cond.code N.1 N.2.1 N.2.2.1 N.2.2.2 :: TT) B.pre
  rw [lg_entry_eq]
  refine C al D cI cZ cS lo p l e (headSpec (Cond.code N.1 N.2.1 N.2.2.1 N.2.2.2 :: TT) (RmA d)).room s m ((as.map (cv al)).toArray) below meth c s.heap [] 0 0 _ _ ⟨B.exec, B.bytes, hml, findClass_of_methodNamed B.named, fun w hw => hts w (List.mem_cons_of_mem _ hw), B.notSynchronized, B.returns, Nat.le_refl _, Nat.le_refl _⟩ hE (Nat.zero_le _) (Nat.zero_le _) hP va_S.rf (LA.entry al as N.2.2.1 hln) ?_
  intro r w' H' locs' la' pc' hq hri hP' hS'
  have hlk := B.notSynchronized
  match r, hri, hq with
  | none, ⟨h1, h2⟩, hq => exact W.vret B.exec B.bytes (B.returns.trans h2) (fun t ht _ => ⟨none, w', rfl, hq, by rw [ht]; exact hP', hS'.F ht⟩) hS'.2.2 h1 hlk
  | some (.inl x), ⟨h1, ty, h2, h3⟩, hq => exact W.zret B.exec B.bytes (B.returns.trans h2) h3 (fun t ht _ => ⟨some (aI x), w', rfl, hq, by rw [ht]; exact hP', hS'.F ht⟩) hS'.2.2 h1 hlk
  | some (.inr (.inl x)), ⟨h1, h2⟩, hq => exact W.lret B.exec B.bytes (B.returns.trans h2) (fun t ht _ => ⟨some (aL x), w', rfl, hq, by rw [ht]; exact hP', hS'.F ht⟩) hS'.2.2 h1 hlk
  | some (.inr (.inr (some x))), ⟨h1, rt, h2, h3⟩, hq => exact W.aret B.exec B.bytes (B.returns.trans h2) h3 (Or.inr ⟨_, rfl⟩) (fun t ht _ => ⟨some (.inr (.inr (some x))), w', rfl, hq, by rw [ht]; exact hP', hS'.F ht⟩) hS'.2.2 h1 hlk
  | some (.inr (.inr none)), ⟨h1, rt, h2, h3⟩, hq => exact W.aret B.exec B.bytes (B.returns.trans h2) h3 (Or.inl rfl) (fun t ht _ => ⟨some aN, w', rfl, hq, by rw [ht]; exact hP', hS'.F ht⟩) hS'.2.2 h1 hlk
theorem blindA {X : XS} {al : AM} {D : va_G} {cI cZ cS : ClassId} {lo : Nat} {w : Wd} {vs : List Value} : FrameBlind (va_Pc vs (fun U => EA X al D cI cZ cS lo U ∧ PA X al D cI cZ cS w U.heap)) := fun a U g mk q => ⟨q.1, EA.moved (locs := []) q.2.1 (U := U.calling g mk a) (Vm.Alike.refl U.vm) (fun x hx => va_Nw.same rfl (show U.vm = (U.calling g mk a).vm from rfl) (q.2.1.2.2.2.2.2 x hx)) rfl va_S.rf, q.2.2⟩
theorem lenA_eq (al : AM) (as : List AV) : (lg_sl (as.map (cv al))).length = (as.map catA).sum := by
  rw [entA_len]
  induction as with
  | nil => rfl
  | cons b bs ih =>
    simp only [List.flatMap_cons, List.length_append, List.map_cons, List.sum_cons, ih]
    match b with
    | .inr (.inl x) => rfl
    | .inl x => rfl
    | .inr (.inr (some x)) => rfl
    | .inr (.inr none) => rfl
theorem sumA_eq (al : AM) (st : List AV) : ((st.map (cv al)).map fun v => v.category).sum = (st.map catA).sum := by
  rw [List.map_map]
  congr 1
  apply List.map_congr_left
  intro a _
  exact catA_eq al a
section AWC
variable {d : Nat} {X : XS} {M : MD} {pc pc' : Nat} {ls : List (Option AV)} {st : List AV} {w : Wd} {Q Q' : Option AV → Wd → Prop}

theorem aw_callV {d' idx n ln : Nat} {N : MD} (as : List AV) {k i : Nat} (h : decode M.2.1 pc = .ok (.invokevirtual idx, 3) ∧ pc + 3 = pc') (hw : Cond.methodLink M.1.cls idx N.1 ∈ TT) (hN : MI N (RK k) n ln) (hk : k < 7) (hi : i < cntK k) (hdd : d' + 1 ≤ d) (hn : as.length = n) (hln : ((aR k i :: as).map catA).sum = ln) (hst : (st.map catA).sum ≤ 8) (C : AW d' X N 0 (entA N.2.2.1 (aR k i :: as)) [] w Q') (K : ∀ r w', Q' r w' → AW d X M pc' ls (r.toList ++ st) w' Q) : AW d X M pc ls (as.reverse ++ aR k i :: st) w Q := by
  intro al D cI cZ cS lo p l e R s m args below meth c H locs cells slots la Z hC hE hce hsl hP hS hl hZ
  obtain ⟨hx, hb, hml, hown, hts, hlk, hrt, hdf, hdl⟩ := id hC
  obtain ⟨hd, rfl⟩ := h
  have hroom : (RmA d').frames + 1 ≤ R.frames ∧ 8 + (N.2.2.1 + 11) + (RmA d').locals ≤ R.locals := ⟨Nat.le_trans hdd hdf, by
    show 8 + (N.2.2.1 + 11) + 40 * d' ≤ R.locals
    have h20 : N.2.2.1 ≤ 20 := hN.2.2.2.2.2.2.1
    omega⟩
  obtain ⟨hcls, hin, hse, hini, hco, hdd2, h20, hpl, hll⟩ := hN
  have hG : GoodIn TT (wsV M.1.cls idx (RK k) N.1 (Cond.code N.1 N.2.1 N.2.2.1 N.2.2.2 :: TT)) := fun v hv => by
    have hm : v ∈ TT := by
      rcases List.mem_append.mp hv with h1 | h1
      · simp only [List.mem_cons, List.not_mem_nil, or_false] at h1
        rcases h1 with rfl | rfl | rfl | rfl
        · exact hw
        · exact hin
        · exact hse
        · exact hini
      · rcases List.mem_cons.mp h1 with rfl | h1
        · exact hco
        · exact h1
    exact ⟨hm, (tt_goodIn v hm).2⟩
  obtain ⟨p0, hp0⟩ := keys_in hi
  have he := wsA_at (X := X) (al := al) (cI := cI) (cZ := cZ) (cS := cS) (w := w) hp0
  rw [cellA_obj hk] at he
  have hrun := va_runV (p := p) (l := l) (e := e) (R := R) (below := below) (meth := meth) (locs := locs) (cells := cells) (slots := slots) (g := F0 m pc la (List.map (cv al) (as.reverse ++ aR k i :: st))) (As := as.map (cv al)) (b := al k i) (rest := st.map (cv al)) ⟨hx, hb, hml, hown, hts⟩
    (met_aw (l := l) (as := (aR k i :: as)) (al := al) (D := D) (cI := cI) (cZ := cZ) (cS := cS) (lo := lo) hpl (by rw [lenA_eq, hln]; exact hll) C)
    (cwV n hts hG rfl rfl rfl ⟨hcls, hdd2⟩ hroom)
    ⟨blindA, va_recv hE.1 hP (vw_at k hk) he, fun U hU hW => ⟨rfl, hE.warm hW hU hS, by rw [hU]; exact hP⟩⟩
    rfl (by rw [List.length_map]; exact hn) (hl.1) (by show List.map (cv al) _ = _; rw [List.map_append, List.map_reverse]; rfl) (lv_room (by rw [sumA_eq]; exact hst)) hd ⟨hce, hsl⟩
  intro T hT XX
  obtain ⟨v, st₀, t, T', L, h0, X', hL, e1, e2, ⟨r, w', hv, hq, hP', hF⟩, stp⟩ := hrun T hT XX
  have hvr : v = r.map (cv al) := by cases hv; rfl
  subst hvr
  have hS' : va_S (fun q => lo ≤ q) s.heap t.heap (locs ++ L) := ⟨Nat.le_trans hS.1 (by rw [← h0]; exact hF.1), fun q h1 h2 => by
      rw [hF.2 q (by rw [h0]; exact Nat.lt_of_lt_of_le h1 hS.1) h2, h0]
      exact hS.2.1 q h1 h2, fun q hq => by
      rcases List.mem_append.mp hq with h | h
      · exact hS.2.2 q h
      · exact hL q h⟩
  obtain ⟨t2, a1, b1⟩ := K r w' hq al D cI cZ cS lo p l e R s m args below meth c t.heap (locs ++ L) cells slots la Z hC hE hce hsl hP' hS' hl hZ T' e1 X'
  refine ⟨t2, stp t2 ?_, b1⟩
  have hst2 : (r.map (cv al)).toList ++ st.map (cv al) = (r.toList ++ st).map (cv al) := by
    rw [List.map_append]
    cases r <;> rfl
  rw [hst2]
  exact a1
theorem aw_callS {d' idx n ln : Nat} {N : MD} (as : List AV) (h : decode M.2.1 pc = .ok (.invokestatic idx, 3) ∧ pc + 3 = pc') (hw : Cond.methodLink M.1.cls idx N.1 ∈ TT) (hN : MS N n ln) (hdd : d' + 1 ≤ d) (hn : as.length = n) (hln : (as.map catA).sum = ln) (hst : (st.map catA).sum ≤ 8) (C : AW d' X N 0 (entA N.2.2.1 as) [] w Q') (K : ∀ r w', Q' r w' → AW d X M pc' ls (r.toList ++ st) w' Q) : AW d X M pc ls (as.reverse ++ st) w Q := by
  intro al D cI cZ cS lo p l e R s m args below meth c H locs cells slots la Z hC hE hce hsl hP hS hl hZ
  obtain ⟨hx, hb, hml, hown, hts, hlk, hrt, hdf, hdl⟩ := id hC
  obtain ⟨hd, rfl⟩ := h
  have hroom : (RmA d').frames + 1 ≤ R.frames ∧ 8 + (N.2.2.1 + 11) + (RmA d').locals ≤ R.locals := ⟨Nat.le_trans hdd hdf, by
    show 8 + (N.2.2.1 + 11) + 40 * d' ≤ R.locals
    have h20 : N.2.2.1 ≤ 20 := hN.2.2.2.2.1
    omega⟩
  obtain ⟨hin, hini, hco, hdd2, h20, hpl, hll⟩ := hN
  have hG : GoodIn TT (va_wsS M.1.cls idx N.1 (Cond.code N.1 N.2.1 N.2.2.1 N.2.2.2 :: TT)) := fun v hv => by
    have hm : v ∈ TT := by
      rcases List.mem_append.mp hv with h1 | h1
      · simp only [List.mem_cons, List.not_mem_nil, or_false] at h1
        rcases h1 with rfl | rfl | rfl
        · exact hw
        · exact hin
        · exact hini
      · rcases List.mem_cons.mp h1 with rfl | h1
        · exact hco
        · exact h1
    exact ⟨hm, (tt_goodIn v hm).2⟩
  have hrun := va_runS (p := p) (l := l) (e := e) (R := R) (below := below) (meth := meth) (locs := locs) (cells := cells) (slots := slots) (g := F0 m pc la (List.map (cv al) (as.reverse ++ st))) (As := as.map (cv al)) (rest := st.map (cv al)) ⟨hx, hb, hml, hown, hts⟩
    (met_aw (l := l) (as := as) (al := al) (D := D) (cI := cI) (cZ := cZ) (cS := cS) (lo := lo) hpl (by rw [lenA_eq, hln]; exact hll) C)
    (va_cwS n hts hG rfl rfl rfl hdd2 hroom)
    ⟨blindA, fun U hU hW => ⟨rfl, hE.warm hW hU hS, by rw [hU]; exact hP⟩⟩
    rfl (by rw [List.length_map]; exact hn) (hl.1) (by show List.map (cv al) _ = _; rw [List.map_append, List.map_reverse]) (lv_room (by rw [sumA_eq]; exact hst)) hd ⟨hce, hsl⟩
  intro T hT XX
  obtain ⟨v, st₀, t, T', L, h0, X', hL, e1, e2, ⟨r, w', hv, hq, hP', hF⟩, stp⟩ := hrun T hT XX
  have hvr : v = r.map (cv al) := by cases hv; rfl
  subst hvr
  have hS' : va_S (fun q => lo ≤ q) s.heap t.heap (locs ++ L) := ⟨Nat.le_trans hS.1 (by rw [← h0]; exact hF.1), fun q h1 h2 => by
      rw [hF.2 q (by rw [h0]; exact Nat.lt_of_lt_of_le h1 hS.1) h2, h0]
      exact hS.2.1 q h1 h2, fun q hq => by
      rcases List.mem_append.mp hq with h | h
      · exact hS.2.2 q h
      · exact hL q h⟩
  obtain ⟨t2, a1, b1⟩ := K r w' hq al D cI cZ cS lo p l e R s m args below meth c t.heap (locs ++ L) cells slots la Z hC hE hce hsl hP' hS' hl hZ T' e1 X'
  refine ⟨t2, stp t2 ?_, b1⟩
  have hst2 : (r.map (cv al)).toList ++ st.map (cv al) = (r.toList ++ st).map (cv al) := by
    rw [List.map_append]
    cases r <;> rfl
  rw [hst2]
  exact a1
theorem aw_callN {d' idx n ln : Nat} {N : MD} (as : List AV) (h : decode M.2.1 pc = .ok (.invokestatic idx, 3) ∧ pc + 3 = pc') (hw : (M.1.cls, idx, N.1) ∈ nestsA) (hN : MS N n ln) (hdd : d' + 1 ≤ d) (hn : as.length = n) (hln : (as.map catA).sum = ln) (hst : (st.map catA).sum ≤ 8) (C : AW d' X N 0 (entA N.2.2.1 as) [] w Q') (K : ∀ r w', Q' r w' → AW d X M pc' ls (r.toList ++ st) w' Q) : AW d X M pc ls (as.reverse ++ st) w Q := by
  intro al D cI cZ cS lo p l e R s m args below meth c H locs cells slots la Z hC hE hce hsl hP hS hl hZ
  obtain ⟨hx, hb, hml, hown, hts, hlk, hrt, hdf, hdl⟩ := id hC
  obtain ⟨hd, rfl⟩ := h
  have hroom : (RmA d').frames + 1 ≤ R.frames ∧ 8 + (N.2.2.1 + 11) + (RmA d').locals ≤ R.locals := ⟨Nat.le_trans hdd hdf, by
    show 8 + (N.2.2.1 + 11) + 40 * d' ≤ R.locals
    have h20 : N.2.2.1 ≤ 20 := hN.2.2.2.2.1
    omega⟩
  obtain ⟨hin, hini, hco, hdd2, h20, hpl, hll⟩ := hN
  have hG : GoodIn TT (Cond.code N.1 N.2.1 N.2.2.1 N.2.2.2 :: TT) := fun v hv => by
    have hm : v ∈ TT := by
      rcases List.mem_cons.mp hv with rfl | h1
      · exact hco
      · exact h1
    exact ⟨hm, (tt_goodIn v hm).2⟩
  have hrun := va_runSN (p := p) (l := l) (e := e) (R := R) (below := below) (meth := meth) (locs := locs) (cells := cells) (slots := slots) (host := RX5) (g := F0 m pc la (List.map (cv al) (as.reverse ++ st))) (As := as.map (cv al)) (rest := st.map (cv al)) ⟨hx, hb, hml, hown, hts⟩
    (met_aw (l := l) (as := as) (al := al) (D := D) (cI := cI) (cZ := cZ) (cS := cS) (lo := lo) hpl (by rw [lenA_eq, hln]; exact hll) C)
    ⟨va_cnB n hts hG rfl rfl rfl (hE.2.2.2.2.2 _ hw) (hts _ hini) hdd2 hroom, hts _ hin, trivial⟩
    ⟨blindA, fun U hU hW => ⟨rfl, hE.warm hW hU hS, by rw [hU]; exact hP⟩⟩
    rfl (by rw [List.length_map]; exact hn) (hl.1) (by show List.map (cv al) _ = _; rw [List.map_append, List.map_reverse]) (lv_room (by rw [sumA_eq]; exact hst)) hd ⟨hce, hsl⟩
  intro T hT XX
  obtain ⟨v, st₀, t, T', L, h0, X', hL, e1, e2, ⟨r, w', hv, hq, hP', hF⟩, stp⟩ := hrun T hT XX
  have hvr : v = r.map (cv al) := by cases hv; rfl
  subst hvr
  have hS' : va_S (fun q => lo ≤ q) s.heap t.heap (locs ++ L) := ⟨Nat.le_trans hS.1 (by rw [← h0]; exact hF.1), fun q h1 h2 => by
      rw [hF.2 q (by rw [h0]; exact Nat.lt_of_lt_of_le h1 hS.1) h2, h0]
      exact hS.2.1 q h1 h2, fun q hq => by
      rcases List.mem_append.mp hq with h | h
      · exact hS.2.2 q h
      · exact hL q h⟩
  obtain ⟨t2, a1, b1⟩ := K r w' hq al D cI cZ cS lo p l e R s m args below meth c t.heap (locs ++ L) cells slots la Z hC hE hce hsl hP' hS' hl hZ T' e1 X'
  refine ⟨t2, stp t2 ?_, b1⟩
  have hst2 : (r.map (cv al)).toList ++ st.map (cv al) = (r.toList ++ st).map (cv al) := by
    rw [List.map_append]
    cases r <;> rfl
  rw [hst2]
  exact a1
end AWC
end
