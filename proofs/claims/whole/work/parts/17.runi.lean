def D_X6_mending_9 : Nat → Int32 → Int32 → Int32 → Int32 → Wd → Option (Int32 × Wd)
  | 0, _, _, _, _, _ => none
  | n + 1, x1, x2, x3, x4, w => if 5 ≤ x4 then (if x1 = 0 then (some (x2, w)) else (some (x3, w))) else (if inB ((3 : Int32) + x4) 16 then if (w.1 25 0 (Int32.toNatClampNeg ((3 : Int32) + x4))) ≤ 0 then (lt (x4 + 1) fun x4_5 => D_X6_mending_9 n x1 x2 x3 x4_5 w) else ((D_X6_layTrial w).bind fun q6 => if inB ((11 : Int32) + x4) 16 then if inB ((11 : Int32) + x4) 16 then lt (wS q6 25 0 (Int32.toNatClampNeg ((11 : Int32) + x4)) ((q6.1 25 0 (Int32.toNatClampNeg ((11 : Int32) + x4))) - (1 : Int32))) fun w9 => (D_X6_every w9).bind fun q10 => (D_X6_mostOn w9 1 q10).bind fun q11 => lt (q11.1) fun x5_12 => if x5_12 ≤ x3 then (if x5_12 ≤ x3 then (lt (x4 + 1) fun x4_15 => D_X6_mending_9 n x1 x2 x3 x4_15 q11.2) else (lt (x4 + 1) fun x4_16 => D_X6_mending_9 n x1 x2 x5_12 x4_16 q11.2)) else (if x5_12 ≤ x3 then (lt (x4 + 1) fun x4_18 => D_X6_mending_9 n x1 x4 x3 x4_18 q11.2) else (lt (x4 + 1) fun x4_19 => D_X6_mending_9 n x1 x4 x5_12 x4_19 q11.2)) else none else none) else none)
set_option maxHeartbeats 4000000 in
set_option maxRecDepth 100000 in
theorem A_X6_mending_9 {X : XS} : ∀ (nn : Nat) {x1 : Int32} {x2 : Int32} {x3 : Int32} {x4 : Int32} {w : Wd} {r : Int32 × Wd}, D_X6_mending_9 nn x1 x2 x3 x4 w = some r → AW 4 X mX6_mending 9 [some (aR 6 0), some (aI x1), some (aI x2), some (aI x3), some (aI x4), none] [] w (PI r.1 r.2) := by
  intro nn
  induction nn with
  | zero => intros; rename_i h; cases h
  | succ n ih =>
    intro x1 x2 x3 x4 w r h
    rw [D_X6_mending_9] at h
    refine aw_iload eX6_mending_9 rfl (aw_iconst eX6_mending_11 k_iconst_5 (aw_icmp_ge eX6_mending_12 (fun c1 => ?_) (fun c1 => ?_)))
    · have h := ip c1 h
      refine aw_iload_n eX6_mending_88 rfl (aw_if_eq eX6_mending_89 (fun c2 => ?_) (fun c2 => ?_))
      · have h := ip c2 h
        exact aw_iload_n eX6_mending_96 rfl (aw_iret eX6_mending_97 rfl (pI_i h))
      · have h := iq c2 h
        exact aw_iload_n eX6_mending_92 rfl (aw_goto eX6_mending_93 (aw_iret eX6_mending_97 rfl (pI_i h)))
    · have h := iq c1 h
      obtain ⟨hc3, h⟩ := ck h
      refine aw_aload_n eX6_mending_15 rfl (aw_getf (k := 6) (f := 7) eX6_mending_16 tw_2_54 ⟨by decide, by decide⟩ (by decide) (v := aR 25 0) rfl (aw_iconst eX6_mending_19 k_iconst_3 (aw_iload eX6_mending_20 rfl (aw_iadd eX6_mending_22 (aw_ialdK (n := 16) eX6_mending_23 rfl (by decide) hc3 (j := (Int32.toNatClampNeg ((3 : Int32) + x4))) rfl (aw_if_le eX6_mending_24 (fun c4 => ?_) (fun c4 => ?_)))))))
      · have h := ip c4 h
        obtain ⟨x4_5, ex4_5, h⟩ := lt_e h
        refine aw_iincY (iinc_k k_iconst_1 ex4_5) eX6_mending_82 rfl (by decide) rfl (ls' := [some (aR 6 0), some (aI x1), some (aI x2), some (aI x3), some (aI x4_5), none]) rfl (aw_goto eX6_mending_85 ?_)
        exact ih h
      · have h := iq c4 h
        obtain ⟨q6, hq6, h⟩ := bd h
        obtain ⟨hc7, h⟩ := ck h
        obtain ⟨hc8, h⟩ := ck h
        obtain ⟨w9, ew9, h⟩ := lt_e h
        obtain ⟨q10, hq10, h⟩ := bd h
        obtain ⟨q11, hq11, h⟩ := bd h
        obtain ⟨x5_12, ex5_12, h⟩ := lt_e h
        refine aw_aload_n eX6_mending_27 rfl (aw_callVV (N := mX6_layTrial) [] eX6_mending_28 tw_2_238 miX6_layTrial (by decide) (by decide) (by decide) rfl rfl (Nat.le_of_ble_eq_true rfl) (A_X6_layTrial hq6) (aw_aload_n eX6_mending_31 rfl (aw_getf (k := 6) (f := 7) eX6_mending_32 tw_2_54 ⟨by decide, by decide⟩ (by decide) (v := aR 25 0) rfl (aw_bipush eX6_mending_35 k_bipush_11 (aw_iload eX6_mending_37 rfl (aw_iadd eX6_mending_39 (aw_dup2 eX6_mending_40 (aw_ialdK (n := 16) eX6_mending_41 rfl (by decide) hc7 (j := (Int32.toNatClampNeg ((11 : Int32) + x4))) rfl (aw_iconst eX6_mending_42 k_iconst_1 (aw_isub eX6_mending_43 (aw_iastK (n := 16) eX6_mending_44 rfl (by decide) hc8 (j := (Int32.toNatClampNeg ((11 : Int32) + x4))) rfl (aw_wn ew9 (aw_aload_n eX6_mending_45 rfl (aw_iconst eX6_mending_46 k_iconst_1 (aw_aload_n eX6_mending_47 rfl (aw_callVI (N := mX6_every) [] eX6_mending_48 tw_2_215 miX6_every (by decide) (by decide) (by decide) rfl rfl (Nat.le_of_ble_eq_true rfl) (A_X6_every hq10) (aw_callVI (N := mX6_mostOn) [aI 1, aI q10] eX6_mending_51 tw_2_219 miX6_mostOn (by decide) (by decide) (by decide) rfl rfl (Nat.le_of_ble_eq_true rfl) (A_X6_mostOn hq11) (aw_istoreY ex5_12 eX6_mending_54 (by decide) rfl (ls' := [some (aR 6 0), some (aI x1), some (aI x2), some (aI x3), some (aI x4), some (aI x5_12)]) rfl (aw_iload eX6_mending_56 rfl (aw_iload_n eX6_mending_58 rfl (aw_icmp_le eX6_mending_59 (fun c13 => ?_) (fun c13 => ?_))))))))))))))))))))))
        · have h := ip c13 h
          refine aw_iload_n eX6_mending_67 rfl (aw_istore_nY rfl eX6_mending_68 (by decide) rfl (ls' := [some (aR 6 0), some (aI x1), some (aI x2), some (aI x3), some (aI x4), some (aI x5_12)]) rfl (aw_iload eX6_mending_69 rfl (aw_iload_n eX6_mending_71 rfl (aw_icmp_le eX6_mending_72 (fun c14 => ?_) (fun c14 => ?_)))))
          · have h := ip c14 h
            obtain ⟨x4_15, ex4_15, h⟩ := lt_e h
            refine aw_iload_n eX6_mending_80 rfl (aw_istore_nY rfl eX6_mending_81 (by decide) rfl (ls' := [some (aR 6 0), some (aI x1), some (aI x2), some (aI x3), some (aI x4), some (aI x5_12)]) rfl (aw_iincY (iinc_k k_iconst_1 ex4_15) eX6_mending_82 rfl (by decide) rfl (ls' := [some (aR 6 0), some (aI x1), some (aI x2), some (aI x3), some (aI x4_15), some (aI x5_12)]) rfl (aw_goto eX6_mending_85 ?_)))
            exact aw_sub (ls' := [some (aR 6 0), some (aI x1), some (aI x2), some (aI x3), some (aI x4_15), none]) ⟨rfl, ⟨rfl, ⟨rfl, ⟨rfl, ⟨rfl, trivial⟩⟩⟩⟩⟩ (ih h)
          · have h := iq c14 h
            obtain ⟨x4_16, ex4_16, h⟩ := lt_e h
            refine aw_iload eX6_mending_75 rfl (aw_goto eX6_mending_77 (aw_istore_nY rfl eX6_mending_81 (by decide) rfl (ls' := [some (aR 6 0), some (aI x1), some (aI x2), some (aI x5_12), some (aI x4), some (aI x5_12)]) rfl (aw_iincY (iinc_k k_iconst_1 ex4_16) eX6_mending_82 rfl (by decide) rfl (ls' := [some (aR 6 0), some (aI x1), some (aI x2), some (aI x5_12), some (aI x4_16), some (aI x5_12)]) rfl (aw_goto eX6_mending_85 ?_))))
            exact aw_sub (ls' := [some (aR 6 0), some (aI x1), some (aI x2), some (aI x5_12), some (aI x4_16), none]) ⟨rfl, ⟨rfl, ⟨rfl, ⟨rfl, ⟨rfl, trivial⟩⟩⟩⟩⟩ (ih h)
        · have h := iq c13 h
          refine aw_iload eX6_mending_62 rfl (aw_goto eX6_mending_64 (aw_istore_nY rfl eX6_mending_68 (by decide) rfl (ls' := [some (aR 6 0), some (aI x1), some (aI x4), some (aI x3), some (aI x4), some (aI x5_12)]) rfl (aw_iload eX6_mending_69 rfl (aw_iload_n eX6_mending_71 rfl (aw_icmp_le eX6_mending_72 (fun c17 => ?_) (fun c17 => ?_))))))
          · have h := ip c17 h
            obtain ⟨x4_18, ex4_18, h⟩ := lt_e h
            refine aw_iload_n eX6_mending_80 rfl (aw_istore_nY rfl eX6_mending_81 (by decide) rfl (ls' := [some (aR 6 0), some (aI x1), some (aI x4), some (aI x3), some (aI x4), some (aI x5_12)]) rfl (aw_iincY (iinc_k k_iconst_1 ex4_18) eX6_mending_82 rfl (by decide) rfl (ls' := [some (aR 6 0), some (aI x1), some (aI x4), some (aI x3), some (aI x4_18), some (aI x5_12)]) rfl (aw_goto eX6_mending_85 ?_)))
            exact aw_sub (ls' := [some (aR 6 0), some (aI x1), some (aI x4), some (aI x3), some (aI x4_18), none]) ⟨rfl, ⟨rfl, ⟨rfl, ⟨rfl, ⟨rfl, trivial⟩⟩⟩⟩⟩ (ih h)
          · have h := iq c17 h
            obtain ⟨x4_19, ex4_19, h⟩ := lt_e h
            refine aw_iload eX6_mending_75 rfl (aw_goto eX6_mending_77 (aw_istore_nY rfl eX6_mending_81 (by decide) rfl (ls' := [some (aR 6 0), some (aI x1), some (aI x4), some (aI x5_12), some (aI x4), some (aI x5_12)]) rfl (aw_iincY (iinc_k k_iconst_1 ex4_19) eX6_mending_82 rfl (by decide) rfl (ls' := [some (aR 6 0), some (aI x1), some (aI x4), some (aI x5_12), some (aI x4_19), some (aI x5_12)]) rfl (aw_goto eX6_mending_85 ?_))))
            exact aw_sub (ls' := [some (aR 6 0), some (aI x1), some (aI x4), some (aI x5_12), some (aI x4_19), none]) ⟨rfl, ⟨rfl, ⟨rfl, ⟨rfl, ⟨rfl, trivial⟩⟩⟩⟩⟩ (ih h)
def D_X6_mending (w : Wd) (x1 : Int32) : Option (Int32 × Wd) := D_X6_mending_9 fuelZ x1 ((-9)) ((-9)) 0 w
set_option maxHeartbeats 4000000 in
set_option maxRecDepth 100000 in
theorem A_X6_mending {X : XS} {w : Wd} {x1 : Int32} {r : Int32 × Wd} (h : D_X6_mending w x1 = some r) : AW 4 X mX6_mending 0 (entA 6 [aR 6 0, aI x1]) [] w (PI r.1 r.2) := by
  show AW _ _ _ _ [some (aR 6 0), some (aI x1), none, none, none, none] _ _ _
  unfold D_X6_mending at h
  refine aw_bipush eX6_mending_0 k_bipush_m9 (aw_istore_nY rfl eX6_mending_2 (by decide) rfl (ls' := [some (aR 6 0), some (aI x1), some (aI ((-9))), none, none, none]) rfl (aw_bipush eX6_mending_3 k_bipush_m9 (aw_istore_nY rfl eX6_mending_5 (by decide) rfl (ls' := [some (aR 6 0), some (aI x1), some (aI ((-9))), some (aI ((-9))), none, none]) rfl (aw_iconst eX6_mending_6 k_iconst_0 (aw_istoreY rfl eX6_mending_7 (by decide) rfl (ls' := [some (aR 6 0), some (aI x1), some (aI ((-9))), some (aI ((-9))), some (aI 0), none]) rfl ?_)))))
  exact A_X6_mending_9 fuelZ h
def D_X6_tenTo_4 : Nat → Int32 → Int32 → Int32 → Option (Int32)
  | 0, _, _, _ => none
  | n + 1, x0, x1, x2 => if x0 ≤ x2 then (some (x1)) else (lt (x1 * (10 : Int32)) fun x1_2 => lt (x2 + 1) fun x2_3 => D_X6_tenTo_4 n x0 x1_2 x2_3)
set_option maxHeartbeats 4000000 in
set_option maxRecDepth 100000 in
theorem A_X6_tenTo_4 {X : XS} {w : Wd} : ∀ (nn : Nat) {x0 : Int32} {x1 : Int32} {x2 : Int32} {r : Int32}, D_X6_tenTo_4 nn x0 x1 x2 = some r → AW 0 X mX6_tenTo 4 [some (aI x0), some (aI x1), some (aI x2)] [] w (PI r w) := by
  intro nn
  induction nn with
  | zero => intros; rename_i h; cases h
  | succ n ih =>
    intro x0 x1 x2 r h
    rw [D_X6_tenTo_4] at h
    refine aw_iload_n eX6_tenTo_4 rfl (aw_iload_n eX6_tenTo_5 rfl (aw_icmp_ge eX6_tenTo_6 (fun c1 => ?_) (fun c1 => ?_)))
    · have h := ip c1 h
      exact aw_iload_n eX6_tenTo_20 rfl (aw_iret eX6_tenTo_21 rfl (pI_p h))
    · have h := iq c1 h
      obtain ⟨x1_2, ex1_2, h⟩ := lt_e h
      obtain ⟨x2_3, ex2_3, h⟩ := lt_e h
      refine aw_iload_n eX6_tenTo_9 rfl (aw_bipush eX6_tenTo_10 k_bipush_10 (aw_imul eX6_tenTo_12 (aw_istore_nY ex1_2 eX6_tenTo_13 (by decide) rfl (ls' := [some (aI x0), some (aI x1_2), some (aI x2)]) rfl (aw_iincY (iinc_k k_iconst_1 ex2_3) eX6_tenTo_14 rfl (by decide) rfl (ls' := [some (aI x0), some (aI x1_2), some (aI x2_3)]) rfl (aw_goto eX6_tenTo_17 ?_)))))
      exact ih h
def D_X6_tenTo (x0 : Int32) : Option (Int32) := D_X6_tenTo_4 fuelZ x0 1 0
set_option maxHeartbeats 4000000 in
set_option maxRecDepth 100000 in
theorem A_X6_tenTo {X : XS} {w : Wd} {x0 : Int32} {r : Int32} (h : D_X6_tenTo x0 = some r) : AW 0 X mX6_tenTo 0 (entA 3 [aI x0]) [] w (PI r w) := by
  show AW _ _ _ _ [some (aI x0), none, none] _ _ _
  unfold D_X6_tenTo at h
  refine aw_iconst eX6_tenTo_0 k_iconst_1 (aw_istore_nY rfl eX6_tenTo_1 (by decide) rfl (ls' := [some (aI x0), some (aI 1), none]) rfl (aw_iconst eX6_tenTo_2 k_iconst_0 (aw_istore_nY rfl eX6_tenTo_3 (by decide) rfl (ls' := [some (aI x0), some (aI 1), some (aI 0)]) rfl ?_)))
  exact A_X6_tenTo_4 fuelZ h
def D_X6_judge_37 : Nat → Int32 → Int32 → Int32 → Wd → Option (Int32 × Wd)
  | 0, _, _, _, _ => none
  | n + 1, x1, x2, x3, w => if x1 ≤ x3 then (some ((-9), w)) else ((D_X6_tenTo ((x1 - (1 : Int32)) - x3)).bind fun q8 => if ¬ q8 = 0 then lt (((x2 / q8) - (x2 / q8) / (10 : Int32) * (10 : Int32)) - (1 : Int32)) fun x4_10 => (D_X6_isWedding w x4_10).bind fun q11 => if q11 = 0 then (some (x3, w)) else ((D_X6_wedOn w 1 x4_10).bind fun q13 => if q13.1 = 0 then (some (x3, q13.2)) else (lt (x3 + 1) fun x3_15 => D_X6_judge_37 n x1 x2 x3_15 q13.2)) else none)
set_option maxHeartbeats 4000000 in
set_option maxRecDepth 100000 in
theorem A_X6_judge_37 {X : XS} : ∀ (nn : Nat) {x1 : Int32} {x2 : Int32} {x3 : Int32} {w : Wd} {r : Int32 × Wd}, D_X6_judge_37 nn x1 x2 x3 w = some r → AW 4 X mX6_judge 37 [some (aR 6 0), some (aI x1), some (aI x2), some (aI x3), none] [] w (PI r.1 r.2) := by
  intro nn
  induction nn with
  | zero => intros; rename_i h; cases h
  | succ n ih =>
    intro x1 x2 x3 w r h
    rw [D_X6_judge_37] at h
    refine aw_iload_n eX6_judge_37 rfl (aw_iload_n eX6_judge_38 rfl (aw_icmp_ge eX6_judge_39 (fun c7 => ?_) (fun c7 => ?_)))
    · have h := ip c7 h
      exact aw_bipush eX6_judge_86 k_bipush_m9 (aw_iret eX6_judge_88 rfl (pI_i h))
    · have h := iq c7 h
      obtain ⟨q8, hq8, h⟩ := bd h
      obtain ⟨hc9, h⟩ := ck h
      obtain ⟨x4_10, ex4_10, h⟩ := lt_e h
      obtain ⟨q11, hq11, h⟩ := bd h
      refine aw_iload_n eX6_judge_42 rfl (aw_iload_n eX6_judge_43 rfl (aw_iconst eX6_judge_44 k_iconst_1 (aw_isub eX6_judge_45 (aw_iload_n eX6_judge_46 rfl (aw_isub eX6_judge_47 (aw_callSI (N := mX6_tenTo) [aI ((x1 - (1 : Int32)) - x3)] eX6_judge_48 tw_3_20 msX6_tenTo (by decide) rfl rfl (Nat.le_of_ble_eq_true rfl) (A_X6_tenTo hq8) (aw_idiv eX6_judge_51 hc9 (aw_bipush eX6_judge_52 k_bipush_10 (aw_irem eX6_judge_54 (by decide) (aw_iconst eX6_judge_55 k_iconst_1 (aw_isub eX6_judge_56 (aw_istoreY ex4_10 eX6_judge_57 (by decide) rfl (ls' := [some (aR 6 0), some (aI x1), some (aI x2), some (aI x3), some (aI x4_10)]) rfl (aw_aload_n eX6_judge_59 rfl (aw_iload eX6_judge_60 rfl (aw_callVI (N := mX6_isWedding) [aI x4_10] eX6_judge_62 tw_2_143 miX6_isWedding (by decide) (by decide) (by decide) rfl rfl (Nat.le_of_ble_eq_true rfl) (A_X6_isWedding hq11) (aw_if_eq eX6_judge_65 (fun c12 => ?_) (fun c12 => ?_)))))))))))))))))
      · have h := ip c12 h
        exact aw_iload_n eX6_judge_78 rfl (aw_iret eX6_judge_79 rfl (pI_i h))
      · have h := iq c12 h
        obtain ⟨q13, hq13, h⟩ := bd h
        refine aw_aload_n eX6_judge_68 rfl (aw_iconst eX6_judge_69 k_iconst_1 (aw_iload eX6_judge_70 rfl (aw_callVI (N := mX6_wedOn) [aI 1, aI x4_10] eX6_judge_72 tw_2_186 miX6_wedOn (by decide) (by decide) (by decide) rfl rfl (Nat.le_of_ble_eq_true rfl) (A_X6_wedOn hq13) (aw_if_ne eX6_judge_75 (fun c14 => ?_) (fun c14 => ?_)))))
        · have h := iq c14 h
          obtain ⟨x3_15, ex3_15, h⟩ := lt_e h
          refine aw_iincY (iinc_k k_iconst_1 ex3_15) eX6_judge_80 rfl (by decide) rfl (ls' := [some (aR 6 0), some (aI x1), some (aI x2), some (aI x3_15), some (aI x4_10)]) rfl (aw_goto eX6_judge_83 ?_)
          exact aw_sub (ls' := [some (aR 6 0), some (aI x1), some (aI x2), some (aI x3_15), none]) ⟨rfl, ⟨rfl, ⟨rfl, ⟨rfl, trivial⟩⟩⟩⟩ (ih h)
        · have h := ip c14 h
          exact aw_iload_n eX6_judge_78 rfl (aw_iret eX6_judge_79 rfl (pI_i h))
def D_X6_judge (w : Wd) (x1 : Int32) (x2 : Int32) : Option (Int32 × Wd) := (D_X6_in (Int32.toInt64 x1) 1 6).bind fun q1 => if q1 = 0 then (some ((-2), w)) else ((D_X6_tenTo x1).bind fun q3 => (D_X6_in (Int32.toInt64 x2) 0 (Int32.toInt64 (q3 - (1 : Int32)))).bind fun q4 => if q4 = 0 then (some ((-2), w)) else ((D_X6_layTrial w).bind fun q6 => D_X6_judge_37 fuelZ x1 x2 0 q6))
set_option maxHeartbeats 4000000 in
set_option maxRecDepth 100000 in
theorem A_X6_judge {X : XS} {w : Wd} {x1 : Int32} {x2 : Int32} {r : Int32 × Wd} (h : D_X6_judge w x1 x2 = some r) : AW 4 X mX6_judge 0 (entA 5 [aR 6 0, aI x1, aI x2]) [] w (PI r.1 r.2) := by
  show AW _ _ _ _ [some (aR 6 0), some (aI x1), some (aI x2), none, none] _ _ _
  unfold D_X6_judge at h
  obtain ⟨q1, hq1, h⟩ := bd h
  refine aw_iload_n eX6_judge_0 rfl (aw_i2l eX6_judge_1 (aw_lconst eX6_judge_2 k_lconst_1 (aw_ldc2 eX6_judge_3 tw_3_19 (aw_callSI (N := mX6_in) [aL (Int32.toInt64 x1), aL 1, aL 6] eX6_judge_6 tw_2_116 msX6_in (by decide) rfl rfl (Nat.le_of_ble_eq_true rfl) (A_X6_in hq1) (aw_if_eq eX6_judge_9 (fun c2 => ?_) (fun c2 => ?_))))))
  · have h := ip c2 h
    exact aw_bipush eX6_judge_28 k_bipush_m2 (aw_iret eX6_judge_30 rfl (pI_i h))
  · have h := iq c2 h
    obtain ⟨q3, hq3, h⟩ := bd h
    obtain ⟨q4, hq4, h⟩ := bd h
    refine aw_iload_n eX6_judge_12 rfl (aw_i2l eX6_judge_13 (aw_lconst eX6_judge_14 k_lconst_0 (aw_iload_n eX6_judge_15 rfl (aw_callSI (N := mX6_tenTo) [aI x1] eX6_judge_16 tw_3_20 msX6_tenTo (by decide) rfl rfl (Nat.le_of_ble_eq_true rfl) (A_X6_tenTo hq3) (aw_iconst eX6_judge_19 k_iconst_1 (aw_isub eX6_judge_20 (aw_i2l eX6_judge_21 (aw_callSI (N := mX6_in) [aL (Int32.toInt64 x2), aL 0, aL (Int32.toInt64 (q3 - (1 : Int32)))] eX6_judge_22 tw_2_116 msX6_in (by decide) rfl rfl (Nat.le_of_ble_eq_true rfl) (A_X6_in hq4) (aw_if_ne eX6_judge_25 (fun c5 => ?_) (fun c5 => ?_))))))))))
    · have h := iq c5 h
      obtain ⟨q6, hq6, h⟩ := bd h
      refine aw_aload_n eX6_judge_31 rfl (aw_callVV (N := mX6_layTrial) [] eX6_judge_32 tw_2_238 miX6_layTrial (by decide) (by decide) (by decide) rfl rfl (Nat.le_of_ble_eq_true rfl) (A_X6_layTrial hq6) (aw_iconst eX6_judge_35 k_iconst_0 (aw_istore_nY rfl eX6_judge_36 (by decide) rfl (ls' := [some (aR 6 0), some (aI x1), some (aI x2), some (aI 0), none]) rfl ?_)))
      exact A_X6_judge_37 fuelZ h
    · have h := ip c5 h
      exact aw_bipush eX6_judge_28 k_bipush_m2 (aw_iret eX6_judge_30 rfl (pI_i h))
def D_X6_later_31 (w : Wd) : Nat → Int32 → Int32 → Int32 → Option (Int32)
  | 0, _, _, _ => none
  | n + 1, x1, x2, x3 => if 10 ≤ x3 then (some (x2)) else ((D_X6_begins w 0 x1 (w.1 25 0 1) x3 0).bind fun q6 => if q6 = ((-9)) then (lt (x3 + 1) fun x3_8 => D_X6_later_31 w n x1 x2 x3_8) else (lt (x3 + 1) fun x3_9 => D_X6_later_31 w n x1 x3 x3_9))
set_option maxHeartbeats 4000000 in
set_option maxRecDepth 100000 in
theorem A_X6_later_31 {X : XS} {w : Wd} : ∀ (nn : Nat) {x1 : Int32} {x2 : Int32} {x3 : Int32} {r : Int32}, D_X6_later_31 w nn x1 x2 x3 = some r → AW 2 X mX6_later 31 [some (aR 6 0), some (aI x1), some (aI x2), some (aI x3)] [] w (PI r w) := by
  intro nn
  induction nn with
  | zero => intros; rename_i h; cases h
  | succ n ih =>
    intro x1 x2 x3 r h
    rw [D_X6_later_31] at h
    refine aw_iload_n eX6_later_31 rfl (aw_bipush eX6_later_32 k_bipush_10 (aw_icmp_ge eX6_later_34 (fun c5 => ?_) (fun c5 => ?_)))
    · have h := ip c5 h
      exact aw_iload_n eX6_later_68 rfl (aw_iret eX6_later_69 rfl (pI_p h))
    · have h := iq c5 h
      obtain ⟨q6, hq6, h⟩ := bd h
      refine aw_aload_n eX6_later_37 rfl (aw_iconst eX6_later_38 k_iconst_0 (aw_iload_n eX6_later_39 rfl (aw_aload_n eX6_later_40 rfl (aw_getf (k := 6) (f := 7) eX6_later_41 tw_2_54 ⟨by decide, by decide⟩ (by decide) (v := aR 25 0) rfl (aw_iconst eX6_later_44 k_iconst_1 (aw_ialdK (n := 16) eX6_later_45 rfl (by decide) (by decide) (j := 1) (by decide) (aw_iload_n eX6_later_46 rfl (aw_iconst eX6_later_47 k_iconst_0 (aw_callVI (N := mX6_begins) [aI 0, aI x1, aI (w.1 25 0 1), aI x3, aI 0] eX6_later_48 tw_2_154 miX6_begins (by decide) (by decide) (by decide) rfl rfl (Nat.le_of_ble_eq_true rfl) (A_X6_begins hq6) (aw_bipush eX6_later_51 k_bipush_m9 (aw_icmp_eq eX6_later_53 (fun c7 => ?_) (fun c7 => ?_))))))))))))
      · have h := ip c7 h
        obtain ⟨x3_8, ex3_8, h⟩ := lt_e h
        refine aw_iload_n eX6_later_60 rfl (aw_istore_nY rfl eX6_later_61 (by decide) rfl (ls' := [some (aR 6 0), some (aI x1), some (aI x2), some (aI x3)]) rfl (aw_iincY (iinc_k k_iconst_1 ex3_8) eX6_later_62 rfl (by decide) rfl (ls' := [some (aR 6 0), some (aI x1), some (aI x2), some (aI x3_8)]) rfl (aw_goto eX6_later_65 ?_)))
        exact ih h
      · have h := iq c7 h
        obtain ⟨x3_9, ex3_9, h⟩ := lt_e h
        refine aw_iload_n eX6_later_56 rfl (aw_goto eX6_later_57 (aw_istore_nY rfl eX6_later_61 (by decide) rfl (ls' := [some (aR 6 0), some (aI x1), some (aI x3), some (aI x3)]) rfl (aw_iincY (iinc_k k_iconst_1 ex3_9) eX6_later_62 rfl (by decide) rfl (ls' := [some (aR 6 0), some (aI x1), some (aI x3), some (aI x3_9)]) rfl (aw_goto eX6_later_65 ?_))))
        exact ih h
def D_X6_later (w : Wd) (x1 : Int32) : Option (Int32) := (D_X6_isWedding w x1).bind fun q1 => if q1 = 0 then (some ((-1))) else ((D_X6_has (w.1 25 0 2) x1).bind fun q3 => if q3 = 0 then (D_X6_later_31 w fuelZ x1 ((-9)) 0) else (some ((-3))))
set_option maxHeartbeats 4000000 in
set_option maxRecDepth 100000 in
theorem A_X6_later {X : XS} {w : Wd} {x1 : Int32} {r : Int32} (h : D_X6_later w x1 = some r) : AW 2 X mX6_later 0 (entA 4 [aR 6 0, aI x1]) [] w (PI r w) := by
  show AW _ _ _ _ [some (aR 6 0), some (aI x1), none, none] _ _ _
  unfold D_X6_later at h
  obtain ⟨q1, hq1, h⟩ := bd h
  refine aw_aload_n eX6_later_0 rfl (aw_iload_n eX6_later_1 rfl (aw_callVI (N := mX6_isWedding) [aI x1] eX6_later_2 tw_2_143 miX6_isWedding (by decide) (by decide) (by decide) rfl rfl (Nat.le_of_ble_eq_true rfl) (A_X6_isWedding hq1) (aw_if_ne eX6_later_5 (fun c2 => ?_) (fun c2 => ?_))))
  · have h := iq c2 h
    obtain ⟨q3, hq3, h⟩ := bd h
    refine aw_aload_n eX6_later_10 rfl (aw_getf (k := 6) (f := 7) eX6_later_11 tw_2_54 ⟨by decide, by decide⟩ (by decide) (v := aR 25 0) rfl (aw_iconst eX6_later_14 k_iconst_2 (aw_ialdK (n := 16) eX6_later_15 rfl (by decide) (by decide) (j := 2) (by decide) (aw_iload_n eX6_later_16 rfl (aw_callSI (N := mX6_has) [aI (w.1 25 0 2), aI x1] eX6_later_17 tw_2_151 msX6_has (by decide) rfl rfl (Nat.le_of_ble_eq_true rfl) (A_X6_has hq3) (aw_if_eq eX6_later_20 (fun c4 => ?_) (fun c4 => ?_)))))))
    · have h := ip c4 h
      refine aw_bipush eX6_later_26 k_bipush_m9 (aw_istore_nY rfl eX6_later_28 (by decide) rfl (ls' := [some (aR 6 0), some (aI x1), some (aI ((-9))), none]) rfl (aw_iconst eX6_later_29 k_iconst_0 (aw_istore_nY rfl eX6_later_30 (by decide) rfl (ls' := [some (aR 6 0), some (aI x1), some (aI ((-9))), some (aI 0)]) rfl ?_)))
      exact A_X6_later_31 fuelZ h
    · have h := iq c4 h
      exact aw_bipush eX6_later_23 k_bipush_m3 (aw_iret eX6_later_25 rfl (pI_p h))
  · have h := ip c2 h
    exact aw_iconst eX6_later_8 k_iconst_m1 (aw_iret eX6_later_9 rfl (pI_p h))
def D_X6_see (w : Wd) (x1 : Int32) (x2 : Int32) : Option (Int32 × Wd) := (D_X6_isChurch x2).bind fun q1 => if q1 = 0 then (some ((-1), w)) else ((D_X6_in (Int32.toInt64 x1) 0 6).bind fun q3 => if q3 = 0 then (some ((-2), w)) else (if (w.1 6 0 14) = 6 then (some ((-4), w)) else (if inB (w.1 6 0 14) 6 then lt (wS w 29 0 (Int32.toNatClampNeg (w.1 6 0 14)) x1) fun w7 => if inB (w7.1 6 0 14) 6 then lt (wS w7 30 0 (Int32.toNatClampNeg (w7.1 6 0 14)) x2) fun w9 => lt (wS w9 6 0 14 ((w9.1 6 0 14) + (1 : Int32))) fun w10 => some (w10.1 6 0 14, w10) else none else none)))
set_option maxHeartbeats 4000000 in
set_option maxRecDepth 100000 in
theorem A_X6_see {X : XS} {w : Wd} {x1 : Int32} {x2 : Int32} {r : Int32 × Wd} (h : D_X6_see w x1 x2 = some r) : AW 2 X mX6_see 0 (entA 3 [aR 6 0, aI x1, aI x2]) [] w (PI r.1 r.2) := by
  show AW _ _ _ _ [some (aR 6 0), some (aI x1), some (aI x2)] _ _ _
  unfold D_X6_see at h
  obtain ⟨q1, hq1, h⟩ := bd h
  refine aw_iload_n eX6_see_0 rfl (aw_callSI (N := mX6_isChurch) [aI x2] eX6_see_1 tw_2_175 msX6_isChurch (by decide) rfl rfl (Nat.le_of_ble_eq_true rfl) (A_X6_isChurch hq1) (aw_if_ne eX6_see_4 (fun c2 => ?_) (fun c2 => ?_)))
  · have h := iq c2 h
    obtain ⟨q3, hq3, h⟩ := bd h
    refine aw_iload_n eX6_see_9 rfl (aw_i2l eX6_see_10 (aw_lconst eX6_see_11 k_lconst_0 (aw_ldc2 eX6_see_12 tw_3_19 (aw_callSI (N := mX6_in) [aL (Int32.toInt64 x1), aL 0, aL 6] eX6_see_15 tw_2_116 msX6_in (by decide) rfl rfl (Nat.le_of_ble_eq_true rfl) (A_X6_in hq3) (aw_if_ne eX6_see_18 (fun c4 => ?_) (fun c4 => ?_))))))
    · have h := iq c4 h
      refine aw_aload_n eX6_see_24 rfl (aw_getf (k := 6) (f := 14) eX6_see_25 tw_2_61 ⟨by decide, by decide⟩ (by decide) (v := aI (w.1 6 0 14)) rfl (aw_bipush eX6_see_28 k_bipush_6 (aw_icmp_ne eX6_see_30 (fun c5 => ?_) (fun c5 => ?_))))
      · have h := iq c5 h
        obtain ⟨hc6, h⟩ := ck h
        obtain ⟨w7, ew7, h⟩ := lt_e h
        obtain ⟨hc8, h⟩ := ck h
        obtain ⟨w9, ew9, h⟩ := lt_e h
        obtain ⟨w10, ew10, h⟩ := lt_e h
        exact aw_aload_n eX6_see_36 rfl (aw_getf (k := 6) (f := 15) eX6_see_37 tw_2_62 ⟨by decide, by decide⟩ (by decide) (v := aR 29 0) rfl (aw_aload_n eX6_see_40 rfl (aw_getf (k := 6) (f := 14) eX6_see_41 tw_2_61 ⟨by decide, by decide⟩ (by decide) (v := aI (w.1 6 0 14)) rfl (aw_iload_n eX6_see_44 rfl (aw_iastK (n := 6) eX6_see_45 rfl (by decide) hc6 (j := (Int32.toNatClampNeg (w.1 6 0 14))) rfl (aw_wn ew7 (aw_aload_n eX6_see_46 rfl (aw_getf (k := 6) (f := 16) eX6_see_47 tw_2_63 ⟨by decide, by decide⟩ (by decide) (v := aR 30 0) rfl (aw_aload_n eX6_see_50 rfl (aw_getf (k := 6) (f := 14) eX6_see_51 tw_2_61 ⟨by decide, by decide⟩ (by decide) (v := aI (w7.1 6 0 14)) rfl (aw_iload_n eX6_see_54 rfl (aw_iastK (n := 6) eX6_see_55 rfl (by decide) hc8 (j := (Int32.toNatClampNeg (w7.1 6 0 14))) rfl (aw_wn ew9 (aw_aload_n eX6_see_56 rfl (aw_dupR eX6_see_57 (aw_getf (k := 6) (f := 14) eX6_see_58 tw_2_61 ⟨by decide, by decide⟩ (by decide) (v := aI (w9.1 6 0 14)) rfl (aw_iconst eX6_see_61 k_iconst_1 (aw_iadd eX6_see_62 (aw_putI (k := 6) (f := 14) eX6_see_63 tw_2_61 ⟨by decide, by decide⟩ (by decide) ⟨rfl, rfl, rfl, rfl⟩ (aw_wn ew10 (aw_aload_n eX6_see_66 rfl (aw_getf (k := 6) (f := 14) eX6_see_67 tw_2_61 ⟨by decide, by decide⟩ (by decide) (v := aI (w10.1 6 0 14)) rfl (aw_iret eX6_see_70 rfl (pI_i h))))))))))))))))))))))))
      · have h := ip c5 h
        exact aw_bipush eX6_see_33 k_bipush_m4 (aw_iret eX6_see_35 rfl (pI_i h))
    · have h := ip c4 h
      exact aw_bipush eX6_see_21 k_bipush_m2 (aw_iret eX6_see_23 rfl (pI_i h))
  · have h := ip c2 h
    exact aw_iconst eX6_see_7 k_iconst_m1 (aw_iret eX6_see_8 rfl (pI_i h))
def D_X6_unsee (w : Wd) : Option (Int32 × Wd) := lt (w.1 6 0 14) fun x1_1 => lt (wS w 6 0 14 0) fun w2 => some (x1_1, w2)
set_option maxHeartbeats 4000000 in
set_option maxRecDepth 100000 in
theorem A_X6_unsee {X : XS} {w : Wd} {r : Int32 × Wd} (h : D_X6_unsee w = some r) : AW 0 X mX6_unsee 0 (entA 2 [aR 6 0]) [] w (PI r.1 r.2) := by
  show AW _ _ _ _ [some (aR 6 0), none] _ _ _
  unfold D_X6_unsee at h
  obtain ⟨x1_1, ex1_1, h⟩ := lt_e h
  obtain ⟨w2, ew2, h⟩ := lt_e h
  exact aw_aload_n eX6_unsee_0 rfl (aw_getf (k := 6) (f := 14) eX6_unsee_1 tw_2_61 ⟨by decide, by decide⟩ (by decide) (v := aI (w.1 6 0 14)) rfl (aw_istore_nY ex1_1 eX6_unsee_4 (by decide) rfl (ls' := [some (aR 6 0), some (aI x1_1)]) rfl (aw_aload_n eX6_unsee_5 rfl (aw_iconst eX6_unsee_6 k_iconst_0 (aw_putI (k := 6) (f := 14) eX6_unsee_7 tw_2_61 ⟨by decide, by decide⟩ (by decide) ⟨rfl, rfl, rfl, rfl⟩ (aw_wn ew2 (aw_iload_n eX6_unsee_10 rfl (aw_iret eX6_unsee_11 rfl (pI_i h)))))))))
def D_X6_isSeen_4 (w : Wd) : Nat → Int32 → Int32 → Int32 → Option (Int32)
  | 0, _, _, _ => none
  | n + 1, x1, x2, x3 => if (w.1 6 0 14) ≤ x3 then (if x2 = 0 ∨ x2 = 1 then some (x2) else none) else (if x2 = 0 then (lt (x3 + 1) fun x3_4 => D_X6_isSeen_4 w n x1 0 x3_4) else (if inB x3 6 then if (w.1 29 0 (Int32.toNatClampNeg x3)) = x1 then (if inB x3 6 then if (w.1 25 0 9) = (w.1 30 0 (Int32.toNatClampNeg x3)) then (lt (x3 + 1) fun x3_11 => D_X6_isSeen_4 w n x1 1 x3_11) else (lt (x3 + 1) fun x3_10 => D_X6_isSeen_4 w n x1 0 x3_10) else none) else (lt (x3 + 1) fun x3_7 => D_X6_isSeen_4 w n x1 1 x3_7) else none))
set_option maxHeartbeats 4000000 in
set_option maxRecDepth 100000 in
theorem A_X6_isSeen_4 {X : XS} {w : Wd} : ∀ (nn : Nat) {x1 : Int32} {x2 : Int32} {x3 : Int32} {r : Int32}, D_X6_isSeen_4 w nn x1 x2 x3 = some r → AW 0 X mX6_isSeen 4 [some (aR 6 0), some (aI x1), some (aI x2), some (aI x3)] [] w (PI r w) := by
  intro nn
  induction nn with
  | zero => intros; rename_i h; cases h
  | succ n ih =>
    intro x1 x2 x3 r h
    rw [D_X6_isSeen_4] at h
    refine aw_iload_n eX6_isSeen_4 rfl (aw_aload_n eX6_isSeen_5 rfl (aw_getf (k := 6) (f := 14) eX6_isSeen_6 tw_2_61 ⟨by decide, by decide⟩ (by decide) (v := aI (w.1 6 0 14)) rfl (aw_icmp_ge eX6_isSeen_9 (fun c1 => ?_) (fun c1 => ?_))))
    · have h := ip c1 h
      obtain ⟨hc2, h⟩ := ck h
      exact aw_iload_n eX6_isSeen_54 rfl (aw_zret eX6_isSeen_55 rfl (nar01 hc2) (pI_p h))
    · have h := iq c1 h
      refine aw_iload_n eX6_isSeen_12 rfl (aw_if_eq eX6_isSeen_13 (fun c3 => ?_) (fun c3 => ?_))
      · have h := ip c3 h
        obtain ⟨x3_4, ex3_4, h⟩ := lt_e h
        refine aw_iconst eX6_isSeen_46 k_iconst_0 (aw_istore_nY rfl eX6_isSeen_47 (by decide) rfl (ls' := [some (aR 6 0), some (aI x1), some (aI 0), some (aI x3)]) rfl (aw_iincY (iinc_k k_iconst_1 ex3_4) eX6_isSeen_48 rfl (by decide) rfl (ls' := [some (aR 6 0), some (aI x1), some (aI 0), some (aI x3_4)]) rfl (aw_goto eX6_isSeen_51 ?_)))
        exact ih h
      · have h := iq c3 h
        obtain ⟨hc5, h⟩ := ck h
        refine aw_aload_n eX6_isSeen_16 rfl (aw_getf (k := 6) (f := 15) eX6_isSeen_17 tw_2_62 ⟨by decide, by decide⟩ (by decide) (v := aR 29 0) rfl (aw_iload_n eX6_isSeen_20 rfl (aw_ialdK (n := 6) eX6_isSeen_21 rfl (by decide) hc5 (j := (Int32.toNatClampNeg x3)) rfl (aw_iload_n eX6_isSeen_22 rfl (aw_icmp_ne eX6_isSeen_23 (fun c6 => ?_) (fun c6 => ?_))))))
        · have h := iq c6 h
          obtain ⟨x3_7, ex3_7, h⟩ := lt_e h
          refine aw_iconst eX6_isSeen_42 k_iconst_1 (aw_goto eX6_isSeen_43 (aw_istore_nY rfl eX6_isSeen_47 (by decide) rfl (ls' := [some (aR 6 0), some (aI x1), some (aI 1), some (aI x3)]) rfl (aw_iincY (iinc_k k_iconst_1 ex3_7) eX6_isSeen_48 rfl (by decide) rfl (ls' := [some (aR 6 0), some (aI x1), some (aI 1), some (aI x3_7)]) rfl (aw_goto eX6_isSeen_51 ?_))))
          exact ih h
        · have h := ip c6 h
          obtain ⟨hc8, h⟩ := ck h
          refine aw_aload_n eX6_isSeen_26 rfl (aw_getf (k := 6) (f := 7) eX6_isSeen_27 tw_2_54 ⟨by decide, by decide⟩ (by decide) (v := aR 25 0) rfl (aw_bipush eX6_isSeen_30 k_bipush_9 (aw_ialdK (n := 16) eX6_isSeen_32 rfl (by decide) (by decide) (j := 9) (by decide) (aw_aload_n eX6_isSeen_33 rfl (aw_getf (k := 6) (f := 16) eX6_isSeen_34 tw_2_63 ⟨by decide, by decide⟩ (by decide) (v := aR 30 0) rfl (aw_iload_n eX6_isSeen_37 rfl (aw_ialdK (n := 6) eX6_isSeen_38 rfl (by decide) hc8 (j := (Int32.toNatClampNeg x3)) rfl (aw_icmp_ne eX6_isSeen_39 (fun c9 => ?_) (fun c9 => ?_)))))))))
          · have h := iq c9 h
            obtain ⟨x3_10, ex3_10, h⟩ := lt_e h
            refine aw_iconst eX6_isSeen_46 k_iconst_0 (aw_istore_nY rfl eX6_isSeen_47 (by decide) rfl (ls' := [some (aR 6 0), some (aI x1), some (aI 0), some (aI x3)]) rfl (aw_iincY (iinc_k k_iconst_1 ex3_10) eX6_isSeen_48 rfl (by decide) rfl (ls' := [some (aR 6 0), some (aI x1), some (aI 0), some (aI x3_10)]) rfl (aw_goto eX6_isSeen_51 ?_)))
            exact ih h
          · have h := ip c9 h
            obtain ⟨x3_11, ex3_11, h⟩ := lt_e h
            refine aw_iconst eX6_isSeen_42 k_iconst_1 (aw_goto eX6_isSeen_43 (aw_istore_nY rfl eX6_isSeen_47 (by decide) rfl (ls' := [some (aR 6 0), some (aI x1), some (aI 1), some (aI x3)]) rfl (aw_iincY (iinc_k k_iconst_1 ex3_11) eX6_isSeen_48 rfl (by decide) rfl (ls' := [some (aR 6 0), some (aI x1), some (aI 1), some (aI x3_11)]) rfl (aw_goto eX6_isSeen_51 ?_))))
            exact ih h
def D_X6_isSeen (w : Wd) (x1 : Int32) : Option (Int32) := D_X6_isSeen_4 w fuelZ x1 1 0
set_option maxHeartbeats 4000000 in
set_option maxRecDepth 100000 in
theorem A_X6_isSeen {X : XS} {w : Wd} {x1 : Int32} {r : Int32} (h : D_X6_isSeen w x1 = some r) : AW 0 X mX6_isSeen 0 (entA 4 [aR 6 0, aI x1]) [] w (PI r w) := by
  show AW _ _ _ _ [some (aR 6 0), some (aI x1), none, none] _ _ _
  unfold D_X6_isSeen at h
  refine aw_iconst eX6_isSeen_0 k_iconst_1 (aw_istore_nY rfl eX6_isSeen_1 (by decide) rfl (ls' := [some (aR 6 0), some (aI x1), some (aI 1), none]) rfl (aw_iconst eX6_isSeen_2 k_iconst_0 (aw_istore_nY rfl eX6_isSeen_3 (by decide) rfl (ls' := [some (aR 6 0), some (aI x1), some (aI 1), some (aI 0)]) rfl ?_)))
  exact A_X6_isSeen_4 fuelZ h
def D_X6_rowsOf_4 : Nat → Int32 → Int32 → Int32 → Int32 → Option (Int32)
  | 0, _, _, _, _ => none
  | n + 1, x0, x1, x2, x3 => if x1 ≤ x3 then (some (x2)) else (lt (x2 * (x0 - x3)) fun x2_2 => lt (x3 + 1) fun x3_3 => D_X6_rowsOf_4 n x0 x1 x2_2 x3_3)
set_option maxHeartbeats 4000000 in
set_option maxRecDepth 100000 in
theorem A_X6_rowsOf_4 {X : XS} {w : Wd} : ∀ (nn : Nat) {x0 : Int32} {x1 : Int32} {x2 : Int32} {x3 : Int32} {r : Int32}, D_X6_rowsOf_4 nn x0 x1 x2 x3 = some r → AW 0 X mX6_rowsOf 4 [some (aI x0), some (aI x1), some (aI x2), some (aI x3)] [] w (PI r w) := by
  intro nn
  induction nn with
  | zero => intros; rename_i h; cases h
  | succ n ih =>
    intro x0 x1 x2 x3 r h
    rw [D_X6_rowsOf_4] at h
    refine aw_iload_n eX6_rowsOf_4 rfl (aw_iload_n eX6_rowsOf_5 rfl (aw_icmp_ge eX6_rowsOf_6 (fun c1 => ?_) (fun c1 => ?_)))
    · have h := ip c1 h
      exact aw_iload_n eX6_rowsOf_21 rfl (aw_iret eX6_rowsOf_22 rfl (pI_p h))
    · have h := iq c1 h
      obtain ⟨x2_2, ex2_2, h⟩ := lt_e h
      obtain ⟨x3_3, ex3_3, h⟩ := lt_e h
      refine aw_iload_n eX6_rowsOf_9 rfl (aw_iload_n eX6_rowsOf_10 rfl (aw_iload_n eX6_rowsOf_11 rfl (aw_isub eX6_rowsOf_12 (aw_imul eX6_rowsOf_13 (aw_istore_nY ex2_2 eX6_rowsOf_14 (by decide) rfl (ls' := [some (aI x0), some (aI x1), some (aI x2_2), some (aI x3)]) rfl (aw_iincY (iinc_k k_iconst_1 ex3_3) eX6_rowsOf_15 rfl (by decide) rfl (ls' := [some (aI x0), some (aI x1), some (aI x2_2), some (aI x3_3)]) rfl (aw_goto eX6_rowsOf_18 ?_)))))))
      exact ih h
def D_X6_rowsOf (x0 : Int32) (x1 : Int32) : Option (Int32) := D_X6_rowsOf_4 fuelZ x0 x1 1 0
set_option maxHeartbeats 4000000 in
set_option maxRecDepth 100000 in
theorem A_X6_rowsOf {X : XS} {w : Wd} {x0 : Int32} {x1 : Int32} {r : Int32} (h : D_X6_rowsOf x0 x1 = some r) : AW 0 X mX6_rowsOf 0 (entA 4 [aI x0, aI x1]) [] w (PI r w) := by
  show AW _ _ _ _ [some (aI x0), some (aI x1), none, none] _ _ _
  unfold D_X6_rowsOf at h
  refine aw_iconst eX6_rowsOf_0 k_iconst_1 (aw_istore_nY rfl eX6_rowsOf_1 (by decide) rfl (ls' := [some (aI x0), some (aI x1), some (aI 1), none]) rfl (aw_iconst eX6_rowsOf_2 k_iconst_0 (aw_istore_nY rfl eX6_rowsOf_3 (by decide) rfl (ls' := [some (aI x0), some (aI x1), some (aI 1), some (aI 0)]) rfl ?_)))
  exact A_X6_rowsOf_4 fuelZ h
def D_X6_rowBy_90 (k40 : Int32 → Int32 → Int32 → Int32 → Int32 → Int32 → Int32 → Wd → Option (Int32 × Wd)) : Nat → Int32 → Int32 → Int32 → Int32 → Int32 → Int32 → Int32 → Int32 → Int32 → Wd → Option (Int32 × Wd)
  | 0, _, _, _, _, _, _, _, _, _, _ => none
  | n + 1, x2, x3, x4, x5, x6, x8, x10, x11, x12, w => if (w.1 6 0 0) ≤ x12 then (lt (x3 &&& (((1 : Int32) <<< (x11 &&& 31)) ^^^ ((-1)))) fun x3_16 => lt (x6 ||| ((1 : Int32) <<< (x11 &&& 31))) fun x6_17 => (D_X6_wedOn w 1 x11).bind fun q18 => if q18.1 = 0 then (lt (x8 + 1) fun x8_20 => k40 x2 x3_16 x4 x5 x6_17 0 x8_20 q18.2) else ((D_X6_isSeen q18.2 (x8 + (1 : Int32))).bind fun q21 => if q21 = 0 then (lt (x8 + 1) fun x8_23 => k40 x2 x3_16 x4 x5 x6_17 0 x8_23 q18.2) else (lt (x8 + 1) fun x8_24 => k40 x2 x3_16 x4 x5 x6_17 1 x8_24 q18.2))) else ((D_X6_has x3 x12).bind fun q25 => if q25 = 0 then ((D_X6_has x3 x12).bind fun q27 => if q27 = 0 then (lt (x10 - (0 : Int32)) fun x10_29 => lt (x12 + 1) fun x12_30 => D_X6_rowBy_90 k40 n x2 x3 x4 x5 x6 x8 x10_29 x11 x12_30 w) else (lt (x10 - (1 : Int32)) fun x10_31 => lt (x12 + 1) fun x12_32 => D_X6_rowBy_90 k40 n x2 x3 x4 x5 x6 x8 x10_31 x11 x12_32 w)) else (if x10 = 0 then ((D_X6_has x3 x12).bind fun q40 => if q40 = 0 then (lt (x10 - (0 : Int32)) fun x10_42 => lt (x12 + 1) fun x12_43 => D_X6_rowBy_90 k40 n x2 x3 x4 x5 x6 x8 x10_42 x12 x12_43 w) else (lt (x10 - (1 : Int32)) fun x10_44 => lt (x12 + 1) fun x12_45 => D_X6_rowBy_90 k40 n x2 x3 x4 x5 x6 x8 x10_44 x12 x12_45 w)) else ((D_X6_has x3 x12).bind fun q34 => if q34 = 0 then (lt (x10 - (0 : Int32)) fun x10_36 => lt (x12 + 1) fun x12_37 => D_X6_rowBy_90 k40 n x2 x3 x4 x5 x6 x8 x10_36 x11 x12_37 w) else (lt (x10 - (1 : Int32)) fun x10_38 => lt (x12 + 1) fun x12_39 => D_X6_rowBy_90 k40 n x2 x3 x4 x5 x6 x8 x10_38 x11 x12_39 w))))
set_option maxHeartbeats 4000000 in
set_option maxRecDepth 100000 in
theorem A_X6_rowBy_90 {X : XS} {k40 : Int32 → Int32 → Int32 → Int32 → Int32 → Int32 → Int32 → Wd → Option (Int32 × Wd)} (hk40 : ∀ {x2 : Int32} {x3 : Int32} {x4 : Int32} {x5 : Int32} {x6 : Int32} {x7 : Int32} {x8 : Int32} {w : Wd} {r : Int32 × Wd}, k40 x2 x3 x4 x5 x6 x7 x8 w = some r → AW 4 X mX6_rowBy 40 [some (aR 6 0), none, some (aI x2), some (aI x3), some (aI x4), some (aI x5), some (aI x6), some (aI x7), some (aI x8), none, none, none, none] [] w (PI r.1 r.2)) : ∀ (nn : Nat) {x2 : Int32} {x3 : Int32} {x4 : Int32} {x5 : Int32} {x6 : Int32} {x8 : Int32} {x10 : Int32} {x11 : Int32} {x12 : Int32} {w : Wd} {r : Int32 × Wd}, D_X6_rowBy_90 k40 nn x2 x3 x4 x5 x6 x8 x10 x11 x12 w = some r → AW 4 X mX6_rowBy 90 [some (aR 6 0), none, some (aI x2), some (aI x3), some (aI x4), some (aI x5), some (aI x6), none, some (aI x8), none, some (aI x10), some (aI x11), some (aI x12)] [] w (PI r.1 r.2) := by
  intro nn
  induction nn with
  | zero => intros; rename_i h; cases h
  | succ n ih =>
    intro x2 x3 x4 x5 x6 x8 x10 x11 x12 w r h
    rw [D_X6_rowBy_90] at h
    refine aw_iload eX6_rowBy_90 rfl (aw_aload_n eX6_rowBy_92 rfl (aw_getf (k := 6) (f := 0) eX6_rowBy_93 tw_2_47 ⟨by decide, by decide⟩ (by decide) (v := aI (w.1 6 0 0)) rfl (aw_icmp_ge eX6_rowBy_96 (fun c15 => ?_) (fun c15 => ?_))))
    · have h := ip c15 h
      obtain ⟨x3_16, ex3_16, h⟩ := lt_e h
      obtain ⟨x6_17, ex6_17, h⟩ := lt_e h
      obtain ⟨q18, hq18, h⟩ := bd h
      refine aw_iload_n eX6_rowBy_147 rfl (aw_iconst eX6_rowBy_148 k_iconst_1 (aw_iload eX6_rowBy_149 rfl (aw_ishl eX6_rowBy_151 (aw_iconst eX6_rowBy_152 k_iconst_m1 (aw_ixor eX6_rowBy_153 (aw_iand eX6_rowBy_154 (aw_istore_nY ex3_16 eX6_rowBy_155 (by decide) rfl (ls' := [some (aR 6 0), none, some (aI x2), some (aI x3_16), some (aI x4), some (aI x5), some (aI x6), none, some (aI x8), none, some (aI x10), some (aI x11), some (aI x12)]) rfl (aw_iload eX6_rowBy_156 rfl (aw_iconst eX6_rowBy_158 k_iconst_1 (aw_iload eX6_rowBy_159 rfl (aw_ishl eX6_rowBy_161 (aw_ior eX6_rowBy_162 (aw_istoreY ex6_17 eX6_rowBy_163 (by decide) rfl (ls' := [some (aR 6 0), none, some (aI x2), some (aI x3_16), some (aI x4), some (aI x5), some (aI x6_17), none, some (aI x8), none, some (aI x10), some (aI x11), some (aI x12)]) rfl (aw_aload_n eX6_rowBy_165 rfl (aw_iconst eX6_rowBy_166 k_iconst_1 (aw_iload eX6_rowBy_167 rfl (aw_callVI (N := mX6_wedOn) [aI 1, aI x11] eX6_rowBy_169 tw_2_186 miX6_wedOn (by decide) (by decide) (by decide) rfl rfl (Nat.le_of_ble_eq_true rfl) (A_X6_wedOn hq18) (aw_if_eq eX6_rowBy_172 (fun c19 => ?_) (fun c19 => ?_)))))))))))))))))))
      · have h := ip c19 h
        obtain ⟨x8_20, ex8_20, h⟩ := lt_e h
        refine aw_iconst eX6_rowBy_190 k_iconst_0 (aw_istoreY rfl eX6_rowBy_191 (by decide) rfl (ls' := [some (aR 6 0), none, some (aI x2), some (aI x3_16), some (aI x4), some (aI x5), some (aI x6_17), some (aI 0), some (aI x8), none, some (aI x10), some (aI x11), some (aI x12)]) rfl (aw_iincY (iinc_k k_iconst_1 ex8_20) eX6_rowBy_193 rfl (by decide) rfl (ls' := [some (aR 6 0), none, some (aI x2), some (aI x3_16), some (aI x4), some (aI x5), some (aI x6_17), some (aI 0), some (aI x8_20), none, some (aI x10), some (aI x11), some (aI x12)]) rfl (aw_goto eX6_rowBy_196 ?_)))
        exact aw_sub (ls' := [some (aR 6 0), none, some (aI x2), some (aI x3_16), some (aI x4), some (aI x5), some (aI x6_17), some (aI 0), some (aI x8_20), none, none, none, none]) ⟨rfl, ⟨rfl, ⟨rfl, ⟨rfl, ⟨rfl, ⟨rfl, ⟨rfl, ⟨rfl, trivial⟩⟩⟩⟩⟩⟩⟩⟩ (hk40 h)
      · have h := iq c19 h
        obtain ⟨q21, hq21, h⟩ := bd h
        refine aw_aload_n eX6_rowBy_175 rfl (aw_iload eX6_rowBy_176 rfl (aw_iconst eX6_rowBy_178 k_iconst_1 (aw_iadd eX6_rowBy_179 (aw_callVI (N := mX6_isSeen) [aI (x8 + (1 : Int32))] eX6_rowBy_180 tw_3_46 miX6_isSeen (by decide) (by decide) (by decide) rfl rfl (Nat.le_of_ble_eq_true rfl) (A_X6_isSeen hq21) (aw_if_eq eX6_rowBy_183 (fun c22 => ?_) (fun c22 => ?_))))))
        · have h := ip c22 h
          obtain ⟨x8_23, ex8_23, h⟩ := lt_e h
          refine aw_iconst eX6_rowBy_190 k_iconst_0 (aw_istoreY rfl eX6_rowBy_191 (by decide) rfl (ls' := [some (aR 6 0), none, some (aI x2), some (aI x3_16), some (aI x4), some (aI x5), some (aI x6_17), some (aI 0), some (aI x8), none, some (aI x10), some (aI x11), some (aI x12)]) rfl (aw_iincY (iinc_k k_iconst_1 ex8_23) eX6_rowBy_193 rfl (by decide) rfl (ls' := [some (aR 6 0), none, some (aI x2), some (aI x3_16), some (aI x4), some (aI x5), some (aI x6_17), some (aI 0), some (aI x8_23), none, some (aI x10), some (aI x11), some (aI x12)]) rfl (aw_goto eX6_rowBy_196 ?_)))
          exact aw_sub (ls' := [some (aR 6 0), none, some (aI x2), some (aI x3_16), some (aI x4), some (aI x5), some (aI x6_17), some (aI 0), some (aI x8_23), none, none, none, none]) ⟨rfl, ⟨rfl, ⟨rfl, ⟨rfl, ⟨rfl, ⟨rfl, ⟨rfl, ⟨rfl, trivial⟩⟩⟩⟩⟩⟩⟩⟩ (hk40 h)
        · have h := iq c22 h
          obtain ⟨x8_24, ex8_24, h⟩ := lt_e h
          refine aw_iconst eX6_rowBy_186 k_iconst_1 (aw_goto eX6_rowBy_187 (aw_istoreY rfl eX6_rowBy_191 (by decide) rfl (ls' := [some (aR 6 0), none, some (aI x2), some (aI x3_16), some (aI x4), some (aI x5), some (aI x6_17), some (aI 1), some (aI x8), none, some (aI x10), some (aI x11), some (aI x12)]) rfl (aw_iincY (iinc_k k_iconst_1 ex8_24) eX6_rowBy_193 rfl (by decide) rfl (ls' := [some (aR 6 0), none, some (aI x2), some (aI x3_16), some (aI x4), some (aI x5), some (aI x6_17), some (aI 1), some (aI x8_24), none, some (aI x10), some (aI x11), some (aI x12)]) rfl (aw_goto eX6_rowBy_196 ?_))))
          exact aw_sub (ls' := [some (aR 6 0), none, some (aI x2), some (aI x3_16), some (aI x4), some (aI x5), some (aI x6_17), some (aI 1), some (aI x8_24), none, none, none, none]) ⟨rfl, ⟨rfl, ⟨rfl, ⟨rfl, ⟨rfl, ⟨rfl, ⟨rfl, ⟨rfl, trivial⟩⟩⟩⟩⟩⟩⟩⟩ (hk40 h)
    · have h := iq c15 h
      obtain ⟨q25, hq25, h⟩ := bd h
      refine aw_iload_n eX6_rowBy_99 rfl (aw_iload eX6_rowBy_100 rfl (aw_callSI (N := mX6_has) [aI x3, aI x12] eX6_rowBy_102 tw_2_151 msX6_has (by decide) rfl rfl (Nat.le_of_ble_eq_true rfl) (A_X6_has hq25) (aw_if_eq eX6_rowBy_105 (fun c26 => ?_) (fun c26 => ?_))))
      · have h := ip c26 h
        obtain ⟨q27, hq27, h⟩ := bd h
        refine aw_iload eX6_rowBy_118 rfl (aw_istoreY rfl eX6_rowBy_120 (by decide) rfl (ls' := [some (aR 6 0), none, some (aI x2), some (aI x3), some (aI x4), some (aI x5), some (aI x6), none, some (aI x8), none, some (aI x10), some (aI x11), some (aI x12)]) rfl (aw_iload eX6_rowBy_122 rfl (aw_iload_n eX6_rowBy_124 rfl (aw_iload eX6_rowBy_125 rfl (aw_callSI (N := mX6_has) [aI x3, aI x12] eX6_rowBy_127 tw_2_151 msX6_has (by decide) rfl rfl (Nat.le_of_ble_eq_true rfl) (A_X6_has hq27) (aw_if_eq eX6_rowBy_130 (fun c28 => ?_) (fun c28 => ?_)))))))
        · have h := ip c28 h
          obtain ⟨x10_29, ex10_29, h⟩ := lt_e h
          obtain ⟨x12_30, ex12_30, h⟩ := lt_e h
          refine aw_iconst eX6_rowBy_137 k_iconst_0 (aw_isub eX6_rowBy_138 (aw_istoreY ex10_29 eX6_rowBy_139 (by decide) rfl (ls' := [some (aR 6 0), none, some (aI x2), some (aI x3), some (aI x4), some (aI x5), some (aI x6), none, some (aI x8), none, some (aI x10_29), some (aI x11), some (aI x12)]) rfl (aw_iincY (iinc_k k_iconst_1 ex12_30) eX6_rowBy_141 rfl (by decide) rfl (ls' := [some (aR 6 0), none, some (aI x2), some (aI x3), some (aI x4), some (aI x5), some (aI x6), none, some (aI x8), none, some (aI x10_29), some (aI x11), some (aI x12_30)]) rfl (aw_goto eX6_rowBy_144 ?_))))
          exact ih h
        · have h := iq c28 h
          obtain ⟨x10_31, ex10_31, h⟩ := lt_e h
          obtain ⟨x12_32, ex12_32, h⟩ := lt_e h
          refine aw_iconst eX6_rowBy_133 k_iconst_1 (aw_goto eX6_rowBy_134 (aw_isub eX6_rowBy_138 (aw_istoreY ex10_31 eX6_rowBy_139 (by decide) rfl (ls' := [some (aR 6 0), none, some (aI x2), some (aI x3), some (aI x4), some (aI x5), some (aI x6), none, some (aI x8), none, some (aI x10_31), some (aI x11), some (aI x12)]) rfl (aw_iincY (iinc_k k_iconst_1 ex12_32) eX6_rowBy_141 rfl (by decide) rfl (ls' := [some (aR 6 0), none, some (aI x2), some (aI x3), some (aI x4), some (aI x5), some (aI x6), none, some (aI x8), none, some (aI x10_31), some (aI x11), some (aI x12_32)]) rfl (aw_goto eX6_rowBy_144 ?_)))))
          exact ih h
      · have h := iq c26 h
        refine aw_iload eX6_rowBy_108 rfl (aw_if_ne eX6_rowBy_110 (fun c33 => ?_) (fun c33 => ?_))
        · have h := iq c33 h
          obtain ⟨q34, hq34, h⟩ := bd h
          refine aw_iload eX6_rowBy_118 rfl (aw_istoreY rfl eX6_rowBy_120 (by decide) rfl (ls' := [some (aR 6 0), none, some (aI x2), some (aI x3), some (aI x4), some (aI x5), some (aI x6), none, some (aI x8), none, some (aI x10), some (aI x11), some (aI x12)]) rfl (aw_iload eX6_rowBy_122 rfl (aw_iload_n eX6_rowBy_124 rfl (aw_iload eX6_rowBy_125 rfl (aw_callSI (N := mX6_has) [aI x3, aI x12] eX6_rowBy_127 tw_2_151 msX6_has (by decide) rfl rfl (Nat.le_of_ble_eq_true rfl) (A_X6_has hq34) (aw_if_eq eX6_rowBy_130 (fun c35 => ?_) (fun c35 => ?_)))))))
          · have h := ip c35 h
            obtain ⟨x10_36, ex10_36, h⟩ := lt_e h
            obtain ⟨x12_37, ex12_37, h⟩ := lt_e h
            refine aw_iconst eX6_rowBy_137 k_iconst_0 (aw_isub eX6_rowBy_138 (aw_istoreY ex10_36 eX6_rowBy_139 (by decide) rfl (ls' := [some (aR 6 0), none, some (aI x2), some (aI x3), some (aI x4), some (aI x5), some (aI x6), none, some (aI x8), none, some (aI x10_36), some (aI x11), some (aI x12)]) rfl (aw_iincY (iinc_k k_iconst_1 ex12_37) eX6_rowBy_141 rfl (by decide) rfl (ls' := [some (aR 6 0), none, some (aI x2), some (aI x3), some (aI x4), some (aI x5), some (aI x6), none, some (aI x8), none, some (aI x10_36), some (aI x11), some (aI x12_37)]) rfl (aw_goto eX6_rowBy_144 ?_))))
            exact ih h
          · have h := iq c35 h
            obtain ⟨x10_38, ex10_38, h⟩ := lt_e h
            obtain ⟨x12_39, ex12_39, h⟩ := lt_e h
            refine aw_iconst eX6_rowBy_133 k_iconst_1 (aw_goto eX6_rowBy_134 (aw_isub eX6_rowBy_138 (aw_istoreY ex10_38 eX6_rowBy_139 (by decide) rfl (ls' := [some (aR 6 0), none, some (aI x2), some (aI x3), some (aI x4), some (aI x5), some (aI x6), none, some (aI x8), none, some (aI x10_38), some (aI x11), some (aI x12)]) rfl (aw_iincY (iinc_k k_iconst_1 ex12_39) eX6_rowBy_141 rfl (by decide) rfl (ls' := [some (aR 6 0), none, some (aI x2), some (aI x3), some (aI x4), some (aI x5), some (aI x6), none, some (aI x8), none, some (aI x10_38), some (aI x11), some (aI x12_39)]) rfl (aw_goto eX6_rowBy_144 ?_)))))
            exact ih h
        · have h := ip c33 h
          obtain ⟨q40, hq40, h⟩ := bd h
          refine aw_iload eX6_rowBy_113 rfl (aw_goto eX6_rowBy_115 (aw_istoreY rfl eX6_rowBy_120 (by decide) rfl (ls' := [some (aR 6 0), none, some (aI x2), some (aI x3), some (aI x4), some (aI x5), some (aI x6), none, some (aI x8), none, some (aI x10), some (aI x12), some (aI x12)]) rfl (aw_iload eX6_rowBy_122 rfl (aw_iload_n eX6_rowBy_124 rfl (aw_iload eX6_rowBy_125 rfl (aw_callSI (N := mX6_has) [aI x3, aI x12] eX6_rowBy_127 tw_2_151 msX6_has (by decide) rfl rfl (Nat.le_of_ble_eq_true rfl) (A_X6_has hq40) (aw_if_eq eX6_rowBy_130 (fun c41 => ?_) (fun c41 => ?_))))))))
          · have h := ip c41 h
            obtain ⟨x10_42, ex10_42, h⟩ := lt_e h
            obtain ⟨x12_43, ex12_43, h⟩ := lt_e h
            refine aw_iconst eX6_rowBy_137 k_iconst_0 (aw_isub eX6_rowBy_138 (aw_istoreY ex10_42 eX6_rowBy_139 (by decide) rfl (ls' := [some (aR 6 0), none, some (aI x2), some (aI x3), some (aI x4), some (aI x5), some (aI x6), none, some (aI x8), none, some (aI x10_42), some (aI x12), some (aI x12)]) rfl (aw_iincY (iinc_k k_iconst_1 ex12_43) eX6_rowBy_141 rfl (by decide) rfl (ls' := [some (aR 6 0), none, some (aI x2), some (aI x3), some (aI x4), some (aI x5), some (aI x6), none, some (aI x8), none, some (aI x10_42), some (aI x12), some (aI x12_43)]) rfl (aw_goto eX6_rowBy_144 ?_))))
            exact ih h
          · have h := iq c41 h
            obtain ⟨x10_44, ex10_44, h⟩ := lt_e h
            obtain ⟨x12_45, ex12_45, h⟩ := lt_e h
            refine aw_iconst eX6_rowBy_133 k_iconst_1 (aw_goto eX6_rowBy_134 (aw_isub eX6_rowBy_138 (aw_istoreY ex10_44 eX6_rowBy_139 (by decide) rfl (ls' := [some (aR 6 0), none, some (aI x2), some (aI x3), some (aI x4), some (aI x5), some (aI x6), none, some (aI x8), none, some (aI x10_44), some (aI x12), some (aI x12)]) rfl (aw_iincY (iinc_k k_iconst_1 ex12_45) eX6_rowBy_141 rfl (by decide) rfl (ls' := [some (aR 6 0), none, some (aI x2), some (aI x3), some (aI x4), some (aI x5), some (aI x6), none, some (aI x8), none, some (aI x10_44), some (aI x12), some (aI x12_45)]) rfl (aw_goto eX6_rowBy_144 ?_)))))
            exact ih h
def D_X6_rowBy_40 : Nat → Int32 → Int32 → Int32 → Int32 → Int32 → Int32 → Int32 → Wd → Option (Int32 × Wd)
  | 0, _, _, _, _, _, _, _, _ => none
  | n + 1, x2, x3, x4, x5, x6, x7, x8, w => if x2 ≤ x8 then (if x7 = 0 then (some ((-9), w)) else (some (x6, w))) else (if x7 = 0 then (if x7 = 0 then (some ((-9), w)) else (some (x6, w))) else ((D_X6_rowsOf ((x4 - (1 : Int32)) - x8) ((x2 - (1 : Int32)) - x8)).bind fun q10 => if ¬ q10 = 0 then lt (x5 / q10) fun x10_12 => if ¬ q10 = 0 then lt (x5 - x5 / q10 * q10) fun x5_14 => D_X6_rowBy_90 (fun y0 y1 y2 y3 y4 y5 y6 wy => D_X6_rowBy_40 n y0 y1 y2 y3 y4 y5 y6 wy) fuelZ x2 x3 x4 x5_14 x6 x8 x10_12 ((-9)) 0 w else none else none))
set_option maxHeartbeats 4000000 in
set_option maxRecDepth 100000 in
theorem A_X6_rowBy_40 {X : XS} : ∀ (nn : Nat) {x2 : Int32} {x3 : Int32} {x4 : Int32} {x5 : Int32} {x6 : Int32} {x7 : Int32} {x8 : Int32} {w : Wd} {r : Int32 × Wd}, D_X6_rowBy_40 nn x2 x3 x4 x5 x6 x7 x8 w = some r → AW 4 X mX6_rowBy 40 [some (aR 6 0), none, some (aI x2), some (aI x3), some (aI x4), some (aI x5), some (aI x6), some (aI x7), some (aI x8), none, none, none, none] [] w (PI r.1 r.2) := by
  intro nn
  induction nn with
  | zero => intros; rename_i h; cases h
  | succ n ih =>
    intro x2 x3 x4 x5 x6 x7 x8 w r h
    rw [D_X6_rowBy_40] at h
    refine aw_iload eX6_rowBy_40 rfl (aw_iload_n eX6_rowBy_42 rfl (aw_icmp_ge eX6_rowBy_43 (fun c6 => ?_) (fun c6 => ?_)))
    · have h := ip c6 h
      refine aw_iload eX6_rowBy_199 rfl (aw_if_eq eX6_rowBy_201 (fun c7 => ?_) (fun c7 => ?_))
      · have h := ip c7 h
        exact aw_bipush eX6_rowBy_209 k_bipush_m9 (aw_iret eX6_rowBy_211 rfl (pI_i h))
      · have h := iq c7 h
        exact aw_iload eX6_rowBy_204 rfl (aw_goto eX6_rowBy_206 (aw_iret eX6_rowBy_211 rfl (pI_i h)))
    · have h := iq c6 h
      refine aw_iload eX6_rowBy_46 rfl (aw_if_eq eX6_rowBy_48 (fun c8 => ?_) (fun c8 => ?_))
      · have h := ip c8 h
        refine aw_iload eX6_rowBy_199 rfl (aw_if_eq eX6_rowBy_201 (fun c9 => ?_) (fun c9 => ?_))
        · have h := ip c9 h
          exact aw_bipush eX6_rowBy_209 k_bipush_m9 (aw_iret eX6_rowBy_211 rfl (pI_i h))
        · have h := iq c9 h
          exact aw_iload eX6_rowBy_204 rfl (aw_goto eX6_rowBy_206 (aw_iret eX6_rowBy_211 rfl (pI_i h)))
      · have h := iq c8 h
        obtain ⟨q10, hq10, h⟩ := bd h
        obtain ⟨hc11, h⟩ := ck h
        obtain ⟨x10_12, ex10_12, h⟩ := lt_e h
        obtain ⟨hc13, h⟩ := ck h
        obtain ⟨x5_14, ex5_14, h⟩ := lt_e h
        refine aw_iload eX6_rowBy_51 rfl (aw_iconst eX6_rowBy_53 k_iconst_1 (aw_isub eX6_rowBy_54 (aw_iload eX6_rowBy_55 rfl (aw_isub eX6_rowBy_57 (aw_iload_n eX6_rowBy_58 rfl (aw_iconst eX6_rowBy_59 k_iconst_1 (aw_isub eX6_rowBy_60 (aw_iload eX6_rowBy_61 rfl (aw_isub eX6_rowBy_63 (aw_callSI (N := mX6_rowsOf) [aI ((x4 - (1 : Int32)) - x8), aI ((x2 - (1 : Int32)) - x8)] eX6_rowBy_64 tw_3_39 msX6_rowsOf (by decide) rfl rfl (Nat.le_of_ble_eq_true rfl) (A_X6_rowsOf hq10) (aw_istoreY rfl eX6_rowBy_67 (by decide) rfl (ls' := [some (aR 6 0), none, some (aI x2), some (aI x3), some (aI x4), some (aI x5), some (aI x6), some (aI x7), some (aI x8), some (aI q10), none, none, none]) rfl (aw_iload eX6_rowBy_69 rfl (aw_iload eX6_rowBy_71 rfl (aw_idiv eX6_rowBy_73 hc11 (aw_istoreY ex10_12 eX6_rowBy_74 (by decide) rfl (ls' := [some (aR 6 0), none, some (aI x2), some (aI x3), some (aI x4), some (aI x5), some (aI x6), some (aI x7), some (aI x8), some (aI q10), some (aI x10_12), none, none]) rfl (aw_iload eX6_rowBy_76 rfl (aw_iload eX6_rowBy_78 rfl (aw_irem eX6_rowBy_80 hc13 (aw_istoreY ex5_14 eX6_rowBy_81 (by decide) rfl (ls' := [some (aR 6 0), none, some (aI x2), some (aI x3), some (aI x4), some (aI x5_14), some (aI x6), some (aI x7), some (aI x8), some (aI q10), some (aI x10_12), none, none]) rfl (aw_bipush eX6_rowBy_83 k_bipush_m9 (aw_istoreY rfl eX6_rowBy_85 (by decide) rfl (ls' := [some (aR 6 0), none, some (aI x2), some (aI x3), some (aI x4), some (aI x5_14), some (aI x6), some (aI x7), some (aI x8), some (aI q10), some (aI x10_12), some (aI ((-9))), none]) rfl (aw_iconst eX6_rowBy_87 k_iconst_0 (aw_istoreY rfl eX6_rowBy_88 (by decide) rfl (ls' := [some (aR 6 0), none, some (aI x2), some (aI x3), some (aI x4), some (aI x5_14), some (aI x6), some (aI x7), some (aI x8), some (aI q10), some (aI x10_12), some (aI ((-9))), some (aI 0)]) rfl ?_)))))))))))))))))))))))
        exact aw_sub (ls' := [some (aR 6 0), none, some (aI x2), some (aI x3), some (aI x4), some (aI x5_14), some (aI x6), none, some (aI x8), none, some (aI x10_12), some (aI ((-9))), some (aI 0)]) ⟨rfl, ⟨rfl, ⟨rfl, ⟨rfl, ⟨rfl, ⟨rfl, ⟨rfl, ⟨rfl, ⟨rfl, ⟨rfl, trivial⟩⟩⟩⟩⟩⟩⟩⟩⟩⟩ (A_X6_rowBy_90 (fun h => ih h) fuelZ h)
def D_X6_rowBy (w : Wd) (x1 : Int32) (x2 : Int32) : Option (Int32 × Wd) := (D_X6_layTrial w).bind fun q1 => (D_X6_every q1).bind fun q2 => lt (q2 &&& ((q1.1 25 0 2) ^^^ ((-1)))) fun x3_3 => (D_X6_ones x3_3).bind fun q4 => (D_X6_isSeen q1 0).bind fun q5 => D_X6_rowBy_40 fuelZ x2 x3_3 q4 x1 0 q5 0 q1
set_option maxHeartbeats 4000000 in
set_option maxRecDepth 100000 in
theorem A_X6_rowBy {X : XS} {w : Wd} {x1 : Int32} {x2 : Int32} {r : Int32 × Wd} (h : D_X6_rowBy w x1 x2 = some r) : AW 4 X mX6_rowBy 0 (entA 13 [aR 6 0, aI x1, aI x2]) [] w (PI r.1 r.2) := by
  show AW _ _ _ _ [some (aR 6 0), some (aI x1), some (aI x2), none, none, none, none, none, none, none, none, none, none] _ _ _
  unfold D_X6_rowBy at h
  obtain ⟨q1, hq1, h⟩ := bd h
  obtain ⟨q2, hq2, h⟩ := bd h
  obtain ⟨x3_3, ex3_3, h⟩ := lt_e h
  obtain ⟨q4, hq4, h⟩ := bd h
  obtain ⟨q5, hq5, h⟩ := bd h
  refine aw_aload_n eX6_rowBy_0 rfl (aw_callVV (N := mX6_layTrial) [] eX6_rowBy_1 tw_2_238 miX6_layTrial (by decide) (by decide) (by decide) rfl rfl (Nat.le_of_ble_eq_true rfl) (A_X6_layTrial hq1) (aw_aload_n eX6_rowBy_4 rfl (aw_callVI (N := mX6_every) [] eX6_rowBy_5 tw_2_215 miX6_every (by decide) (by decide) (by decide) rfl rfl (Nat.le_of_ble_eq_true rfl) (A_X6_every hq2) (aw_aload_n eX6_rowBy_8 rfl (aw_getf (k := 6) (f := 7) eX6_rowBy_9 tw_2_54 ⟨by decide, by decide⟩ (by decide) (v := aR 25 0) rfl (aw_iconst eX6_rowBy_12 k_iconst_2 (aw_ialdK (n := 16) eX6_rowBy_13 rfl (by decide) (by decide) (j := 2) (by decide) (aw_iconst eX6_rowBy_14 k_iconst_m1 (aw_ixor eX6_rowBy_15 (aw_iand eX6_rowBy_16 (aw_istore_nY ex3_3 eX6_rowBy_17 (by decide) rfl (ls' := [some (aR 6 0), some (aI x1), some (aI x2), some (aI x3_3), none, none, none, none, none, none, none, none, none]) rfl (aw_iload_n eX6_rowBy_18 rfl (aw_callSI (N := mX6_ones) [aI x3_3] eX6_rowBy_19 tw_2_227 msX6_ones (by decide) rfl rfl (Nat.le_of_ble_eq_true rfl) (A_X6_ones hq4) (aw_istoreY rfl eX6_rowBy_22 (by decide) rfl (ls' := [some (aR 6 0), some (aI x1), some (aI x2), some (aI x3_3), some (aI q4), none, none, none, none, none, none, none, none]) rfl (aw_iload_n eX6_rowBy_24 rfl (aw_istoreY rfl eX6_rowBy_25 (by decide) rfl (ls' := [some (aR 6 0), some (aI x1), some (aI x2), some (aI x3_3), some (aI q4), some (aI x1), none, none, none, none, none, none, none]) rfl (aw_iconst eX6_rowBy_27 k_iconst_0 (aw_istoreY rfl eX6_rowBy_28 (by decide) rfl (ls' := [some (aR 6 0), some (aI x1), some (aI x2), some (aI x3_3), some (aI q4), some (aI x1), some (aI 0), none, none, none, none, none, none]) rfl (aw_aload_n eX6_rowBy_30 rfl (aw_iconst eX6_rowBy_31 k_iconst_0 (aw_callVI (N := mX6_isSeen) [aI 0] eX6_rowBy_32 tw_3_46 miX6_isSeen (by decide) (by decide) (by decide) rfl rfl (Nat.le_of_ble_eq_true rfl) (A_X6_isSeen hq5) (aw_istoreY rfl eX6_rowBy_35 (by decide) rfl (ls' := [some (aR 6 0), some (aI x1), some (aI x2), some (aI x3_3), some (aI q4), some (aI x1), some (aI 0), some (aI q5), none, none, none, none, none]) rfl (aw_iconst eX6_rowBy_37 k_iconst_0 (aw_istoreY rfl eX6_rowBy_38 (by decide) rfl (ls' := [some (aR 6 0), some (aI x1), some (aI x2), some (aI x3_3), some (aI q4), some (aI x1), some (aI 0), some (aI q5), some (aI 0), none, none, none, none]) rfl ?_))))))))))))))))))))))))
  exact aw_sub (ls' := [some (aR 6 0), none, some (aI x2), some (aI x3_3), some (aI q4), some (aI x1), some (aI 0), some (aI q5), some (aI 0), none, none, none, none]) ⟨rfl, ⟨rfl, ⟨rfl, ⟨rfl, ⟨rfl, ⟨rfl, ⟨rfl, ⟨rfl, trivial⟩⟩⟩⟩⟩⟩⟩⟩ (A_X6_rowBy_40 fuelZ h)
