def D_X6_rows_59 : Nat → Int32 → Int32 → Int32 → Int32 → Int32 → Int32 → Int32 → Wd → Option (Int32 × Wd)
  | 0, _, _, _, _, _, _, _, _ => none
  | n + 1, x1, x2, x3, x4, x5, x6, x7, w => (D_X6_rowsOf x3 x1).bind fun q8 => if q8 ≤ x7 then (if x2 = 0 then (some (x4, w)) else (if x4 = 0 then (some ((-9), w)) else (if x2 = 1 then (some (x5, w)) else ((D_X6_every w).bind fun q13 => some (q13 &&& (x6 ^^^ ((-1))), w))))) else (if x3 < x1 then (if x2 = 0 then (some (x4, w)) else (if x4 = 0 then (some ((-9), w)) else (if x2 = 1 then (some (x5, w)) else ((D_X6_every w).bind fun q18 => some (q18 &&& (x6 ^^^ ((-1))), w))))) else ((D_X6_rowBy w x7 x1).bind fun q19 => lt (q19.1) fun x8_20 => if x8_20 = ((-9)) then (lt (x7 + 1) fun x7_22 => D_X6_rows_59 n x1 x2 x3 x4 x5 x6 x7_22 q19.2) else (lt (x4 + 1) fun x4_23 => lt (x5 &&& x8_20) fun x5_24 => lt (x6 ||| x8_20) fun x6_25 => lt (x7 + 1) fun x7_26 => D_X6_rows_59 n x1 x2 x3 x4_23 x5_24 x6_25 x7_26 q19.2)))
set_option maxHeartbeats 4000000 in
set_option maxRecDepth 100000 in
theorem A_X6_rows_59 {X : XS} : ∀ (nn : Nat) {x1 : Int32} {x2 : Int32} {x3 : Int32} {x4 : Int32} {x5 : Int32} {x6 : Int32} {x7 : Int32} {w : Wd} {r : Int32 × Wd}, D_X6_rows_59 nn x1 x2 x3 x4 x5 x6 x7 w = some r → AW 5 X mX6_rows 59 [some (aR 6 0), some (aI x1), some (aI x2), some (aI x3), some (aI x4), some (aI x5), some (aI x6), some (aI x7), none] [] w (PI r.1 r.2) := by
  intro nn
  induction nn with
  | zero => intros; rename_i h; cases h
  | succ n ih =>
    intro x1 x2 x3 x4 x5 x6 x7 w r h
    rw [D_X6_rows_59] at h
    obtain ⟨q8, hq8, h⟩ := bd h
    refine aw_iload eX6_rows_59 rfl (aw_iload_n eX6_rows_61 rfl (aw_iload_n eX6_rows_62 rfl (aw_callSI (N := mX6_rowsOf) [aI x3, aI x1] eX6_rows_63 tw_3_39 msX6_rowsOf (by decide) rfl rfl (Nat.le_of_ble_eq_true rfl) (A_X6_rowsOf hq8) (aw_icmp_ge eX6_rows_66 (fun c9 => ?_) (fun c9 => ?_)))))
    · have h := ip c9 h
      refine aw_iload_n eX6_rows_113 rfl (aw_if_ne eX6_rows_114 (fun c10 => ?_) (fun c10 => ?_))
      · have h := iq c10 h
        refine aw_iload eX6_rows_122 rfl (aw_if_ne eX6_rows_124 (fun c11 => ?_) (fun c11 => ?_))
        · have h := iq c11 h
          refine aw_iload_n eX6_rows_132 rfl (aw_iconst eX6_rows_133 k_iconst_1 (aw_icmp_ne eX6_rows_134 (fun c12 => ?_) (fun c12 => ?_)))
          · have h := iq c12 h
            obtain ⟨q13, hq13, h⟩ := bd h
            exact aw_aload_n eX6_rows_142 rfl (aw_callVI (N := mX6_every) [] eX6_rows_143 tw_2_215 miX6_every (by decide) (by decide) (by decide) rfl rfl (Nat.le_of_ble_eq_true rfl) (A_X6_every hq13) (aw_iload eX6_rows_146 rfl (aw_iconst eX6_rows_148 k_iconst_m1 (aw_ixor eX6_rows_149 (aw_iand eX6_rows_150 (aw_iret eX6_rows_151 rfl (pI_i h)))))))
          · have h := ip c12 h
            exact aw_iload eX6_rows_137 rfl (aw_goto eX6_rows_139 (aw_iret eX6_rows_151 rfl (pI_i h)))
        · have h := ip c11 h
          exact aw_bipush eX6_rows_127 k_bipush_m9 (aw_goto eX6_rows_129 (aw_iret eX6_rows_151 rfl (pI_i h)))
      · have h := ip c10 h
        exact aw_iload eX6_rows_117 rfl (aw_goto eX6_rows_119 (aw_iret eX6_rows_151 rfl (pI_i h)))
    · have h := iq c9 h
      refine aw_iload_n eX6_rows_69 rfl (aw_iload_n eX6_rows_70 rfl (aw_icmp_gt eX6_rows_71 (fun c14 => ?_) (fun c14 => ?_)))
      · have h := ip c14 h
        refine aw_iload_n eX6_rows_113 rfl (aw_if_ne eX6_rows_114 (fun c15 => ?_) (fun c15 => ?_))
        · have h := iq c15 h
          refine aw_iload eX6_rows_122 rfl (aw_if_ne eX6_rows_124 (fun c16 => ?_) (fun c16 => ?_))
          · have h := iq c16 h
            refine aw_iload_n eX6_rows_132 rfl (aw_iconst eX6_rows_133 k_iconst_1 (aw_icmp_ne eX6_rows_134 (fun c17 => ?_) (fun c17 => ?_)))
            · have h := iq c17 h
              obtain ⟨q18, hq18, h⟩ := bd h
              exact aw_aload_n eX6_rows_142 rfl (aw_callVI (N := mX6_every) [] eX6_rows_143 tw_2_215 miX6_every (by decide) (by decide) (by decide) rfl rfl (Nat.le_of_ble_eq_true rfl) (A_X6_every hq18) (aw_iload eX6_rows_146 rfl (aw_iconst eX6_rows_148 k_iconst_m1 (aw_ixor eX6_rows_149 (aw_iand eX6_rows_150 (aw_iret eX6_rows_151 rfl (pI_i h)))))))
            · have h := ip c17 h
              exact aw_iload eX6_rows_137 rfl (aw_goto eX6_rows_139 (aw_iret eX6_rows_151 rfl (pI_i h)))
          · have h := ip c16 h
            exact aw_bipush eX6_rows_127 k_bipush_m9 (aw_goto eX6_rows_129 (aw_iret eX6_rows_151 rfl (pI_i h)))
        · have h := ip c15 h
          exact aw_iload eX6_rows_117 rfl (aw_goto eX6_rows_119 (aw_iret eX6_rows_151 rfl (pI_i h)))
      · have h := iq c14 h
        obtain ⟨q19, hq19, h⟩ := bd h
        obtain ⟨x8_20, ex8_20, h⟩ := lt_e h
        refine aw_aload_n eX6_rows_74 rfl (aw_iload eX6_rows_75 rfl (aw_iload_n eX6_rows_77 rfl (aw_callVI (N := mX6_rowBy) [aI x7, aI x1] eX6_rows_78 tw_3_42 miX6_rowBy (by decide) (by decide) (by decide) rfl rfl (Nat.le_of_ble_eq_true rfl) (A_X6_rowBy hq19) (aw_istoreY ex8_20 eX6_rows_81 (by decide) rfl (ls' := [some (aR 6 0), some (aI x1), some (aI x2), some (aI x3), some (aI x4), some (aI x5), some (aI x6), some (aI x7), some (aI x8_20)]) rfl (aw_iload eX6_rows_83 rfl (aw_bipush eX6_rows_85 k_bipush_m9 (aw_icmp_eq eX6_rows_87 (fun c21 => ?_) (fun c21 => ?_))))))))
        · have h := ip c21 h
          obtain ⟨x7_22, ex7_22, h⟩ := lt_e h
          refine aw_iincY (iinc_k k_iconst_1 ex7_22) eX6_rows_107 rfl (by decide) rfl (ls' := [some (aR 6 0), some (aI x1), some (aI x2), some (aI x3), some (aI x4), some (aI x5), some (aI x6), some (aI x7_22), some (aI x8_20)]) rfl (aw_goto eX6_rows_110 ?_)
          exact aw_sub (ls' := [some (aR 6 0), some (aI x1), some (aI x2), some (aI x3), some (aI x4), some (aI x5), some (aI x6), some (aI x7_22), none]) ⟨rfl, ⟨rfl, ⟨rfl, ⟨rfl, ⟨rfl, ⟨rfl, ⟨rfl, ⟨rfl, trivial⟩⟩⟩⟩⟩⟩⟩⟩ (ih h)
        · have h := iq c21 h
          obtain ⟨x4_23, ex4_23, h⟩ := lt_e h
          obtain ⟨x5_24, ex5_24, h⟩ := lt_e h
          obtain ⟨x6_25, ex6_25, h⟩ := lt_e h
          obtain ⟨x7_26, ex7_26, h⟩ := lt_e h
          refine aw_iincY (iinc_k k_iconst_1 ex4_23) eX6_rows_90 rfl (by decide) rfl (ls' := [some (aR 6 0), some (aI x1), some (aI x2), some (aI x3), some (aI x4_23), some (aI x5), some (aI x6), some (aI x7), some (aI x8_20)]) rfl (aw_iload eX6_rows_93 rfl (aw_iload eX6_rows_95 rfl (aw_iand eX6_rows_97 (aw_istoreY ex5_24 eX6_rows_98 (by decide) rfl (ls' := [some (aR 6 0), some (aI x1), some (aI x2), some (aI x3), some (aI x4_23), some (aI x5_24), some (aI x6), some (aI x7), some (aI x8_20)]) rfl (aw_iload eX6_rows_100 rfl (aw_iload eX6_rows_102 rfl (aw_ior eX6_rows_104 (aw_istoreY ex6_25 eX6_rows_105 (by decide) rfl (ls' := [some (aR 6 0), some (aI x1), some (aI x2), some (aI x3), some (aI x4_23), some (aI x5_24), some (aI x6_25), some (aI x7), some (aI x8_20)]) rfl (aw_iincY (iinc_k k_iconst_1 ex7_26) eX6_rows_107 rfl (by decide) rfl (ls' := [some (aR 6 0), some (aI x1), some (aI x2), some (aI x3), some (aI x4_23), some (aI x5_24), some (aI x6_25), some (aI x7_26), some (aI x8_20)]) rfl (aw_goto eX6_rows_110 ?_))))))))))
          exact aw_sub (ls' := [some (aR 6 0), some (aI x1), some (aI x2), some (aI x3), some (aI x4_23), some (aI x5_24), some (aI x6_25), some (aI x7_26), none]) ⟨rfl, ⟨rfl, ⟨rfl, ⟨rfl, ⟨rfl, ⟨rfl, ⟨rfl, ⟨rfl, trivial⟩⟩⟩⟩⟩⟩⟩⟩ (ih h)
def D_X6_rows (w : Wd) (x1 : Int32) (x2 : Int32) : Option (Int32 × Wd) := (D_X6_in (Int32.toInt64 x1) 0 6).bind fun q1 => if q1 = 0 then (some ((-2), w)) else ((D_X6_in (Int32.toInt64 x2) 0 2).bind fun q3 => if q3 = 0 then (some ((-2), w)) else ((D_X6_every w).bind fun q5 => (D_X6_ones (q5 &&& ((w.1 25 0 2) ^^^ ((-1))))).bind fun q6 => (D_X6_every w).bind fun q7 => D_X6_rows_59 fuelZ x1 x2 q6 0 q7 0 0 w))
set_option maxHeartbeats 4000000 in
set_option maxRecDepth 100000 in
theorem A_X6_rows {X : XS} {w : Wd} {x1 : Int32} {x2 : Int32} {r : Int32 × Wd} (h : D_X6_rows w x1 x2 = some r) : AW 5 X mX6_rows 0 (entA 9 [aR 6 0, aI x1, aI x2]) [] w (PI r.1 r.2) := by
  show AW _ _ _ _ [some (aR 6 0), some (aI x1), some (aI x2), none, none, none, none, none, none] _ _ _
  unfold D_X6_rows at h
  obtain ⟨q1, hq1, h⟩ := bd h
  refine aw_iload_n eX6_rows_0 rfl (aw_i2l eX6_rows_1 (aw_lconst eX6_rows_2 k_lconst_0 (aw_ldc2 eX6_rows_3 tw_3_19 (aw_callSI (N := mX6_in) [aL (Int32.toInt64 x1), aL 0, aL 6] eX6_rows_6 tw_2_116 msX6_in (by decide) rfl rfl (Nat.le_of_ble_eq_true rfl) (A_X6_in hq1) (aw_if_eq eX6_rows_9 (fun c2 => ?_) (fun c2 => ?_))))))
  · have h := ip c2 h
    exact aw_bipush eX6_rows_24 k_bipush_m2 (aw_iret eX6_rows_26 rfl (pI_i h))
  · have h := iq c2 h
    obtain ⟨q3, hq3, h⟩ := bd h
    refine aw_iload_n eX6_rows_12 rfl (aw_i2l eX6_rows_13 (aw_lconst eX6_rows_14 k_lconst_0 (aw_ldc2 eX6_rows_15 tw_2_214 (aw_callSI (N := mX6_in) [aL (Int32.toInt64 x2), aL 0, aL 2] eX6_rows_18 tw_2_116 msX6_in (by decide) rfl rfl (Nat.le_of_ble_eq_true rfl) (A_X6_in hq3) (aw_if_ne eX6_rows_21 (fun c4 => ?_) (fun c4 => ?_))))))
    · have h := iq c4 h
      obtain ⟨q5, hq5, h⟩ := bd h
      obtain ⟨q6, hq6, h⟩ := bd h
      obtain ⟨q7, hq7, h⟩ := bd h
      refine aw_aload_n eX6_rows_27 rfl (aw_callVI (N := mX6_every) [] eX6_rows_28 tw_2_215 miX6_every (by decide) (by decide) (by decide) rfl rfl (Nat.le_of_ble_eq_true rfl) (A_X6_every hq5) (aw_aload_n eX6_rows_31 rfl (aw_getf (k := 6) (f := 7) eX6_rows_32 tw_2_54 ⟨by decide, by decide⟩ (by decide) (v := aR 25 0) rfl (aw_iconst eX6_rows_35 k_iconst_2 (aw_ialdK (n := 16) eX6_rows_36 rfl (by decide) (by decide) (j := 2) (by decide) (aw_iconst eX6_rows_37 k_iconst_m1 (aw_ixor eX6_rows_38 (aw_iand eX6_rows_39 (aw_callSI (N := mX6_ones) [aI (q5 &&& ((w.1 25 0 2) ^^^ ((-1))))] eX6_rows_40 tw_2_227 msX6_ones (by decide) rfl rfl (Nat.le_of_ble_eq_true rfl) (A_X6_ones hq6) (aw_istore_nY rfl eX6_rows_43 (by decide) rfl (ls' := [some (aR 6 0), some (aI x1), some (aI x2), some (aI q6), none, none, none, none, none]) rfl (aw_iconst eX6_rows_44 k_iconst_0 (aw_istoreY rfl eX6_rows_45 (by decide) rfl (ls' := [some (aR 6 0), some (aI x1), some (aI x2), some (aI q6), some (aI 0), none, none, none, none]) rfl (aw_aload_n eX6_rows_47 rfl (aw_callVI (N := mX6_every) [] eX6_rows_48 tw_2_215 miX6_every (by decide) (by decide) (by decide) rfl rfl (Nat.le_of_ble_eq_true rfl) (A_X6_every hq7) (aw_istoreY rfl eX6_rows_51 (by decide) rfl (ls' := [some (aR 6 0), some (aI x1), some (aI x2), some (aI q6), some (aI 0), some (aI q7), none, none, none]) rfl (aw_iconst eX6_rows_53 k_iconst_0 (aw_istoreY rfl eX6_rows_54 (by decide) rfl (ls' := [some (aR 6 0), some (aI x1), some (aI x2), some (aI q6), some (aI 0), some (aI q7), some (aI 0), none, none]) rfl (aw_iconst eX6_rows_56 k_iconst_0 (aw_istoreY rfl eX6_rows_57 (by decide) rfl (ls' := [some (aR 6 0), some (aI x1), some (aI x2), some (aI q6), some (aI 0), some (aI q7), some (aI 0), some (aI 0), none]) rfl ?_)))))))))))))))))))
      exact A_X6_rows_59 fuelZ h
    · have h := ip c4 h
      exact aw_bipush eX6_rows_24 k_bipush_m2 (aw_iret eX6_rows_26 rfl (pI_i h))
def D_X6_factorial_4 : Nat → Int32 → Int32 → Int32 → Option (Int32)
  | 0, _, _, _ => none
  | n + 1, x0, x1, x2 => if x0 < x2 then (some (x1)) else (lt (x1 * x2) fun x1_2 => lt (x2 + 1) fun x2_3 => D_X6_factorial_4 n x0 x1_2 x2_3)
set_option maxHeartbeats 4000000 in
set_option maxRecDepth 100000 in
theorem A_X6_factorial_4 {X : XS} {w : Wd} : ∀ (nn : Nat) {x0 : Int32} {x1 : Int32} {x2 : Int32} {r : Int32}, D_X6_factorial_4 nn x0 x1 x2 = some r → AW 0 X mX6_factorial 4 [some (aI x0), some (aI x1), some (aI x2)] [] w (PI r w) := by
  intro nn
  induction nn with
  | zero => intros; rename_i h; cases h
  | succ n ih =>
    intro x0 x1 x2 r h
    rw [D_X6_factorial_4] at h
    refine aw_iload_n eX6_factorial_4 rfl (aw_iload_n eX6_factorial_5 rfl (aw_icmp_gt eX6_factorial_6 (fun c1 => ?_) (fun c1 => ?_)))
    · have h := ip c1 h
      exact aw_iload_n eX6_factorial_19 rfl (aw_iret eX6_factorial_20 rfl (pI_p h))
    · have h := iq c1 h
      obtain ⟨x1_2, ex1_2, h⟩ := lt_e h
      obtain ⟨x2_3, ex2_3, h⟩ := lt_e h
      refine aw_iload_n eX6_factorial_9 rfl (aw_iload_n eX6_factorial_10 rfl (aw_imul eX6_factorial_11 (aw_istore_nY ex1_2 eX6_factorial_12 (by decide) rfl (ls' := [some (aI x0), some (aI x1_2), some (aI x2)]) rfl (aw_iincY (iinc_k k_iconst_1 ex2_3) eX6_factorial_13 rfl (by decide) rfl (ls' := [some (aI x0), some (aI x1_2), some (aI x2_3)]) rfl (aw_goto eX6_factorial_16 ?_)))))
      exact ih h
def D_X6_factorial (x0 : Int32) : Option (Int32) := D_X6_factorial_4 fuelZ x0 1 2
set_option maxHeartbeats 4000000 in
set_option maxRecDepth 100000 in
theorem A_X6_factorial {X : XS} {w : Wd} {x0 : Int32} {r : Int32} (h : D_X6_factorial x0 = some r) : AW 0 X mX6_factorial 0 (entA 3 [aI x0]) [] w (PI r w) := by
  show AW _ _ _ _ [some (aI x0), none, none] _ _ _
  unfold D_X6_factorial at h
  refine aw_iconst eX6_factorial_0 k_iconst_1 (aw_istore_nY rfl eX6_factorial_1 (by decide) rfl (ls' := [some (aI x0), some (aI 1), none]) rfl (aw_iconst eX6_factorial_2 k_iconst_2 (aw_istore_nY rfl eX6_factorial_3 (by decide) rfl (ls' := [some (aI x0), some (aI 1), some (aI 2)]) rfl ?_)))
  exact A_X6_factorial_4 fuelZ h
def D_X6_common_13 : Nat → Int32 → Int32 → Option (Int32)
  | 0, _, _ => none
  | n + 1, x2, x3 => if x3 = 0 then (some (x2)) else (if ¬ x3 = 0 then lt (x2 - x2 / x3 * x3) fun x4_4 => D_X6_common_13 n x3 x4_4 else none)
set_option maxHeartbeats 4000000 in
set_option maxRecDepth 100000 in
theorem A_X6_common_13 {X : XS} {w : Wd} : ∀ (nn : Nat) {x2 : Int32} {x3 : Int32} {r : Int32}, D_X6_common_13 nn x2 x3 = some r → AW 0 X mX6_common 13 [none, none, some (aI x2), some (aI x3), none] [] w (PI r w) := by
  intro nn
  induction nn with
  | zero => intros; rename_i h; cases h
  | succ n ih =>
    intro x2 x3 r h
    rw [D_X6_common_13] at h
    refine aw_iload_n eX6_common_13 rfl (aw_if_eq eX6_common_14 (fun c2 => ?_) (fun c2 => ?_))
    · have h := ip c2 h
      exact aw_iload_n eX6_common_30 rfl (aw_iret eX6_common_31 rfl (pI_p h))
    · have h := iq c2 h
      obtain ⟨hc3, h⟩ := ck h
      obtain ⟨x4_4, ex4_4, h⟩ := lt_e h
      refine aw_iload_n eX6_common_17 rfl (aw_iload_n eX6_common_18 rfl (aw_irem eX6_common_19 hc3 (aw_istoreY ex4_4 eX6_common_20 (by decide) rfl (ls' := [none, none, some (aI x2), some (aI x3), some (aI x4_4)]) rfl (aw_iload_n eX6_common_22 rfl (aw_istore_nY rfl eX6_common_23 (by decide) rfl (ls' := [none, none, some (aI x3), some (aI x3), some (aI x4_4)]) rfl (aw_iload eX6_common_24 rfl (aw_istore_nY rfl eX6_common_26 (by decide) rfl (ls' := [none, none, some (aI x3), some (aI x4_4), some (aI x4_4)]) rfl (aw_goto eX6_common_27 ?_))))))))
      exact aw_sub (ls' := [none, none, some (aI x3), some (aI x4_4), none]) ⟨rfl, ⟨rfl, trivial⟩⟩ (ih h)
def D_X6_common (x0 : Int32) (x1 : Int32) : Option (Int32) := if 0 ≤ x0 then (D_X6_common_13 fuelZ x0 x1) else (lt (-x0) fun x2_5 => D_X6_common_13 fuelZ x2_5 x1)
set_option maxHeartbeats 4000000 in
set_option maxRecDepth 100000 in
theorem A_X6_common {X : XS} {w : Wd} {x0 : Int32} {x1 : Int32} {r : Int32} (h : D_X6_common x0 x1 = some r) : AW 0 X mX6_common 0 (entA 5 [aI x0, aI x1]) [] w (PI r w) := by
  show AW _ _ _ _ [some (aI x0), some (aI x1), none, none, none] _ _ _
  unfold D_X6_common at h
  refine aw_iload_n eX6_common_0 rfl (aw_if_ge eX6_common_1 (fun c1 => ?_) (fun c1 => ?_))
  · have h := ip c1 h
    refine aw_iload_n eX6_common_9 rfl (aw_istore_nY rfl eX6_common_10 (by decide) rfl (ls' := [some (aI x0), some (aI x1), some (aI x0), none, none]) rfl (aw_iload_n eX6_common_11 rfl (aw_istore_nY rfl eX6_common_12 (by decide) rfl (ls' := [some (aI x0), some (aI x1), some (aI x0), some (aI x1), none]) rfl ?_)))
    exact aw_sub (ls' := [none, none, some (aI x0), some (aI x1), none]) ⟨rfl, ⟨rfl, trivial⟩⟩ (A_X6_common_13 fuelZ h)
  · have h := iq c1 h
    obtain ⟨x2_5, ex2_5, h⟩ := lt_e h
    refine aw_iload_n eX6_common_4 rfl (aw_ineg eX6_common_5 (aw_goto eX6_common_6 (aw_istore_nY ex2_5 eX6_common_10 (by decide) rfl (ls' := [some (aI x0), some (aI x1), some (aI x2_5), none, none]) rfl (aw_iload_n eX6_common_11 rfl (aw_istore_nY rfl eX6_common_12 (by decide) rfl (ls' := [some (aI x0), some (aI x1), some (aI x2_5), some (aI x1), none]) rfl ?_)))))
    exact aw_sub (ls' := [none, none, some (aI x2_5), some (aI x1), none]) ⟨rfl, ⟨rfl, trivial⟩⟩ (A_X6_common_13 fuelZ h)
def D_X6_share_90 : Nat → Int32 → Int32 → Int32 → Int32 → Int32 → Wd → Option (Int32 × Wd)
  | 0, _, _, _, _, _, _ => none
  | n + 1, x1, x2, x3, x4, x5, w => if x3 < x5 then ((D_X6_ones x3).bind fun q9 => (D_X6_factorial q9).bind fun q10 => (D_X6_common x4 q10).bind fun q11 => if x2 = 0 then ((D_X6_ones x3).bind fun q13 => (D_X6_factorial q13).bind fun q14 => if ¬ q11 = 0 then some (q14 / q11, w) else none) else (if ¬ q11 = 0 then some (x4 / q11, w) else none)) else (if (x5 &&& (x3 ^^^ ((-1)))) = 0 then ((D_X6_has x5 x1).bind fun q19 => if q19 = 0 then ((D_X6_ones x5).bind fun q22 => (D_X6_factorial q22).bind fun q23 => (D_X6_ones x3).bind fun q24 => (D_X6_ones x5).bind fun q25 => (D_X6_factorial ((q24 - (1 : Int32)) - q25)).bind fun q26 => lt (q23 * q26) fun x6_27 => if inB (x5 ||| ((1 : Int32) <<< (x1 &&& 31))) 64 then if inB x5 64 then lt (x4 + (x6_27 * ((w.1 31 0 (Int32.toNatClampNeg (x5 ||| ((1 : Int32) <<< (x1 &&& 31))))) - (w.1 31 0 (Int32.toNatClampNeg x5))))) fun x4_30 => lt (x5 + 1) fun x5_31 => D_X6_share_90 n x1 x2 x3 x4_30 x5_31 w else none else none) else (lt (x5 + 1) fun x5_21 => D_X6_share_90 n x1 x2 x3 x4 x5_21 w)) else (lt (x5 + 1) fun x5_18 => D_X6_share_90 n x1 x2 x3 x4 x5_18 w))
set_option maxHeartbeats 4000000 in
set_option maxRecDepth 100000 in
theorem A_X6_share_90 {X : XS} : ∀ (nn : Nat) {x1 : Int32} {x2 : Int32} {x3 : Int32} {x4 : Int32} {x5 : Int32} {w : Wd} {r : Int32 × Wd}, D_X6_share_90 nn x1 x2 x3 x4 x5 w = some r → AW 4 X mX6_share 90 [some (aR 6 0), some (aI x1), some (aI x2), some (aI x3), some (aI x4), some (aI x5), none] [] w (PI r.1 r.2) := by
  intro nn
  induction nn with
  | zero => intros; rename_i h; cases h
  | succ n ih =>
    intro x1 x2 x3 x4 x5 w r h
    rw [D_X6_share_90] at h
    refine aw_iload eX6_share_90 rfl (aw_iload_n eX6_share_92 rfl (aw_icmp_gt eX6_share_93 (fun c8 => ?_) (fun c8 => ?_)))
    · have h := ip c8 h
      obtain ⟨q9, hq9, h⟩ := bd h
      obtain ⟨q10, hq10, h⟩ := bd h
      obtain ⟨q11, hq11, h⟩ := bd h
      refine aw_iload eX6_share_173 rfl (aw_iload_n eX6_share_175 rfl (aw_callSI (N := mX6_ones) [aI x3] eX6_share_176 tw_2_227 msX6_ones (by decide) rfl rfl (Nat.le_of_ble_eq_true rfl) (A_X6_ones hq9) (aw_callSI (N := mX6_factorial) [aI q9] eX6_share_179 tw_3_54 msX6_factorial (by decide) rfl rfl (Nat.le_of_ble_eq_true rfl) (A_X6_factorial hq10) (aw_callSI (N := mX6_common) [aI x4, aI q10] eX6_share_182 tw_3_57 msX6_common (by decide) rfl rfl (Nat.le_of_ble_eq_true rfl) (A_X6_common hq11) (aw_istoreY rfl eX6_share_185 (by decide) rfl (ls' := [some (aR 6 0), some (aI x1), some (aI x2), some (aI x3), some (aI x4), some (aI q11), none]) rfl (aw_iload_n eX6_share_187 rfl (aw_if_eq eX6_share_188 (fun c12 => ?_) (fun c12 => ?_))))))))
      · have h := ip c12 h
        obtain ⟨q13, hq13, h⟩ := bd h
        obtain ⟨q14, hq14, h⟩ := bd h
        obtain ⟨hc15, h⟩ := ck h
        exact aw_iload_n eX6_share_199 rfl (aw_callSI (N := mX6_ones) [aI x3] eX6_share_200 tw_2_227 msX6_ones (by decide) rfl rfl (Nat.le_of_ble_eq_true rfl) (A_X6_ones hq13) (aw_callSI (N := mX6_factorial) [aI q13] eX6_share_203 tw_3_54 msX6_factorial (by decide) rfl rfl (Nat.le_of_ble_eq_true rfl) (A_X6_factorial hq14) (aw_iload eX6_share_206 rfl (aw_idiv eX6_share_208 hc15 (aw_iret eX6_share_209 rfl (pI_i h))))))
      · have h := iq c12 h
        obtain ⟨hc16, h⟩ := ck h
        exact aw_iload eX6_share_191 rfl (aw_iload eX6_share_193 rfl (aw_idiv eX6_share_195 hc16 (aw_goto eX6_share_196 (aw_iret eX6_share_209 rfl (pI_i h)))))
    · have h := iq c8 h
      refine aw_iload eX6_share_96 rfl (aw_iload_n eX6_share_98 rfl (aw_iconst eX6_share_99 k_iconst_m1 (aw_ixor eX6_share_100 (aw_iand eX6_share_101 (aw_if_ne eX6_share_102 (fun c17 => ?_) (fun c17 => ?_))))))
      · have h := iq c17 h
        obtain ⟨x5_18, ex5_18, h⟩ := lt_e h
        refine aw_iincY (iinc_k k_iconst_1 ex5_18) eX6_share_167 rfl (by decide) rfl (ls' := [some (aR 6 0), some (aI x1), some (aI x2), some (aI x3), some (aI x4), some (aI x5_18), none]) rfl (aw_goto eX6_share_170 ?_)
        exact ih h
      · have h := ip c17 h
        obtain ⟨q19, hq19, h⟩ := bd h
        refine aw_iload eX6_share_105 rfl (aw_iload_n eX6_share_107 rfl (aw_callSI (N := mX6_has) [aI x5, aI x1] eX6_share_108 tw_2_151 msX6_has (by decide) rfl rfl (Nat.le_of_ble_eq_true rfl) (A_X6_has hq19) (aw_if_ne eX6_share_111 (fun c20 => ?_) (fun c20 => ?_))))
        · have h := iq c20 h
          obtain ⟨x5_21, ex5_21, h⟩ := lt_e h
          refine aw_iincY (iinc_k k_iconst_1 ex5_21) eX6_share_167 rfl (by decide) rfl (ls' := [some (aR 6 0), some (aI x1), some (aI x2), some (aI x3), some (aI x4), some (aI x5_21), none]) rfl (aw_goto eX6_share_170 ?_)
          exact ih h
        · have h := ip c20 h
          obtain ⟨q22, hq22, h⟩ := bd h
          obtain ⟨q23, hq23, h⟩ := bd h
          obtain ⟨q24, hq24, h⟩ := bd h
          obtain ⟨q25, hq25, h⟩ := bd h
          obtain ⟨q26, hq26, h⟩ := bd h
          obtain ⟨x6_27, ex6_27, h⟩ := lt_e h
          obtain ⟨hc28, h⟩ := ck h
          obtain ⟨hc29, h⟩ := ck h
          obtain ⟨x4_30, ex4_30, h⟩ := lt_e h
          obtain ⟨x5_31, ex5_31, h⟩ := lt_e h
          refine aw_iload eX6_share_114 rfl (aw_callSI (N := mX6_ones) [aI x5] eX6_share_116 tw_2_227 msX6_ones (by decide) rfl rfl (Nat.le_of_ble_eq_true rfl) (A_X6_ones hq22) (aw_callSI (N := mX6_factorial) [aI q22] eX6_share_119 tw_3_54 msX6_factorial (by decide) rfl rfl (Nat.le_of_ble_eq_true rfl) (A_X6_factorial hq23) (aw_iload_n eX6_share_122 rfl (aw_callSI (N := mX6_ones) [aI x3] eX6_share_123 tw_2_227 msX6_ones (by decide) rfl rfl (Nat.le_of_ble_eq_true rfl) (A_X6_ones hq24) (aw_iconst eX6_share_126 k_iconst_1 (aw_isub eX6_share_127 (aw_iload eX6_share_128 rfl (aw_callSI (N := mX6_ones) [aI x5] eX6_share_130 tw_2_227 msX6_ones (by decide) rfl rfl (Nat.le_of_ble_eq_true rfl) (A_X6_ones hq25) (aw_isub eX6_share_133 (aw_callSI (N := mX6_factorial) [aI ((q24 - (1 : Int32)) - q25)] eX6_share_134 tw_3_54 msX6_factorial (by decide) rfl rfl (Nat.le_of_ble_eq_true rfl) (A_X6_factorial hq26) (aw_imul eX6_share_137 (aw_istoreY ex6_27 eX6_share_138 (by decide) rfl (ls' := [some (aR 6 0), some (aI x1), some (aI x2), some (aI x3), some (aI x4), some (aI x5), some (aI x6_27)]) rfl (aw_iload eX6_share_140 rfl (aw_iload eX6_share_142 rfl (aw_aload_n eX6_share_144 rfl (aw_getf (k := 6) (f := 17) eX6_share_145 tw_2_64 ⟨by decide, by decide⟩ (by decide) (v := aR 31 0) rfl (aw_iload eX6_share_148 rfl (aw_iconst eX6_share_150 k_iconst_1 (aw_iload_n eX6_share_151 rfl (aw_ishl eX6_share_152 (aw_ior eX6_share_153 (aw_ialdK (n := 64) eX6_share_154 rfl (by decide) hc28 (j := (Int32.toNatClampNeg (x5 ||| ((1 : Int32) <<< (x1 &&& 31))))) rfl (aw_aload_n eX6_share_155 rfl (aw_getf (k := 6) (f := 17) eX6_share_156 tw_2_64 ⟨by decide, by decide⟩ (by decide) (v := aR 31 0) rfl (aw_iload eX6_share_159 rfl (aw_ialdK (n := 64) eX6_share_161 rfl (by decide) hc29 (j := (Int32.toNatClampNeg x5)) rfl (aw_isub eX6_share_162 (aw_imul eX6_share_163 (aw_iadd eX6_share_164 (aw_istoreY ex4_30 eX6_share_165 (by decide) rfl (ls' := [some (aR 6 0), some (aI x1), some (aI x2), some (aI x3), some (aI x4_30), some (aI x5), some (aI x6_27)]) rfl (aw_iincY (iinc_k k_iconst_1 ex5_31) eX6_share_167 rfl (by decide) rfl (ls' := [some (aR 6 0), some (aI x1), some (aI x2), some (aI x3), some (aI x4_30), some (aI x5_31), some (aI x6_27)]) rfl (aw_goto eX6_share_170 ?_))))))))))))))))))))))))))))))))
          exact aw_sub (ls' := [some (aR 6 0), some (aI x1), some (aI x2), some (aI x3), some (aI x4_30), some (aI x5_31), none]) ⟨rfl, ⟨rfl, ⟨rfl, ⟨rfl, ⟨rfl, ⟨rfl, trivial⟩⟩⟩⟩⟩⟩ (ih h)
def D_X6_share_45 : Nat → Int32 → Int32 → Int32 → Int32 → Wd → Option (Int32 × Wd)
  | 0, _, _, _, _, _ => none
  | n + 1, x1, x2, x3, x4, w => if x3 < x4 then (D_X6_share_90 fuelZ x1 x2 x3 0 0 w) else (if (x4 &&& (x3 ^^^ ((-1)))) = 0 then ((D_X6_mostOn w 0 x4).bind fun q36 => if inB x4 64 then lt (wS q36.2 31 0 (Int32.toNatClampNeg x4) q36.1) fun w38 => lt (x4 + 1) fun x4_39 => D_X6_share_45 n x1 x2 x3 x4_39 w38 else none) else (if inB x4 64 then lt (wS w 31 0 (Int32.toNatClampNeg x4) 0) fun w34 => lt (x4 + 1) fun x4_35 => D_X6_share_45 n x1 x2 x3 x4_35 w34 else none))
set_option maxHeartbeats 4000000 in
set_option maxRecDepth 100000 in
theorem A_X6_share_45 {X : XS} : ∀ (nn : Nat) {x1 : Int32} {x2 : Int32} {x3 : Int32} {x4 : Int32} {w : Wd} {r : Int32 × Wd}, D_X6_share_45 nn x1 x2 x3 x4 w = some r → AW 4 X mX6_share 45 [some (aR 6 0), some (aI x1), some (aI x2), some (aI x3), some (aI x4), none, none] [] w (PI r.1 r.2) := by
  intro nn
  induction nn with
  | zero => intros; rename_i h; cases h
  | succ n ih =>
    intro x1 x2 x3 x4 w r h
    rw [D_X6_share_45] at h
    refine aw_iload eX6_share_45 rfl (aw_iload_n eX6_share_47 rfl (aw_icmp_gt eX6_share_48 (fun c7 => ?_) (fun c7 => ?_)))
    · have h := ip c7 h
      refine aw_iconst eX6_share_84 k_iconst_0 (aw_istoreY rfl eX6_share_85 (by decide) rfl (ls' := [some (aR 6 0), some (aI x1), some (aI x2), some (aI x3), some (aI 0), none, none]) rfl (aw_iconst eX6_share_87 k_iconst_0 (aw_istoreY rfl eX6_share_88 (by decide) rfl (ls' := [some (aR 6 0), some (aI x1), some (aI x2), some (aI x3), some (aI 0), some (aI 0), none]) rfl ?_)))
      exact A_X6_share_90 fuelZ h
    · have h := iq c7 h
      refine aw_aload_n eX6_share_51 rfl (aw_getf (k := 6) (f := 17) eX6_share_52 tw_2_64 ⟨by decide, by decide⟩ (by decide) (v := aR 31 0) rfl (aw_iload eX6_share_55 rfl (aw_iload eX6_share_57 rfl (aw_iload_n eX6_share_59 rfl (aw_iconst eX6_share_60 k_iconst_m1 (aw_ixor eX6_share_61 (aw_iand eX6_share_62 (aw_if_ne eX6_share_63 (fun c32 => ?_) (fun c32 => ?_)))))))))
      · have h := iq c32 h
        obtain ⟨hc33, h⟩ := ck h
        obtain ⟨w34, ew34, h⟩ := lt_e h
        obtain ⟨x4_35, ex4_35, h⟩ := lt_e h
        refine aw_iconst eX6_share_76 k_iconst_0 (aw_iastK (n := 64) eX6_share_77 rfl (by decide) hc33 (j := (Int32.toNatClampNeg x4)) rfl (aw_wn ew34 (aw_iincY (iinc_k k_iconst_1 ex4_35) eX6_share_78 rfl (by decide) rfl (ls' := [some (aR 6 0), some (aI x1), some (aI x2), some (aI x3), some (aI x4_35), none, none]) rfl (aw_goto eX6_share_81 ?_))))
        exact ih h
      · have h := ip c32 h
        obtain ⟨q36, hq36, h⟩ := bd h
        obtain ⟨hc37, h⟩ := ck h
        obtain ⟨w38, ew38, h⟩ := lt_e h
        obtain ⟨x4_39, ex4_39, h⟩ := lt_e h
        refine aw_aload_n eX6_share_66 rfl (aw_iconst eX6_share_67 k_iconst_0 (aw_iload eX6_share_68 rfl (aw_callVI (N := mX6_mostOn) [aI 0, aI x4] eX6_share_70 tw_2_219 miX6_mostOn (by decide) (by decide) (by decide) rfl rfl (Nat.le_of_ble_eq_true rfl) (A_X6_mostOn hq36) (aw_goto eX6_share_73 (aw_iastK (n := 64) eX6_share_77 rfl (by decide) hc37 (j := (Int32.toNatClampNeg x4)) rfl (aw_wn ew38 (aw_iincY (iinc_k k_iconst_1 ex4_39) eX6_share_78 rfl (by decide) rfl (ls' := [some (aR 6 0), some (aI x1), some (aI x2), some (aI x3), some (aI x4_39), none, none]) rfl (aw_goto eX6_share_81 ?_))))))))
        exact ih h
def D_X6_share (w : Wd) (x1 : Int32) (x2 : Int32) : Option (Int32 × Wd) := (D_X6_isWedding w x1).bind fun q1 => if q1 = 0 then (some ((-1), w)) else ((D_X6_every w).bind fun q3 => lt (q3 &&& ((w.1 25 0 2) ^^^ ((-1)))) fun x3_4 => (D_X6_has x3_4 x1).bind fun q5 => if q5 = 0 then (if x2 = 0 then (some (1, w)) else (some (0, w))) else (D_X6_share_45 fuelZ x1 x2 x3_4 0 w))
set_option maxHeartbeats 4000000 in
set_option maxRecDepth 100000 in
theorem A_X6_share {X : XS} {w : Wd} {x1 : Int32} {x2 : Int32} {r : Int32 × Wd} (h : D_X6_share w x1 x2 = some r) : AW 4 X mX6_share 0 (entA 7 [aR 6 0, aI x1, aI x2]) [] w (PI r.1 r.2) := by
  show AW _ _ _ _ [some (aR 6 0), some (aI x1), some (aI x2), none, none, none, none] _ _ _
  unfold D_X6_share at h
  obtain ⟨q1, hq1, h⟩ := bd h
  refine aw_aload_n eX6_share_0 rfl (aw_iload_n eX6_share_1 rfl (aw_callVI (N := mX6_isWedding) [aI x1] eX6_share_2 tw_2_143 miX6_isWedding (by decide) (by decide) (by decide) rfl rfl (Nat.le_of_ble_eq_true rfl) (A_X6_isWedding hq1) (aw_if_ne eX6_share_5 (fun c2 => ?_) (fun c2 => ?_))))
  · have h := iq c2 h
    obtain ⟨q3, hq3, h⟩ := bd h
    obtain ⟨x3_4, ex3_4, h⟩ := lt_e h
    obtain ⟨q5, hq5, h⟩ := bd h
    refine aw_aload_n eX6_share_10 rfl (aw_callVI (N := mX6_every) [] eX6_share_11 tw_2_215 miX6_every (by decide) (by decide) (by decide) rfl rfl (Nat.le_of_ble_eq_true rfl) (A_X6_every hq3) (aw_aload_n eX6_share_14 rfl (aw_getf (k := 6) (f := 7) eX6_share_15 tw_2_54 ⟨by decide, by decide⟩ (by decide) (v := aR 25 0) rfl (aw_iconst eX6_share_18 k_iconst_2 (aw_ialdK (n := 16) eX6_share_19 rfl (by decide) (by decide) (j := 2) (by decide) (aw_iconst eX6_share_20 k_iconst_m1 (aw_ixor eX6_share_21 (aw_iand eX6_share_22 (aw_istore_nY ex3_4 eX6_share_23 (by decide) rfl (ls' := [some (aR 6 0), some (aI x1), some (aI x2), some (aI x3_4), none, none, none]) rfl (aw_iload_n eX6_share_24 rfl (aw_iload_n eX6_share_25 rfl (aw_callSI (N := mX6_has) [aI x3_4, aI x1] eX6_share_26 tw_2_151 msX6_has (by decide) rfl rfl (Nat.le_of_ble_eq_true rfl) (A_X6_has hq5) (aw_if_ne eX6_share_29 (fun c6 => ?_) (fun c6 => ?_))))))))))))))
    · have h := iq c6 h
      refine aw_iconst eX6_share_42 k_iconst_0 (aw_istoreY rfl eX6_share_43 (by decide) rfl (ls' := [some (aR 6 0), some (aI x1), some (aI x2), some (aI x3_4), some (aI 0), none, none]) rfl ?_)
      exact A_X6_share_45 fuelZ h
    · have h := ip c6 h
      refine aw_iload_n eX6_share_32 rfl (aw_if_eq eX6_share_33 (fun c40 => ?_) (fun c40 => ?_))
      · have h := ip c40 h
        exact aw_iconst eX6_share_40 k_iconst_1 (aw_iret eX6_share_41 rfl (pI_i h))
      · have h := iq c40 h
        exact aw_iconst eX6_share_36 k_iconst_0 (aw_goto eX6_share_37 (aw_iret eX6_share_41 rfl (pI_i h)))
  · have h := ip c2 h
    exact aw_iconst eX6_share_8 k_iconst_m1 (aw_iret eX6_share_9 rfl (pI_i h))
def D_X6_bringsOf (w : Wd) (x1 : Int32) : Option (Int32) := lt (x1 - (w.1 25 0 0)) fun x2_1 => if x1 = ((-9)) then (some (0)) else (if x2_1 ≤ 4 then (some ((4 : Int32) - x2_1)) else (some (0)))
set_option maxHeartbeats 4000000 in
set_option maxRecDepth 100000 in
theorem A_X6_bringsOf {X : XS} {w : Wd} {x1 : Int32} {r : Int32} (h : D_X6_bringsOf w x1 = some r) : AW 0 X mX6_bringsOf 0 (entA 3 [aR 6 0, aI x1]) [] w (PI r w) := by
  show AW _ _ _ _ [some (aR 6 0), some (aI x1), none] _ _ _
  unfold D_X6_bringsOf at h
  obtain ⟨x2_1, ex2_1, h⟩ := lt_e h
  refine aw_iload_n eX6_bringsOf_0 rfl (aw_aload_n eX6_bringsOf_1 rfl (aw_getf (k := 6) (f := 7) eX6_bringsOf_2 tw_2_54 ⟨by decide, by decide⟩ (by decide) (v := aR 25 0) rfl (aw_iconst eX6_bringsOf_5 k_iconst_0 (aw_ialdK (n := 16) eX6_bringsOf_6 rfl (by decide) (by decide) (j := 0) (by decide) (aw_isub eX6_bringsOf_7 (aw_istore_nY ex2_1 eX6_bringsOf_8 (by decide) rfl (ls' := [some (aR 6 0), some (aI x1), some (aI x2_1)]) rfl (aw_iload_n eX6_bringsOf_9 rfl (aw_bipush eX6_bringsOf_10 k_bipush_m9 (aw_icmp_eq eX6_bringsOf_12 (fun c2 => ?_) (fun c2 => ?_))))))))))
  · have h := ip c2 h
    exact aw_iconst eX6_bringsOf_20 k_iconst_0 (aw_goto eX6_bringsOf_21 (aw_iret eX6_bringsOf_27 rfl (pI_p h)))
  · have h := iq c2 h
    refine aw_iload_n eX6_bringsOf_15 rfl (aw_iconst eX6_bringsOf_16 k_iconst_4 (aw_icmp_le eX6_bringsOf_17 (fun c3 => ?_) (fun c3 => ?_)))
    · have h := ip c3 h
      exact aw_iconst eX6_bringsOf_24 k_iconst_4 (aw_iload_n eX6_bringsOf_25 rfl (aw_isub eX6_bringsOf_26 (aw_iret eX6_bringsOf_27 rfl (pI_p h))))
    · have h := iq c3 h
      exact aw_iconst eX6_bringsOf_20 k_iconst_0 (aw_goto eX6_bringsOf_21 (aw_iret eX6_bringsOf_27 rfl (pI_p h)))
def D_X6_gain_30 (x1 : Int32) (x2 : Int32) (x3 : Int32) (s0 : Int32) (w : Wd) : Option (Int32 × Wd) := (D_X6_layTrial w).bind fun q3 => if s0 = 0 then ((D_X6_wedOn q3 1 x2).bind fun q7 => (D_X6_beginsNow q7.2 1 x1).bind fun q8 => (D_X6_bringsOf q7.2 q8).bind fun q9 => some (q9 - x3, q7.2)) else ((D_X6_beginsNow q3 1 x1).bind fun q5 => (D_X6_bringsOf q3 q5).bind fun q6 => some (q6 - x3, q3))
set_option maxHeartbeats 4000000 in
set_option maxRecDepth 100000 in
theorem A_X6_gain_30 {X : XS} {x1 : Int32} {x2 : Int32} {x3 : Int32} {s0 : Int32} {w : Wd} {r : Int32 × Wd} (h : D_X6_gain_30 x1 x2 x3 s0 w = some r) : AW 4 X mX6_gain 30 [some (aR 6 0), some (aI x1), some (aI x2), some (aI x3), none, none] [aI s0] w (PI r.1 r.2) := by
  unfold D_X6_gain_30 at h
  obtain ⟨q3, hq3, h⟩ := bd h
  refine aw_istoreY rfl eX6_gain_30 (by decide) rfl (ls' := [some (aR 6 0), some (aI x1), some (aI x2), some (aI x3), none, some (aI s0)]) rfl (aw_aload_n eX6_gain_32 rfl (aw_callVV (N := mX6_layTrial) [] eX6_gain_33 tw_2_238 miX6_layTrial (by decide) (by decide) (by decide) rfl rfl (Nat.le_of_ble_eq_true rfl) (A_X6_layTrial hq3) (aw_iload eX6_gain_36 rfl (aw_if_ne eX6_gain_38 (fun c4 => ?_) (fun c4 => ?_)))))
  · have h := iq c4 h
    obtain ⟨q5, hq5, h⟩ := bd h
    obtain ⟨q6, hq6, h⟩ := bd h
    exact aw_aload_n eX6_gain_48 rfl (aw_aload_n eX6_gain_49 rfl (aw_iconst eX6_gain_50 k_iconst_1 (aw_iload_n eX6_gain_51 rfl (aw_callVI (N := mX6_beginsNow) [aI 1, aI x1] eX6_gain_52 tw_2_147 miX6_beginsNow (by decide) (by decide) (by decide) rfl rfl (Nat.le_of_ble_eq_true rfl) (A_X6_beginsNow hq5) (aw_callVI (N := mX6_bringsOf) [aI q5] eX6_gain_55 tw_3_72 miX6_bringsOf (by decide) (by decide) (by decide) rfl rfl (Nat.le_of_ble_eq_true rfl) (A_X6_bringsOf hq6) (aw_iload_n eX6_gain_58 rfl (aw_isub eX6_gain_59 (aw_iret eX6_gain_60 rfl (pI_i h)))))))))
  · have h := ip c4 h
    obtain ⟨q7, hq7, h⟩ := bd h
    obtain ⟨q8, hq8, h⟩ := bd h
    obtain ⟨q9, hq9, h⟩ := bd h
    exact aw_aload_n eX6_gain_41 rfl (aw_iconst eX6_gain_42 k_iconst_1 (aw_iload_n eX6_gain_43 rfl (aw_callVI (N := mX6_wedOn) [aI 1, aI x2] eX6_gain_44 tw_2_186 miX6_wedOn (by decide) (by decide) (by decide) rfl rfl (Nat.le_of_ble_eq_true rfl) (A_X6_wedOn hq7) (aw_popI eX6_gain_47 (aw_aload_n eX6_gain_48 rfl (aw_aload_n eX6_gain_49 rfl (aw_iconst eX6_gain_50 k_iconst_1 (aw_iload_n eX6_gain_51 rfl (aw_callVI (N := mX6_beginsNow) [aI 1, aI x1] eX6_gain_52 tw_2_147 miX6_beginsNow (by decide) (by decide) (by decide) rfl rfl (Nat.le_of_ble_eq_true rfl) (A_X6_beginsNow hq8) (aw_callVI (N := mX6_bringsOf) [aI q8] eX6_gain_55 tw_3_72 miX6_bringsOf (by decide) (by decide) (by decide) rfl rfl (Nat.le_of_ble_eq_true rfl) (A_X6_bringsOf hq9) (aw_iload_n eX6_gain_58 rfl (aw_isub eX6_gain_59 (aw_iret eX6_gain_60 rfl (pI_i h))))))))))))))
def D_X6_gain (w : Wd) (x1 : Int32) (x2 : Int32) (x3 : Int32) (x4 : Int32) : Option (Int32 × Wd) := if x3 = x4 then (if x2 ≤ x1 then (D_X6_gain_30 x1 x2 x3 0 w) else (D_X6_gain_30 x1 x2 x3 1 w)) else (if x3 ≤ x4 then (D_X6_gain_30 x1 x2 x3 0 w) else (D_X6_gain_30 x1 x2 x3 1 w))
set_option maxHeartbeats 4000000 in
set_option maxRecDepth 100000 in
theorem A_X6_gain {X : XS} {w : Wd} {x1 : Int32} {x2 : Int32} {x3 : Int32} {x4 : Int32} {r : Int32 × Wd} (h : D_X6_gain w x1 x2 x3 x4 = some r) : AW 4 X mX6_gain 0 (entA 6 [aR 6 0, aI x1, aI x2, aI x3, aI x4]) [] w (PI r.1 r.2) := by
  show AW _ _ _ _ [some (aR 6 0), some (aI x1), some (aI x2), some (aI x3), some (aI x4), none] _ _ _
  unfold D_X6_gain at h
  refine aw_iload_n eX6_gain_0 rfl (aw_iload eX6_gain_1 rfl (aw_icmp_ne eX6_gain_3 (fun c1 => ?_) (fun c1 => ?_)))
  · have h := iq c1 h
    refine aw_iload_n eX6_gain_19 rfl (aw_iload eX6_gain_20 rfl (aw_icmp_le eX6_gain_22 (fun c2 => ?_) (fun c2 => ?_)))
    · have h := ip c2 h
      refine aw_iconst eX6_gain_29 k_iconst_0 ?_
      exact aw_sub (ls' := [some (aR 6 0), some (aI x1), some (aI x2), some (aI x3), none, none]) ⟨rfl, ⟨rfl, ⟨rfl, ⟨rfl, trivial⟩⟩⟩⟩ (A_X6_gain_30 h)
    · have h := iq c2 h
      refine aw_iconst eX6_gain_25 k_iconst_1 (aw_goto eX6_gain_26 ?_)
      exact aw_sub (ls' := [some (aR 6 0), some (aI x1), some (aI x2), some (aI x3), none, none]) ⟨rfl, ⟨rfl, ⟨rfl, ⟨rfl, trivial⟩⟩⟩⟩ (A_X6_gain_30 h)
  · have h := ip c1 h
    refine aw_iload_n eX6_gain_6 rfl (aw_iload_n eX6_gain_7 rfl (aw_icmp_ge eX6_gain_8 (fun c10 => ?_) (fun c10 => ?_)))
    · have h := ip c10 h
      refine aw_iconst eX6_gain_15 k_iconst_0 (aw_goto eX6_gain_16 ?_)
      exact aw_sub (ls' := [some (aR 6 0), some (aI x1), some (aI x2), some (aI x3), none, none]) ⟨rfl, ⟨rfl, ⟨rfl, ⟨rfl, trivial⟩⟩⟩⟩ (A_X6_gain_30 h)
    · have h := iq c10 h
      refine aw_iconst eX6_gain_11 k_iconst_1 (aw_goto eX6_gain_12 ?_)
      exact aw_sub (ls' := [some (aR 6 0), some (aI x1), some (aI x2), some (aI x3), none, none]) ⟨rfl, ⟨rfl, ⟨rfl, ⟨rfl, trivial⟩⟩⟩⟩ (A_X6_gain_30 h)
def D_X6_isRest (w : Wd) (x1 : Int32) (x2 : Int32) (x3 : Int32) (x4 : Int32) : Option (Int32 × Wd) := (D_X6_gain w x1 x2 ((1 : Int32) - x3) x4).bind fun q1 => (D_X6_gain q1.2 x1 x2 x3 x4).bind fun q2 => if q2.1 < q1.1 then (some (0, q2.2)) else ((D_X6_gain q2.2 x2 x1 ((1 : Int32) - x4) x3).bind fun q4 => (D_X6_gain q4.2 x2 x1 x4 x3).bind fun q5 => if q5.1 < q4.1 then (some (0, q5.2)) else (some (1, q5.2)))
set_option maxHeartbeats 4000000 in
set_option maxRecDepth 100000 in
theorem A_X6_isRest {X : XS} {w : Wd} {x1 : Int32} {x2 : Int32} {x3 : Int32} {x4 : Int32} {r : Int32 × Wd} (h : D_X6_isRest w x1 x2 x3 x4 = some r) : AW 5 X mX6_isRest 0 (entA 5 [aR 6 0, aI x1, aI x2, aI x3, aI x4]) [] w (PI r.1 r.2) := by
  show AW _ _ _ _ [some (aR 6 0), some (aI x1), some (aI x2), some (aI x3), some (aI x4)] _ _ _
  unfold D_X6_isRest at h
  obtain ⟨q1, hq1, h⟩ := bd h
  obtain ⟨q2, hq2, h⟩ := bd h
  refine aw_aload_n eX6_isRest_0 rfl (aw_iload_n eX6_isRest_1 rfl (aw_iload_n eX6_isRest_2 rfl (aw_iconst eX6_isRest_3 k_iconst_1 (aw_iload_n eX6_isRest_4 rfl (aw_isub eX6_isRest_5 (aw_iload eX6_isRest_6 rfl (aw_callVI (N := mX6_gain) [aI x1, aI x2, aI ((1 : Int32) - x3), aI x4] eX6_isRest_8 tw_3_68 miX6_gain (by decide) (by decide) (by decide) rfl rfl (Nat.le_of_ble_eq_true rfl) (A_X6_gain hq1) (aw_aload_n eX6_isRest_11 rfl (aw_iload_n eX6_isRest_12 rfl (aw_iload_n eX6_isRest_13 rfl (aw_iload_n eX6_isRest_14 rfl (aw_iload eX6_isRest_15 rfl (aw_callVI (N := mX6_gain) [aI x1, aI x2, aI x3, aI x4] eX6_isRest_17 tw_3_68 miX6_gain (by decide) (by decide) (by decide) rfl rfl (Nat.le_of_ble_eq_true rfl) (A_X6_gain hq2) (aw_icmp_gt eX6_isRest_20 (fun c3 => ?_) (fun c3 => ?_)))))))))))))))
  · have h := ip c3 h
    exact aw_iconst eX6_isRest_50 k_iconst_0 (aw_zret eX6_isRest_51 rfl (by decide +kernel) (pI_i h))
  · have h := iq c3 h
    obtain ⟨q4, hq4, h⟩ := bd h
    obtain ⟨q5, hq5, h⟩ := bd h
    refine aw_aload_n eX6_isRest_23 rfl (aw_iload_n eX6_isRest_24 rfl (aw_iload_n eX6_isRest_25 rfl (aw_iconst eX6_isRest_26 k_iconst_1 (aw_iload eX6_isRest_27 rfl (aw_isub eX6_isRest_29 (aw_iload_n eX6_isRest_30 rfl (aw_callVI (N := mX6_gain) [aI x2, aI x1, aI ((1 : Int32) - x4), aI x3] eX6_isRest_31 tw_3_68 miX6_gain (by decide) (by decide) (by decide) rfl rfl (Nat.le_of_ble_eq_true rfl) (A_X6_gain hq4) (aw_aload_n eX6_isRest_34 rfl (aw_iload_n eX6_isRest_35 rfl (aw_iload_n eX6_isRest_36 rfl (aw_iload eX6_isRest_37 rfl (aw_iload_n eX6_isRest_39 rfl (aw_callVI (N := mX6_gain) [aI x2, aI x1, aI x4, aI x3] eX6_isRest_40 tw_3_68 miX6_gain (by decide) (by decide) (by decide) rfl rfl (Nat.le_of_ble_eq_true rfl) (A_X6_gain hq5) (aw_icmp_gt eX6_isRest_43 (fun c6 => ?_) (fun c6 => ?_)))))))))))))))
    · have h := ip c6 h
      exact aw_iconst eX6_isRest_50 k_iconst_0 (aw_zret eX6_isRest_51 rfl (by decide +kernel) (pI_i h))
    · have h := iq c6 h
      exact aw_iconst eX6_isRest_46 k_iconst_1 (aw_goto eX6_isRest_47 (aw_zret eX6_isRest_51 rfl (by decide +kernel) (pI_i h)))
def D_X6_rests_75 : Nat → Int32 → Int32 → Int32 → Int32 → Int32 → Int32 → Wd → Option (Int32 × Wd)
  | 0, _, _, _, _, _, _, _ => none
  | n + 1, x1, x2, x3, x4, x5, x6, w => if 4 ≤ x6 then (if x3 = 0 then (some (x4, w)) else (some (x5, w))) else ((D_X6_isRest w x1 x2 (x6 / (2 : Int32)) (x6 - x6 / (2 : Int32) * (2 : Int32))).bind fun q14 => if q14.1 = 0 then (lt (x6 + 1) fun x6_16 => D_X6_rests_75 n x1 x2 x3 x4 x5 x6_16 q14.2) else (if x4 = 0 then (lt (((10 : Int32) * (x6 / (2 : Int32))) + (x6 - x6 / (2 : Int32) * (2 : Int32))) fun x5_20 => lt (x4 + 1) fun x4_21 => lt (x6 + 1) fun x6_22 => D_X6_rests_75 n x1 x2 x3 x4_21 x5_20 x6_22 q14.2) else (lt (x4 + 1) fun x4_18 => lt (x6 + 1) fun x6_19 => D_X6_rests_75 n x1 x2 x3 x4_18 x5 x6_19 q14.2)))
set_option maxHeartbeats 4000000 in
set_option maxRecDepth 100000 in
theorem A_X6_rests_75 {X : XS} : ∀ (nn : Nat) {x1 : Int32} {x2 : Int32} {x3 : Int32} {x4 : Int32} {x5 : Int32} {x6 : Int32} {w : Wd} {r : Int32 × Wd}, D_X6_rests_75 nn x1 x2 x3 x4 x5 x6 w = some r → AW 6 X mX6_rests 75 [some (aR 6 0), some (aI x1), some (aI x2), some (aI x3), some (aI x4), some (aI x5), some (aI x6)] [] w (PI r.1 r.2) := by
  intro nn
  induction nn with
  | zero => intros; rename_i h; cases h
  | succ n ih =>
    intro x1 x2 x3 x4 x5 x6 w r h
    rw [D_X6_rests_75] at h
    refine aw_iload eX6_rests_75 rfl (aw_iconst eX6_rests_77 k_iconst_4 (aw_icmp_ge eX6_rests_78 (fun c12 => ?_) (fun c12 => ?_)))
    · have h := ip c12 h
      refine aw_iload_n eX6_rests_131 rfl (aw_if_ne eX6_rests_132 (fun c13 => ?_) (fun c13 => ?_))
      · have h := iq c13 h
        exact aw_iload eX6_rests_140 rfl (aw_iret eX6_rests_142 rfl (pI_i h))
      · have h := ip c13 h
        exact aw_iload eX6_rests_135 rfl (aw_goto eX6_rests_137 (aw_iret eX6_rests_142 rfl (pI_i h)))
    · have h := iq c12 h
      obtain ⟨q14, hq14, h⟩ := bd h
      refine aw_aload_n eX6_rests_81 rfl (aw_iload_n eX6_rests_82 rfl (aw_iload_n eX6_rests_83 rfl (aw_iload eX6_rests_84 rfl (aw_iconst eX6_rests_86 k_iconst_2 (aw_idiv eX6_rests_87 (by decide) (aw_iload eX6_rests_88 rfl (aw_iconst eX6_rests_90 k_iconst_2 (aw_irem eX6_rests_91 (by decide) (aw_callVI (N := mX6_isRest) [aI x1, aI x2, aI (x6 / (2 : Int32)), aI (x6 - x6 / (2 : Int32) * (2 : Int32))] eX6_rests_92 tw_3_64 miX6_isRest (by decide) (by decide) (by decide) rfl rfl (Nat.le_of_ble_eq_true rfl) (A_X6_isRest hq14) (aw_if_eq eX6_rests_95 (fun c15 => ?_) (fun c15 => ?_)))))))))))
      · have h := ip c15 h
        obtain ⟨x6_16, ex6_16, h⟩ := lt_e h
        refine aw_iincY (iinc_k k_iconst_1 ex6_16) eX6_rests_125 rfl (by decide) rfl (ls' := [some (aR 6 0), some (aI x1), some (aI x2), some (aI x3), some (aI x4), some (aI x5), some (aI x6_16)]) rfl (aw_goto eX6_rests_128 ?_)
        exact ih h
      · have h := iq c15 h
        refine aw_iload eX6_rests_98 rfl (aw_if_ne eX6_rests_100 (fun c17 => ?_) (fun c17 => ?_))
        · have h := iq c17 h
          obtain ⟨x4_18, ex4_18, h⟩ := lt_e h
          obtain ⟨x6_19, ex6_19, h⟩ := lt_e h
          refine aw_iload eX6_rests_118 rfl (aw_istoreY rfl eX6_rests_120 (by decide) rfl (ls' := [some (aR 6 0), some (aI x1), some (aI x2), some (aI x3), some (aI x4), some (aI x5), some (aI x6)]) rfl (aw_iincY (iinc_k k_iconst_1 ex4_18) eX6_rests_122 rfl (by decide) rfl (ls' := [some (aR 6 0), some (aI x1), some (aI x2), some (aI x3), some (aI x4_18), some (aI x5), some (aI x6)]) rfl (aw_iincY (iinc_k k_iconst_1 ex6_19) eX6_rests_125 rfl (by decide) rfl (ls' := [some (aR 6 0), some (aI x1), some (aI x2), some (aI x3), some (aI x4_18), some (aI x5), some (aI x6_19)]) rfl (aw_goto eX6_rests_128 ?_))))
          exact ih h
        · have h := ip c17 h
          obtain ⟨x5_20, ex5_20, h⟩ := lt_e h
          obtain ⟨x4_21, ex4_21, h⟩ := lt_e h
          obtain ⟨x6_22, ex6_22, h⟩ := lt_e h
          refine aw_bipush eX6_rests_103 k_bipush_10 (aw_iload eX6_rests_105 rfl (aw_iconst eX6_rests_107 k_iconst_2 (aw_idiv eX6_rests_108 (by decide) (aw_imul eX6_rests_109 (aw_iload eX6_rests_110 rfl (aw_iconst eX6_rests_112 k_iconst_2 (aw_irem eX6_rests_113 (by decide) (aw_iadd eX6_rests_114 (aw_goto eX6_rests_115 (aw_istoreY ex5_20 eX6_rests_120 (by decide) rfl (ls' := [some (aR 6 0), some (aI x1), some (aI x2), some (aI x3), some (aI x4), some (aI x5_20), some (aI x6)]) rfl (aw_iincY (iinc_k k_iconst_1 ex4_21) eX6_rests_122 rfl (by decide) rfl (ls' := [some (aR 6 0), some (aI x1), some (aI x2), some (aI x3), some (aI x4_21), some (aI x5_20), some (aI x6)]) rfl (aw_iincY (iinc_k k_iconst_1 ex6_22) eX6_rests_125 rfl (by decide) rfl (ls' := [some (aR 6 0), some (aI x1), some (aI x2), some (aI x3), some (aI x4_21), some (aI x5_20), some (aI x6_22)]) rfl (aw_goto eX6_rests_128 ?_)))))))))))))
          exact ih h
def D_X6_rests (w : Wd) (x1 : Int32) (x2 : Int32) (x3 : Int32) : Option (Int32 × Wd) := (D_X6_isWedding w x1).bind fun q1 => if q1 = 0 then (some ((-1), w)) else ((D_X6_isWedding w x2).bind fun q3 => if q3 = 0 then (some ((-1), w)) else (if x1 = x2 then (some ((-2), w)) else ((D_X6_in (Int32.toInt64 x3) 0 1).bind fun q6 => if q6 = 0 then (some ((-2), w)) else ((D_X6_has (w.1 25 0 2) x1).bind fun q8 => if q8 = 0 then ((D_X6_has (w.1 25 0 2) x2).bind fun q10 => if q10 = 0 then (D_X6_rests_75 fuelZ x1 x2 x3 0 ((-9)) 0 w) else (some ((-3), w))) else (some ((-3), w))))))
set_option maxHeartbeats 4000000 in
set_option maxRecDepth 100000 in
theorem A_X6_rests {X : XS} {w : Wd} {x1 : Int32} {x2 : Int32} {x3 : Int32} {r : Int32 × Wd} (h : D_X6_rests w x1 x2 x3 = some r) : AW 6 X mX6_rests 0 (entA 7 [aR 6 0, aI x1, aI x2, aI x3]) [] w (PI r.1 r.2) := by
  show AW _ _ _ _ [some (aR 6 0), some (aI x1), some (aI x2), some (aI x3), none, none, none] _ _ _
  unfold D_X6_rests at h
  obtain ⟨q1, hq1, h⟩ := bd h
  refine aw_aload_n eX6_rests_0 rfl (aw_iload_n eX6_rests_1 rfl (aw_callVI (N := mX6_isWedding) [aI x1] eX6_rests_2 tw_2_143 miX6_isWedding (by decide) (by decide) (by decide) rfl rfl (Nat.le_of_ble_eq_true rfl) (A_X6_isWedding hq1) (aw_if_eq eX6_rests_5 (fun c2 => ?_) (fun c2 => ?_))))
  · have h := ip c2 h
    exact aw_iconst eX6_rests_16 k_iconst_m1 (aw_iret eX6_rests_17 rfl (pI_i h))
  · have h := iq c2 h
    obtain ⟨q3, hq3, h⟩ := bd h
    refine aw_aload_n eX6_rests_8 rfl (aw_iload_n eX6_rests_9 rfl (aw_callVI (N := mX6_isWedding) [aI x2] eX6_rests_10 tw_2_143 miX6_isWedding (by decide) (by decide) (by decide) rfl rfl (Nat.le_of_ble_eq_true rfl) (A_X6_isWedding hq3) (aw_if_ne eX6_rests_13 (fun c4 => ?_) (fun c4 => ?_))))
    · have h := iq c4 h
      refine aw_iload_n eX6_rests_18 rfl (aw_iload_n eX6_rests_19 rfl (aw_icmp_eq eX6_rests_20 (fun c5 => ?_) (fun c5 => ?_)))
      · have h := ip c5 h
        exact aw_bipush eX6_rests_33 k_bipush_m2 (aw_iret eX6_rests_35 rfl (pI_i h))
      · have h := iq c5 h
        obtain ⟨q6, hq6, h⟩ := bd h
        refine aw_iload_n eX6_rests_23 rfl (aw_i2l eX6_rests_24 (aw_lconst eX6_rests_25 k_lconst_0 (aw_lconst eX6_rests_26 k_lconst_1 (aw_callSI (N := mX6_in) [aL (Int32.toInt64 x3), aL 0, aL 1] eX6_rests_27 tw_2_116 msX6_in (by decide) rfl rfl (Nat.le_of_ble_eq_true rfl) (A_X6_in hq6) (aw_if_ne eX6_rests_30 (fun c7 => ?_) (fun c7 => ?_))))))
        · have h := iq c7 h
          obtain ⟨q8, hq8, h⟩ := bd h
          refine aw_aload_n eX6_rests_36 rfl (aw_getf (k := 6) (f := 7) eX6_rests_37 tw_2_54 ⟨by decide, by decide⟩ (by decide) (v := aR 25 0) rfl (aw_iconst eX6_rests_40 k_iconst_2 (aw_ialdK (n := 16) eX6_rests_41 rfl (by decide) (by decide) (j := 2) (by decide) (aw_iload_n eX6_rests_42 rfl (aw_callSI (N := mX6_has) [aI (w.1 25 0 2), aI x1] eX6_rests_43 tw_2_151 msX6_has (by decide) rfl rfl (Nat.le_of_ble_eq_true rfl) (A_X6_has hq8) (aw_if_ne eX6_rests_46 (fun c9 => ?_) (fun c9 => ?_)))))))
          · have h := iq c9 h
            exact aw_bipush eX6_rests_62 k_bipush_m3 (aw_iret eX6_rests_64 rfl (pI_i h))
          · have h := ip c9 h
            obtain ⟨q10, hq10, h⟩ := bd h
            refine aw_aload_n eX6_rests_49 rfl (aw_getf (k := 6) (f := 7) eX6_rests_50 tw_2_54 ⟨by decide, by decide⟩ (by decide) (v := aR 25 0) rfl (aw_iconst eX6_rests_53 k_iconst_2 (aw_ialdK (n := 16) eX6_rests_54 rfl (by decide) (by decide) (j := 2) (by decide) (aw_iload_n eX6_rests_55 rfl (aw_callSI (N := mX6_has) [aI (w.1 25 0 2), aI x2] eX6_rests_56 tw_2_151 msX6_has (by decide) rfl rfl (Nat.le_of_ble_eq_true rfl) (A_X6_has hq10) (aw_if_eq eX6_rests_59 (fun c11 => ?_) (fun c11 => ?_)))))))
            · have h := ip c11 h
              refine aw_iconst eX6_rests_65 k_iconst_0 (aw_istoreY rfl eX6_rests_66 (by decide) rfl (ls' := [some (aR 6 0), some (aI x1), some (aI x2), some (aI x3), some (aI 0), none, none]) rfl (aw_bipush eX6_rests_68 k_bipush_m9 (aw_istoreY rfl eX6_rests_70 (by decide) rfl (ls' := [some (aR 6 0), some (aI x1), some (aI x2), some (aI x3), some (aI 0), some (aI ((-9))), none]) rfl (aw_iconst eX6_rests_72 k_iconst_0 (aw_istoreY rfl eX6_rests_73 (by decide) rfl (ls' := [some (aR 6 0), some (aI x1), some (aI x2), some (aI x3), some (aI 0), some (aI ((-9))), some (aI 0)]) rfl ?_)))))
              exact A_X6_rests_75 fuelZ h
            · have h := iq c11 h
              exact aw_bipush eX6_rests_62 k_bipush_m3 (aw_iret eX6_rests_64 rfl (pI_i h))
        · have h := ip c7 h
          exact aw_bipush eX6_rests_33 k_bipush_m2 (aw_iret eX6_rests_35 rfl (pI_i h))
    · have h := ip c4 h
      exact aw_iconst eX6_rests_16 k_iconst_m1 (aw_iret eX6_rests_17 rfl (pI_i h))
def D_X6_areOpen_67 (w : Wd) (k20 : Int32 → Int32 → Int32 → Int32 → Int32 → Option (Int32)) (x1 : Int32) (x2 : Int32) (x3 : Int32) (x5 : Int32) (x6 : Int32) : Option (Int32) := lt (x3 &&& ((-1))) fun x3_9 => lt (x5 + 1) fun x5_10 => k20 x1 x2 x3_9 0 x5_10
set_option maxHeartbeats 4000000 in
set_option maxRecDepth 100000 in
theorem A_X6_areOpen_67 {X : XS} {w : Wd} {k20 : Int32 → Int32 → Int32 → Int32 → Int32 → Option (Int32)} (hk20 : ∀ {x1 : Int32} {x2 : Int32} {x3 : Int32} {x4 : Int32} {x5 : Int32} {r : Int32}, k20 x1 x2 x3 x4 x5 = some r → AW 2 X mX6_areOpen 20 [some (aR 6 0), some (aI x1), some (aI x2), some (aI x3), some (aI x4), some (aI x5), none] [] w (PI r w)) {x1 : Int32} {x2 : Int32} {x3 : Int32} {x5 : Int32} {x6 : Int32} {r : Int32} (h : D_X6_areOpen_67 w k20 x1 x2 x3 x5 x6 = some r) : AW 2 X mX6_areOpen 67 [some (aR 6 0), some (aI x1), some (aI x2), some (aI x3), none, some (aI x5), some (aI x6)] [] w (PI r w) := by
  unfold D_X6_areOpen_67 at h
  refine aw_iconst eX6_areOpen_67 k_iconst_0 (aw_istoreY rfl eX6_areOpen_68 (by decide) rfl (ls' := [some (aR 6 0), some (aI x1), some (aI x2), some (aI x3), some (aI 0), some (aI x5), some (aI x6)]) rfl (aw_iload_n eX6_areOpen_70 rfl (aw_iload eX6_areOpen_71 rfl (aw_if_eq eX6_areOpen_73 (K2 := fun z => absurd (by decide) z) (K1 := fun _ => ?_)))))
  obtain ⟨x3_9, ex3_9, h⟩ := lt_e h
  obtain ⟨x5_10, ex5_10, h⟩ := lt_e h
  refine aw_iconst eX6_areOpen_85 k_iconst_m1 (aw_iand eX6_areOpen_86 (aw_istore_nY ex3_9 eX6_areOpen_87 (by decide) rfl (ls' := [some (aR 6 0), some (aI x1), some (aI x2), some (aI x3_9), some (aI 0), some (aI x5), some (aI x6)]) rfl (aw_iincY (iinc_k k_iconst_1 ex5_10) eX6_areOpen_88 rfl (by decide) rfl (ls' := [some (aR 6 0), some (aI x1), some (aI x2), some (aI x3_9), some (aI 0), some (aI x5_10), some (aI x6)]) rfl (aw_goto eX6_areOpen_91 ?_))))
  exact aw_sub (ls' := [some (aR 6 0), some (aI x1), some (aI x2), some (aI x3_9), some (aI 0), some (aI x5_10), none]) ⟨rfl, ⟨rfl, ⟨rfl, ⟨rfl, ⟨rfl, ⟨rfl, trivial⟩⟩⟩⟩⟩⟩ (hk20 h)
def D_X6_areOpen_20 (w : Wd) : Nat → Int32 → Int32 → Int32 → Int32 → Int32 → Option (Int32)
  | 0, _, _, _, _, _ => none
  | n + 1, x1, x2, x3, x4, x5 => if x1 ≤ x5 then (if x4 = 0 ∨ x4 = 1 then some (x4) else none) else ((D_X6_tenTo x5).bind fun q5 => if ¬ q5 = 0 then lt (((x2 / q5) - (x2 / q5) / (10 : Int32) * (10 : Int32)) - (1 : Int32)) fun x6_7 => if x4 = 0 then (D_X6_areOpen_67 w (fun y0 y1 y2 y3 y4 => D_X6_areOpen_20 w n y0 y1 y2 y3 y4) x1 x2 x3 x5 x6_7) else ((D_X6_isWedding w x6_7).bind fun q11 => if q11 = 0 then (D_X6_areOpen_67 w (fun y0 y1 y2 y3 y4 => D_X6_areOpen_20 w n y0 y1 y2 y3 y4) x1 x2 x3 x5 x6_7) else ((D_X6_has x3 x6_7).bind fun q13 => if q13 = 0 then (D_X6_areOpen_67 w (fun y0 y1 y2 y3 y4 => D_X6_areOpen_20 w n y0 y1 y2 y3 y4) x1 x2 x3 x5 x6_7) else (lt (x3 &&& (((1 : Int32) <<< (x6_7 &&& 31)) ^^^ ((-1)))) fun x3_15 => lt (x5 + 1) fun x5_16 => D_X6_areOpen_20 w n x1 x2 x3_15 1 x5_16))) else none)
set_option maxHeartbeats 4000000 in
set_option maxRecDepth 100000 in
theorem A_X6_areOpen_20 {X : XS} {w : Wd} : ∀ (nn : Nat) {x1 : Int32} {x2 : Int32} {x3 : Int32} {x4 : Int32} {x5 : Int32} {r : Int32}, D_X6_areOpen_20 w nn x1 x2 x3 x4 x5 = some r → AW 2 X mX6_areOpen 20 [some (aR 6 0), some (aI x1), some (aI x2), some (aI x3), some (aI x4), some (aI x5), none] [] w (PI r w) := by
  intro nn
  induction nn with
  | zero => intros; rename_i h; cases h
  | succ n ih =>
    intro x1 x2 x3 x4 x5 r h
    rw [D_X6_areOpen_20] at h
    refine aw_iload eX6_areOpen_20 rfl (aw_iload_n eX6_areOpen_22 rfl (aw_icmp_ge eX6_areOpen_23 (fun c3 => ?_) (fun c3 => ?_)))
    · have h := ip c3 h
      obtain ⟨hc4, h⟩ := ck h
      exact aw_iload eX6_areOpen_94 rfl (aw_zret eX6_areOpen_96 rfl (nar01 hc4) (pI_p h))
    · have h := iq c3 h
      obtain ⟨q5, hq5, h⟩ := bd h
      obtain ⟨hc6, h⟩ := ck h
      obtain ⟨x6_7, ex6_7, h⟩ := lt_e h
      refine aw_iload_n eX6_areOpen_26 rfl (aw_iload eX6_areOpen_27 rfl (aw_callSI (N := mX6_tenTo) [aI x5] eX6_areOpen_29 tw_3_20 msX6_tenTo (by decide) rfl rfl (Nat.le_of_ble_eq_true rfl) (A_X6_tenTo hq5) (aw_idiv eX6_areOpen_32 hc6 (aw_bipush eX6_areOpen_33 k_bipush_10 (aw_irem eX6_areOpen_35 (by decide) (aw_iconst eX6_areOpen_36 k_iconst_1 (aw_isub eX6_areOpen_37 (aw_istoreY ex6_7 eX6_areOpen_38 (by decide) rfl (ls' := [some (aR 6 0), some (aI x1), some (aI x2), some (aI x3), some (aI x4), some (aI x5), some (aI x6_7)]) rfl (aw_iload eX6_areOpen_40 rfl (aw_if_eq eX6_areOpen_42 (fun c8 => ?_) (fun c8 => ?_)))))))))))
      · have h := ip c8 h
        exact aw_sub (ls' := [some (aR 6 0), some (aI x1), some (aI x2), some (aI x3), none, some (aI x5), some (aI x6_7)]) ⟨rfl, ⟨rfl, ⟨rfl, ⟨rfl, ⟨rfl, ⟨rfl, trivial⟩⟩⟩⟩⟩⟩ (A_X6_areOpen_67 (fun h => ih h) h)
      · have h := iq c8 h
        obtain ⟨q11, hq11, h⟩ := bd h
        refine aw_aload_n eX6_areOpen_45 rfl (aw_iload eX6_areOpen_46 rfl (aw_callVI (N := mX6_isWedding) [aI x6_7] eX6_areOpen_48 tw_2_143 miX6_isWedding (by decide) (by decide) (by decide) rfl rfl (Nat.le_of_ble_eq_true rfl) (A_X6_isWedding hq11) (aw_if_eq eX6_areOpen_51 (fun c12 => ?_) (fun c12 => ?_))))
        · have h := ip c12 h
          exact aw_sub (ls' := [some (aR 6 0), some (aI x1), some (aI x2), some (aI x3), none, some (aI x5), some (aI x6_7)]) ⟨rfl, ⟨rfl, ⟨rfl, ⟨rfl, ⟨rfl, ⟨rfl, trivial⟩⟩⟩⟩⟩⟩ (A_X6_areOpen_67 (fun h => ih h) h)
        · have h := iq c12 h
          obtain ⟨q13, hq13, h⟩ := bd h
          refine aw_iload_n eX6_areOpen_54 rfl (aw_iload eX6_areOpen_55 rfl (aw_callSI (N := mX6_has) [aI x3, aI x6_7] eX6_areOpen_57 tw_2_151 msX6_has (by decide) rfl rfl (Nat.le_of_ble_eq_true rfl) (A_X6_has hq13) (aw_if_eq eX6_areOpen_60 (fun c14 => ?_) (fun c14 => ?_))))
          · have h := ip c14 h
            exact aw_sub (ls' := [some (aR 6 0), some (aI x1), some (aI x2), some (aI x3), none, some (aI x5), some (aI x6_7)]) ⟨rfl, ⟨rfl, ⟨rfl, ⟨rfl, ⟨rfl, ⟨rfl, trivial⟩⟩⟩⟩⟩⟩ (A_X6_areOpen_67 (fun h => ih h) h)
          · have h := iq c14 h
            refine aw_iconst eX6_areOpen_63 k_iconst_1 (aw_goto eX6_areOpen_64 (aw_istoreY rfl eX6_areOpen_68 (by decide) rfl (ls' := [some (aR 6 0), some (aI x1), some (aI x2), some (aI x3), some (aI 1), some (aI x5), some (aI x6_7)]) rfl (aw_iload_n eX6_areOpen_70 rfl (aw_iload eX6_areOpen_71 rfl (aw_if_eq eX6_areOpen_73 (K1 := fun z => absurd z (by decide)) (K2 := fun _ => ?_))))))
            obtain ⟨x3_15, ex3_15, h⟩ := lt_e h
            obtain ⟨x5_16, ex5_16, h⟩ := lt_e h
            refine aw_iconst eX6_areOpen_76 k_iconst_1 (aw_iload eX6_areOpen_77 rfl (aw_ishl eX6_areOpen_79 (aw_iconst eX6_areOpen_80 k_iconst_m1 (aw_ixor eX6_areOpen_81 (aw_goto eX6_areOpen_82 (aw_iand eX6_areOpen_86 (aw_istore_nY ex3_15 eX6_areOpen_87 (by decide) rfl (ls' := [some (aR 6 0), some (aI x1), some (aI x2), some (aI x3_15), some (aI 1), some (aI x5), some (aI x6_7)]) rfl (aw_iincY (iinc_k k_iconst_1 ex5_16) eX6_areOpen_88 rfl (by decide) rfl (ls' := [some (aR 6 0), some (aI x1), some (aI x2), some (aI x3_15), some (aI 1), some (aI x5_16), some (aI x6_7)]) rfl (aw_goto eX6_areOpen_91 ?_)))))))))
            exact aw_sub (ls' := [some (aR 6 0), some (aI x1), some (aI x2), some (aI x3_15), some (aI 1), some (aI x5_16), none]) ⟨rfl, ⟨rfl, ⟨rfl, ⟨rfl, ⟨rfl, ⟨rfl, trivial⟩⟩⟩⟩⟩⟩ (ih h)
def D_X6_areOpen (w : Wd) (x1 : Int32) (x2 : Int32) : Option (Int32) := (D_X6_every w).bind fun q1 => lt (q1 &&& ((w.1 25 0 2) ^^^ ((-1)))) fun x3_2 => D_X6_areOpen_20 w fuelZ x1 x2 x3_2 1 0
set_option maxHeartbeats 4000000 in
set_option maxRecDepth 100000 in
theorem A_X6_areOpen {X : XS} {w : Wd} {x1 : Int32} {x2 : Int32} {r : Int32} (h : D_X6_areOpen w x1 x2 = some r) : AW 2 X mX6_areOpen 0 (entA 7 [aR 6 0, aI x1, aI x2]) [] w (PI r w) := by
  show AW _ _ _ _ [some (aR 6 0), some (aI x1), some (aI x2), none, none, none, none] _ _ _
  unfold D_X6_areOpen at h
  obtain ⟨q1, hq1, h⟩ := bd h
  obtain ⟨x3_2, ex3_2, h⟩ := lt_e h
  refine aw_aload_n eX6_areOpen_0 rfl (aw_callVI (N := mX6_every) [] eX6_areOpen_1 tw_2_215 miX6_every (by decide) (by decide) (by decide) rfl rfl (Nat.le_of_ble_eq_true rfl) (A_X6_every hq1) (aw_aload_n eX6_areOpen_4 rfl (aw_getf (k := 6) (f := 7) eX6_areOpen_5 tw_2_54 ⟨by decide, by decide⟩ (by decide) (v := aR 25 0) rfl (aw_iconst eX6_areOpen_8 k_iconst_2 (aw_ialdK (n := 16) eX6_areOpen_9 rfl (by decide) (by decide) (j := 2) (by decide) (aw_iconst eX6_areOpen_10 k_iconst_m1 (aw_ixor eX6_areOpen_11 (aw_iand eX6_areOpen_12 (aw_istore_nY ex3_2 eX6_areOpen_13 (by decide) rfl (ls' := [some (aR 6 0), some (aI x1), some (aI x2), some (aI x3_2), none, none, none]) rfl (aw_iconst eX6_areOpen_14 k_iconst_1 (aw_istoreY rfl eX6_areOpen_15 (by decide) rfl (ls' := [some (aR 6 0), some (aI x1), some (aI x2), some (aI x3_2), some (aI 1), none, none]) rfl (aw_iconst eX6_areOpen_17 k_iconst_0 (aw_istoreY rfl eX6_areOpen_18 (by decide) rfl (ls' := [some (aR 6 0), some (aI x1), some (aI x2), some (aI x3_2), some (aI 1), some (aI 0), none]) rfl ?_)))))))))))))
  exact A_X6_areOpen_20 fuelZ h
