def D_X5_rows_36 : Nat → Int32 → Int32 → Wd → Option (Int32 × Wd)
  | 0, _, _, _ => none
  | n + 1, x2, x3, w => if (w.1 5 0 11) ≤ x3 then ((D_X2_run w).bind fun q7 => if x2 = 0 then (some (q7.1 2 0 7, q7)) else (if (q7.1 2 0 7) = 0 then (some ((-9), q7)) else (if x2 = 1 then (some (q7.1 2 0 8, q7)) else ((D_X1_everyone q7).bind fun q11 => some (q11 &&& ((q7.1 2 0 9) ^^^ ((-1))), q7))))) else ((D_X5_at w 16 0 x3).bind fun q12 => (D_X5_at w 17 0 x3).bind fun q13 => (D_X2_allowOnly w q12 q13).bind fun q14 => lt (x3 + 1) fun x3_15 => D_X5_rows_36 n x2 x3_15 q14)
set_option maxHeartbeats 4000000 in
set_option maxRecDepth 100000 in
theorem A_X5_rows_36 {X : XS} : ∀ (nn : Nat) {x2 : Int32} {x3 : Int32} {w : Wd} {r : Int32 × Wd}, D_X5_rows_36 nn x2 x3 w = some r → AW 12 X mX5_rows 36 [some (aR 5 0), none, some (aI x2), some (aI x3)] [] w (PI r.1 r.2) := by
  intro nn
  induction nn with
  | zero => intros; rename_i h; cases h
  | succ n ih =>
    intro x2 x3 w r h
    rw [D_X5_rows_36] at h
    refine aw_iload_n eX5_rows_36 rfl (aw_aload_n eX5_rows_37 rfl (aw_getf (k := 5) (f := 11) eX5_rows_38 tw_0_162 ⟨by decide, by decide⟩ (by decide) (v := aI (w.1 5 0 11)) rfl (aw_icmp_ge eX5_rows_41 (fun c6 => ?_) (fun c6 => ?_))))
    · have h := ip c6 h
      obtain ⟨q7, hq7, h⟩ := bd h
      refine aw_aload_n eX5_rows_73 rfl (aw_getf (k := 5) (f := 5) eX5_rows_74 tw_0_156 ⟨by decide, by decide⟩ (by decide) (v := aR 2 0) rfl (aw_aload_n eX5_rows_77 rfl (aw_getf (k := 5) (f := 1) eX5_rows_78 tw_0_152 ⟨by decide, by decide⟩ (by decide) (v := aR 1 0) rfl (aw_callVV (N := mX2_run) [aR 1 0] eX5_rows_81 tw_1_195 miX2_run (by decide) (by decide) (by decide) rfl rfl (Nat.le_of_ble_eq_true rfl) (A_X2_run hq7) (aw_iload_n eX5_rows_84 rfl (aw_if_ne eX5_rows_85 (fun c8 => ?_) (fun c8 => ?_)))))))
      · have h := iq c8 h
        refine aw_aload_n eX5_rows_96 rfl (aw_getf (k := 5) (f := 5) eX5_rows_97 tw_0_156 ⟨by decide, by decide⟩ (by decide) (v := aR 2 0) rfl (aw_getf (k := 2) (f := 7) eX5_rows_100 tw_0_125 ⟨by decide, by decide⟩ (by decide) (v := aI (q7.1 2 0 7)) rfl (aw_if_ne eX5_rows_103 (fun c9 => ?_) (fun c9 => ?_))))
        · have h := iq c9 h
          refine aw_iload_n eX5_rows_109 rfl (aw_iconst eX5_rows_110 k_iconst_1 (aw_icmp_ne eX5_rows_111 (fun c10 => ?_) (fun c10 => ?_)))
          · have h := iq c10 h
            obtain ⟨q11, hq11, h⟩ := bd h
            exact aw_aload_n eX5_rows_124 rfl (aw_getf (k := 5) (f := 1) eX5_rows_125 tw_0_152 ⟨by decide, by decide⟩ (by decide) (v := aR 1 0) rfl (aw_callVI (N := mX1_everyone) [] eX5_rows_128 tw_1_196 miX1_everyone (by decide) (by decide) (by decide) rfl rfl (Nat.le_of_ble_eq_true rfl) (A_X1_everyone hq11) (aw_aload_n eX5_rows_131 rfl (aw_getf (k := 5) (f := 5) eX5_rows_132 tw_0_156 ⟨by decide, by decide⟩ (by decide) (v := aR 2 0) rfl (aw_getf (k := 2) (f := 9) eX5_rows_135 tw_0_129 ⟨by decide, by decide⟩ (by decide) (v := aI (q7.1 2 0 9)) rfl (aw_iconst eX5_rows_138 k_iconst_m1 (aw_ixor eX5_rows_139 (aw_iand eX5_rows_140 (aw_iret eX5_rows_141 rfl (pI_i h))))))))))
          · have h := ip c10 h
            exact aw_aload_n eX5_rows_114 rfl (aw_getf (k := 5) (f := 5) eX5_rows_115 tw_0_156 ⟨by decide, by decide⟩ (by decide) (v := aR 2 0) rfl (aw_getf (k := 2) (f := 8) eX5_rows_118 tw_0_127 ⟨by decide, by decide⟩ (by decide) (v := aI (q7.1 2 0 8)) rfl (aw_goto eX5_rows_121 (aw_iret eX5_rows_141 rfl (pI_i h)))))
        · have h := ip c9 h
          exact aw_bipush eX5_rows_106 k_bipush_m9 (aw_iret eX5_rows_108 rfl (pI_i h))
      · have h := ip c8 h
        exact aw_aload_n eX5_rows_88 rfl (aw_getf (k := 5) (f := 5) eX5_rows_89 tw_0_156 ⟨by decide, by decide⟩ (by decide) (v := aR 2 0) rfl (aw_getf (k := 2) (f := 7) eX5_rows_92 tw_0_125 ⟨by decide, by decide⟩ (by decide) (v := aI (q7.1 2 0 7)) rfl (aw_iret eX5_rows_95 rfl (pI_i h))))
    · have h := iq c6 h
      obtain ⟨q12, hq12, h⟩ := bd h
      obtain ⟨q13, hq13, h⟩ := bd h
      obtain ⟨q14, hq14, h⟩ := bd h
      obtain ⟨x3_15, ex3_15, h⟩ := lt_e h
      refine aw_aload_n eX5_rows_44 rfl (aw_getf (k := 5) (f := 5) eX5_rows_45 tw_0_156 ⟨by decide, by decide⟩ (by decide) (v := aR 2 0) rfl (aw_aload_n eX5_rows_48 rfl (aw_getf (k := 5) (f := 8) eX5_rows_49 tw_0_159 ⟨by decide, by decide⟩ (by decide) (v := aR 16 0) rfl (aw_iload_n eX5_rows_52 rfl (aw_callSI (N := mX5_at) [aR 16 0, aI x3] eX5_rows_53 tw_1_56 msX5_at (by decide) rfl rfl (Nat.le_of_ble_eq_true rfl) (A_X5_at hq12) (aw_aload_n eX5_rows_56 rfl (aw_getf (k := 5) (f := 9) eX5_rows_57 tw_0_160 ⟨by decide, by decide⟩ (by decide) (v := aR 17 0) rfl (aw_iload_n eX5_rows_60 rfl (aw_callSI (N := mX5_at) [aR 17 0, aI x3] eX5_rows_61 tw_1_56 msX5_at (by decide) rfl rfl (Nat.le_of_ble_eq_true rfl) (A_X5_at hq13) (aw_callVV (N := mX2_allowOnly) [aI q12, aI q13] eX5_rows_64 tw_1_191 miX2_allowOnly (by decide) (by decide) (by decide) rfl rfl (Nat.le_of_ble_eq_true rfl) (A_X2_allowOnly hq14) (aw_iincY (iinc_k k_iconst_1 ex3_15) eX5_rows_67 rfl (by decide) rfl (ls' := [some (aR 5 0), none, some (aI x2), some (aI x3_15)]) rfl (aw_goto eX5_rows_70 ?_))))))))))))
      exact ih h
def D_X5_rows (w : Wd) (x1 : Int32) (x2 : Int32) : Option (Int32 × Wd) := if x1 < 0 then (some ((-2), w)) else (if 6 < x1 then (some ((-2), w)) else (if x2 < 0 then (some ((-2), w)) else (if x2 ≤ 2 then ((D_X2_reset w 0 x1).bind fun q5 => D_X5_rows_36 fuelZ x2 0 q5) else (some ((-2), w)))))
set_option maxHeartbeats 4000000 in
set_option maxRecDepth 100000 in
theorem A_X5_rows {X : XS} {w : Wd} {x1 : Int32} {x2 : Int32} {r : Int32 × Wd} (h : D_X5_rows w x1 x2 = some r) : AW 12 X mX5_rows 0 (entA 4 [aR 5 0, aI x1, aI x2]) [] w (PI r.1 r.2) := by
  show AW _ _ _ _ [some (aR 5 0), some (aI x1), some (aI x2), none] _ _ _
  unfold D_X5_rows at h
  refine aw_iload_n eX5_rows_0 rfl (aw_if_lt eX5_rows_1 (fun c1 => ?_) (fun c1 => ?_))
  · have h := ip c1 h
    exact aw_bipush eX5_rows_19 k_bipush_m2 (aw_iret eX5_rows_21 rfl (pI_i h))
  · have h := iq c1 h
    refine aw_iload_n eX5_rows_4 rfl (aw_bipush eX5_rows_5 k_bipush_6 (aw_icmp_gt eX5_rows_7 (fun c2 => ?_) (fun c2 => ?_)))
    · have h := ip c2 h
      exact aw_bipush eX5_rows_19 k_bipush_m2 (aw_iret eX5_rows_21 rfl (pI_i h))
    · have h := iq c2 h
      refine aw_iload_n eX5_rows_10 rfl (aw_if_lt eX5_rows_11 (fun c3 => ?_) (fun c3 => ?_))
      · have h := ip c3 h
        exact aw_bipush eX5_rows_19 k_bipush_m2 (aw_iret eX5_rows_21 rfl (pI_i h))
      · have h := iq c3 h
        refine aw_iload_n eX5_rows_14 rfl (aw_iconst eX5_rows_15 k_iconst_2 (aw_icmp_le eX5_rows_16 (fun c4 => ?_) (fun c4 => ?_)))
        · have h := ip c4 h
          obtain ⟨q5, hq5, h⟩ := bd h
          refine aw_aload_n eX5_rows_22 rfl (aw_getf (k := 5) (f := 5) eX5_rows_23 tw_0_156 ⟨by decide, by decide⟩ (by decide) (v := aR 2 0) rfl (aw_aload_n eX5_rows_26 rfl (aw_getf (k := 5) (f := 2) eX5_rows_27 tw_0_153 ⟨by decide, by decide⟩ (by decide) (v := aR 3 0) rfl (aw_iload_n eX5_rows_30 rfl (aw_callVV (N := mX2_reset) [aR 3 0, aI x1] eX5_rows_31 tw_1_190 miX2_reset (by decide) (by decide) (by decide) rfl rfl (Nat.le_of_ble_eq_true rfl) (A_X2_reset hq5) (aw_iconst eX5_rows_34 k_iconst_0 (aw_istore_nY rfl eX5_rows_35 (by decide) rfl (ls' := [some (aR 5 0), some (aI x1), some (aI x2), some (aI 0)]) rfl ?_)))))))
          exact aw_sub (ls' := [some (aR 5 0), none, some (aI x2), some (aI 0)]) ⟨rfl, ⟨rfl, ⟨rfl, trivial⟩⟩⟩ (A_X5_rows_36 fuelZ h)
        · have h := iq c4 h
          exact aw_bipush eX5_rows_19 k_bipush_m2 (aw_iret eX5_rows_21 rfl (pI_i h))
def D_J6_bitCount_0f7a4 (x0 : Int32) : Option (Int32) := lt (x0 - (((Int32.toUInt32 x0 >>> (Int32.toUInt32 (1 : Int32) &&& Int32.toUInt32 31)).toInt32) &&& (1431655765 : Int32))) fun x0_1 => lt ((x0_1 &&& (858993459 : Int32)) + (((Int32.toUInt32 x0_1 >>> (Int32.toUInt32 (2 : Int32) &&& Int32.toUInt32 31)).toInt32) &&& (858993459 : Int32))) fun x0_2 => lt ((x0_2 + ((Int32.toUInt32 x0_2 >>> (Int32.toUInt32 (4 : Int32) &&& Int32.toUInt32 31)).toInt32)) &&& (252645135 : Int32)) fun x0_3 => lt (x0_3 + ((Int32.toUInt32 x0_3 >>> (Int32.toUInt32 (8 : Int32) &&& Int32.toUInt32 31)).toInt32)) fun x0_4 => lt (x0_4 + ((Int32.toUInt32 x0_4 >>> (Int32.toUInt32 (16 : Int32) &&& Int32.toUInt32 31)).toInt32)) fun x0_5 => some (x0_5 &&& (63 : Int32))
set_option maxHeartbeats 4000000 in
set_option maxRecDepth 100000 in
theorem A_J6_bitCount_0f7a4 {X : XS} {w : Wd} {x0 : Int32} {r : Int32} (h : D_J6_bitCount_0f7a4 x0 = some r) : AW 0 X mJ6_bitCount_0f7a4 0 (entA 1 [aI x0]) [] w (PI r w) := by
  show AW _ _ _ _ [some (aI x0)] _ _ _
  unfold D_J6_bitCount_0f7a4 at h
  obtain ⟨x0_1, ex0_1, h⟩ := lt_e h
  obtain ⟨x0_2, ex0_2, h⟩ := lt_e h
  obtain ⟨x0_3, ex0_3, h⟩ := lt_e h
  obtain ⟨x0_4, ex0_4, h⟩ := lt_e h
  obtain ⟨x0_5, ex0_5, h⟩ := lt_e h
  exact aw_iload_n eJ6_bitCount_0f7a4_0 rfl (aw_iload_n eJ6_bitCount_0f7a4_1 rfl (aw_iconst eJ6_bitCount_0f7a4_2 k_iconst_1 (aw_iushr eJ6_bitCount_0f7a4_3 (aw_ldcw eJ6_bitCount_0f7a4_4 tw_1_217 (aw_iand eJ6_bitCount_0f7a4_7 (aw_isub eJ6_bitCount_0f7a4_8 (aw_istore_nY ex0_1 eJ6_bitCount_0f7a4_9 (by decide) rfl (ls' := [some (aI x0_1)]) rfl (aw_iload_n eJ6_bitCount_0f7a4_10 rfl (aw_ldcw eJ6_bitCount_0f7a4_11 tw_1_218 (aw_iand eJ6_bitCount_0f7a4_14 (aw_iload_n eJ6_bitCount_0f7a4_15 rfl (aw_iconst eJ6_bitCount_0f7a4_16 k_iconst_2 (aw_iushr eJ6_bitCount_0f7a4_17 (aw_ldcw eJ6_bitCount_0f7a4_18 tw_1_218 (aw_iand eJ6_bitCount_0f7a4_21 (aw_iadd eJ6_bitCount_0f7a4_22 (aw_istore_nY ex0_2 eJ6_bitCount_0f7a4_23 (by decide) rfl (ls' := [some (aI x0_2)]) rfl (aw_iload_n eJ6_bitCount_0f7a4_24 rfl (aw_iload_n eJ6_bitCount_0f7a4_25 rfl (aw_iconst eJ6_bitCount_0f7a4_26 k_iconst_4 (aw_iushr eJ6_bitCount_0f7a4_27 (aw_iadd eJ6_bitCount_0f7a4_28 (aw_ldcw eJ6_bitCount_0f7a4_29 tw_1_219 (aw_iand eJ6_bitCount_0f7a4_32 (aw_istore_nY ex0_3 eJ6_bitCount_0f7a4_33 (by decide) rfl (ls' := [some (aI x0_3)]) rfl (aw_iload_n eJ6_bitCount_0f7a4_34 rfl (aw_iload_n eJ6_bitCount_0f7a4_35 rfl (aw_bipush eJ6_bitCount_0f7a4_36 k_bipush_8 (aw_iushr eJ6_bitCount_0f7a4_38 (aw_iadd eJ6_bitCount_0f7a4_39 (aw_istore_nY ex0_4 eJ6_bitCount_0f7a4_40 (by decide) rfl (ls' := [some (aI x0_4)]) rfl (aw_iload_n eJ6_bitCount_0f7a4_41 rfl (aw_iload_n eJ6_bitCount_0f7a4_42 rfl (aw_bipush eJ6_bitCount_0f7a4_43 k_bipush_16 (aw_iushr eJ6_bitCount_0f7a4_45 (aw_iadd eJ6_bitCount_0f7a4_46 (aw_istore_nY ex0_5 eJ6_bitCount_0f7a4_47 (by decide) rfl (ls' := [some (aI x0_5)]) rfl (aw_iload_n eJ6_bitCount_0f7a4_48 rfl (aw_bipush eJ6_bitCount_0f7a4_49 k_bipush_63 (aw_iand eJ6_bitCount_0f7a4_51 (aw_iret eJ6_bitCount_0f7a4_52 rfl (pI_p h))))))))))))))))))))))))))))))))))))))))))
def D_X5_fillMostOf_52 (k17 : Int32 → Wd → Option (Wd)) : Nat → Int32 → Int32 → Int32 → Wd → Option (Wd)
  | 0, _, _, _, _ => none
  | n + 1, x1, x2, x3, w => if 6 ≤ x3 then (if inB x1 64 then lt (wS w 18 0 (Int32.toNatClampNeg x1) x2) fun w7 => lt (x1 + 1) fun x1_8 => k17 x1_8 w7 else none) else (if ((x1 >>> (x3 &&& 31)) &&& (1 : Int32)) = 0 then (lt (x3 + 1) fun x3_10 => D_X5_fillMostOf_52 k17 n x1 x2 x3_10 w) else ((D_X5_at w 18 0 (x1 &&& (((1 : Int32) <<< (x3 &&& 31)) ^^^ ((-1))))).bind fun q11 => lt (maxZ x2 q11) fun x2_12 => lt (x3 + 1) fun x3_13 => D_X5_fillMostOf_52 k17 n x1 x2_12 x3_13 w))
set_option maxHeartbeats 4000000 in
set_option maxRecDepth 100000 in
theorem A_X5_fillMostOf_52 {X : XS} {k17 : Int32 → Wd → Option (Wd)} (hk17 : ∀ {x1 : Int32} {w : Wd} {r : Wd}, k17 x1 w = some r → AW 13 X mX5_fillMostOf 17 [some (aR 5 0), some (aI x1), none, none] [] w (PV r)) : ∀ (nn : Nat) {x1 : Int32} {x2 : Int32} {x3 : Int32} {w : Wd} {r : Wd}, D_X5_fillMostOf_52 k17 nn x1 x2 x3 w = some r → AW 13 X mX5_fillMostOf 52 [some (aR 5 0), some (aI x1), some (aI x2), some (aI x3)] [] w (PV r) := by
  intro nn
  induction nn with
  | zero => intros; rename_i h; cases h
  | succ n ih =>
    intro x1 x2 x3 w r h
    rw [D_X5_fillMostOf_52] at h
    refine aw_iload_n eX5_fillMostOf_52 rfl (aw_bipush eX5_fillMostOf_53 k_bipush_6 (aw_icmp_ge eX5_fillMostOf_55 (fun c5 => ?_) (fun c5 => ?_)))
    · have h := ip c5 h
      obtain ⟨hc6, h⟩ := ck h
      obtain ⟨w7, ew7, h⟩ := lt_e h
      obtain ⟨x1_8, ex1_8, h⟩ := lt_e h
      refine aw_aload_n eX5_fillMostOf_91 rfl (aw_getf (k := 5) (f := 10) eX5_fillMostOf_92 tw_0_161 ⟨by decide, by decide⟩ (by decide) (v := aR 18 0) rfl (aw_iload_n eX5_fillMostOf_95 rfl (aw_iload_n eX5_fillMostOf_96 rfl (aw_iastK (n := 64) eX5_fillMostOf_97 rfl (by decide) hc6 (j := (Int32.toNatClampNeg x1)) rfl (aw_wn ew7 (aw_iincY (iinc_k k_iconst_1 ex1_8) eX5_fillMostOf_98 rfl (by decide) rfl (ls' := [some (aR 5 0), some (aI x1_8), some (aI x2), some (aI x3)]) rfl (aw_goto eX5_fillMostOf_101 ?_)))))))
      exact aw_sub (ls' := [some (aR 5 0), some (aI x1_8), none, none]) ⟨rfl, ⟨rfl, trivial⟩⟩ (hk17 h)
    · have h := iq c5 h
      refine aw_iload_n eX5_fillMostOf_58 rfl (aw_iload_n eX5_fillMostOf_59 rfl (aw_ishr eX5_fillMostOf_60 (aw_iconst eX5_fillMostOf_61 k_iconst_1 (aw_iand eX5_fillMostOf_62 (aw_if_eq eX5_fillMostOf_63 (fun c9 => ?_) (fun c9 => ?_))))))
      · have h := ip c9 h
        obtain ⟨x3_10, ex3_10, h⟩ := lt_e h
        refine aw_iincY (iinc_k k_iconst_1 ex3_10) eX5_fillMostOf_85 rfl (by decide) rfl (ls' := [some (aR 5 0), some (aI x1), some (aI x2), some (aI x3_10)]) rfl (aw_goto eX5_fillMostOf_88 ?_)
        exact ih h
      · have h := iq c9 h
        obtain ⟨q11, hq11, h⟩ := bd h
        obtain ⟨x2_12, ex2_12, h⟩ := lt_e h
        obtain ⟨x3_13, ex3_13, h⟩ := lt_e h
        refine aw_iload_n eX5_fillMostOf_66 rfl (aw_aload_n eX5_fillMostOf_67 rfl (aw_getf (k := 5) (f := 10) eX5_fillMostOf_68 tw_0_161 ⟨by decide, by decide⟩ (by decide) (v := aR 18 0) rfl (aw_iload_n eX5_fillMostOf_71 rfl (aw_iconst eX5_fillMostOf_72 k_iconst_1 (aw_iload_n eX5_fillMostOf_73 rfl (aw_ishl eX5_fillMostOf_74 (aw_iconst eX5_fillMostOf_75 k_iconst_m1 (aw_ixor eX5_fillMostOf_76 (aw_iand eX5_fillMostOf_77 (aw_callSI (N := mX5_at) [aR 18 0, aI (x1 &&& (((1 : Int32) <<< (x3 &&& 31)) ^^^ ((-1))))] eX5_fillMostOf_78 tw_1_56 msX5_at (by decide) rfl rfl (Nat.le_of_ble_eq_true rfl) (A_X5_at hq11) (aw_mmax eX5_fillMostOf_81 tw_1_220 (by decide) (Nat.le_of_ble_eq_true rfl) (aw_istore_nY ex2_12 eX5_fillMostOf_84 (by decide) rfl (ls' := [some (aR 5 0), some (aI x1), some (aI x2_12), some (aI x3)]) rfl (aw_iincY (iinc_k k_iconst_1 ex3_13) eX5_fillMostOf_85 rfl (by decide) rfl (ls' := [some (aR 5 0), some (aI x1), some (aI x2_12), some (aI x3_13)]) rfl (aw_goto eX5_fillMostOf_88 ?_))))))))))))))
        exact ih h
def D_X5_fillMostOf_17 : Nat → Int32 → Wd → Option (Wd)
  | 0, _, _ => none
  | n + 1, x1, w => if 64 ≤ x1 then (some w) else ((D_X5_at w 14 0 x1).bind fun q3 => if q3 = 0 then (D_X5_fillMostOf_52 (fun y0 wy => D_X5_fillMostOf_17 n y0 wy) fuelZ x1 0 0 w) else ((D_J6_bitCount_0f7a4 x1).bind fun q14 => if inB x1 64 then lt (wS w 18 0 (Int32.toNatClampNeg x1) q14) fun w16 => lt (x1 + 1) fun x1_17 => D_X5_fillMostOf_17 n x1_17 w16 else none))
set_option maxHeartbeats 4000000 in
set_option maxRecDepth 100000 in
theorem A_X5_fillMostOf_17 {X : XS} : ∀ (nn : Nat) {x1 : Int32} {w : Wd} {r : Wd}, D_X5_fillMostOf_17 nn x1 w = some r → AW 13 X mX5_fillMostOf 17 [some (aR 5 0), some (aI x1), none, none] [] w (PV r) := by
  intro nn
  induction nn with
  | zero => intros; rename_i h; cases h
  | succ n ih =>
    intro x1 w r h
    rw [D_X5_fillMostOf_17] at h
    refine aw_iload_n eX5_fillMostOf_17 rfl (aw_aload_n eX5_fillMostOf_18 rfl (aw_getf (k := 5) (f := 10) eX5_fillMostOf_19 tw_0_161 ⟨by decide, by decide⟩ (by decide) (v := aR 18 0) rfl (aw_alenK eX5_fillMostOf_22 rfl (by decide) (v := 64) kl_64 (aw_icmp_ge eX5_fillMostOf_23 (fun c2 => ?_) (fun c2 => ?_)))))
    · have h := ip c2 h
      exact aw_vret eX5_fillMostOf_104 rfl (pV_i h)
    · have h := iq c2 h
      obtain ⟨q3, hq3, h⟩ := bd h
      refine aw_iconst eX5_fillMostOf_26 k_iconst_0 (aw_istore_nY rfl eX5_fillMostOf_27 (by decide) rfl (ls' := [some (aR 5 0), some (aI x1), some (aI 0), none]) rfl (aw_aload_n eX5_fillMostOf_28 rfl (aw_getf (k := 5) (f := 5) eX5_fillMostOf_29 tw_0_156 ⟨by decide, by decide⟩ (by decide) (v := aR 2 0) rfl (aw_getf (k := 2) (f := 2) eX5_fillMostOf_32 tw_0_116 ⟨by decide, by decide⟩ (by decide) (v := aR 14 0) rfl (aw_iload_n eX5_fillMostOf_35 rfl (aw_callSI (N := mX5_at) [aR 14 0, aI x1] eX5_fillMostOf_36 tw_1_56 msX5_at (by decide) rfl rfl (Nat.le_of_ble_eq_true rfl) (A_X5_at hq3) (aw_if_eq eX5_fillMostOf_39 (fun c4 => ?_) (fun c4 => ?_))))))))
      · have h := ip c4 h
        refine aw_iconst eX5_fillMostOf_50 k_iconst_0 (aw_istore_nY rfl eX5_fillMostOf_51 (by decide) rfl (ls' := [some (aR 5 0), some (aI x1), some (aI 0), some (aI 0)]) rfl ?_)
        exact A_X5_fillMostOf_52 (fun h => ih h) fuelZ h
      · have h := iq c4 h
        obtain ⟨q14, hq14, h⟩ := bd h
        obtain ⟨hc15, h⟩ := ck h
        obtain ⟨w16, ew16, h⟩ := lt_e h
        obtain ⟨x1_17, ex1_17, h⟩ := lt_e h
        refine aw_iload_n eX5_fillMostOf_42 rfl (aw_callSI (N := mJ6_bitCount_0f7a4) [aI x1] eX5_fillMostOf_43 tw_1_214 msJ6_bitCount_0f7a4 (by decide) rfl rfl (Nat.le_of_ble_eq_true rfl) (A_J6_bitCount_0f7a4 hq14) (aw_istore_nY rfl eX5_fillMostOf_46 (by decide) rfl (ls' := [some (aR 5 0), some (aI x1), some (aI q14), none]) rfl (aw_goto eX5_fillMostOf_47 (aw_aload_n eX5_fillMostOf_91 rfl (aw_getf (k := 5) (f := 10) eX5_fillMostOf_92 tw_0_161 ⟨by decide, by decide⟩ (by decide) (v := aR 18 0) rfl (aw_iload_n eX5_fillMostOf_95 rfl (aw_iload_n eX5_fillMostOf_96 rfl (aw_iastK (n := 64) eX5_fillMostOf_97 rfl (by decide) hc15 (j := (Int32.toNatClampNeg x1)) rfl (aw_wn ew16 (aw_iincY (iinc_k k_iconst_1 ex1_17) eX5_fillMostOf_98 rfl (by decide) rfl (ls' := [some (aR 5 0), some (aI x1_17), some (aI q14), none]) rfl (aw_goto eX5_fillMostOf_101 ?_)))))))))))
        exact aw_sub (ls' := [some (aR 5 0), some (aI x1_17), none, none]) ⟨rfl, ⟨rfl, trivial⟩⟩ (ih h)
def D_X5_fillMostOf (w : Wd) : Option (Wd) := (D_X2_runFrom w 0).bind fun q1 => D_X5_fillMostOf_17 fuelZ 0 q1
set_option maxHeartbeats 4000000 in
set_option maxRecDepth 100000 in
theorem A_X5_fillMostOf {X : XS} {w : Wd} {r : Wd} (h : D_X5_fillMostOf w = some r) : AW 13 X mX5_fillMostOf 0 (entA 4 [aR 5 0]) [] w (PV r) := by
  show AW _ _ _ _ [some (aR 5 0), none, none, none] _ _ _
  unfold D_X5_fillMostOf at h
  obtain ⟨q1, hq1, h⟩ := bd h
  refine aw_aload_n eX5_fillMostOf_0 rfl (aw_getf (k := 5) (f := 5) eX5_fillMostOf_1 tw_0_156 ⟨by decide, by decide⟩ (by decide) (v := aR 2 0) rfl (aw_aload_n eX5_fillMostOf_4 rfl (aw_getf (k := 5) (f := 1) eX5_fillMostOf_5 tw_0_152 ⟨by decide, by decide⟩ (by decide) (v := aR 1 0) rfl (aw_aload_n eX5_fillMostOf_8 rfl (aw_getf (k := 5) (f := 2) eX5_fillMostOf_9 tw_0_153 ⟨by decide, by decide⟩ (by decide) (v := aR 3 0) rfl (aw_callVV (N := mX2_runFrom) [aR 1 0, aR 3 0] eX5_fillMostOf_12 tw_1_118 miX2_runFrom (by decide) (by decide) (by decide) rfl rfl (Nat.le_of_ble_eq_true rfl) (A_X2_runFrom hq1) (aw_iconst eX5_fillMostOf_15 k_iconst_0 (aw_istore_nY rfl eX5_fillMostOf_16 (by decide) rfl (ls' := [some (aR 5 0), some (aI 0), none, none]) rfl ?_))))))))
  exact A_X5_fillMostOf_17 fuelZ h
def D_X5_greatestDivisor_7 : Nat → Int32 → Int32 → Int32 → Option (Int32)
  | 0, _, _, _ => none
  | n + 1, x2, x3, x4 => if 64 ≤ x4 then (some (x2)) else (if x3 ≤ 0 then (some (x2)) else (if ¬ x3 = 0 then lt (x2 - x2 / x3 * x3) fun x5_4 => lt (x4 + 1) fun x4_5 => D_X5_greatestDivisor_7 n x3 x5_4 x4_5 else none))
set_option maxHeartbeats 4000000 in
set_option maxRecDepth 100000 in
theorem A_X5_greatestDivisor_7 {X : XS} {w : Wd} : ∀ (nn : Nat) {x2 : Int32} {x3 : Int32} {x4 : Int32} {r : Int32}, D_X5_greatestDivisor_7 nn x2 x3 x4 = some r → AW 0 X mX5_greatestDivisor 7 [none, none, some (aI x2), some (aI x3), some (aI x4), none] [] w (PI r w) := by
  intro nn
  induction nn with
  | zero => intros; rename_i h; cases h
  | succ n ih =>
    intro x2 x3 x4 r h
    rw [D_X5_greatestDivisor_7] at h
    refine aw_iload eX5_greatestDivisor_7 rfl (aw_bipush eX5_greatestDivisor_9 k_bipush_64 (aw_icmp_ge eX5_greatestDivisor_11 (fun c1 => ?_) (fun c1 => ?_)))
    · have h := ip c1 h
      exact aw_iload_n eX5_greatestDivisor_34 rfl (aw_iret eX5_greatestDivisor_35 rfl (pI_p h))
    · have h := iq c1 h
      refine aw_iload_n eX5_greatestDivisor_14 rfl (aw_if_le eX5_greatestDivisor_15 (fun c2 => ?_) (fun c2 => ?_))
      · have h := ip c2 h
        exact aw_iload_n eX5_greatestDivisor_34 rfl (aw_iret eX5_greatestDivisor_35 rfl (pI_p h))
      · have h := iq c2 h
        obtain ⟨hc3, h⟩ := ck h
        obtain ⟨x5_4, ex5_4, h⟩ := lt_e h
        obtain ⟨x4_5, ex4_5, h⟩ := lt_e h
        refine aw_iload_n eX5_greatestDivisor_18 rfl (aw_iload_n eX5_greatestDivisor_19 rfl (aw_irem eX5_greatestDivisor_20 hc3 (aw_istoreY ex5_4 eX5_greatestDivisor_21 (by decide) rfl (ls' := [none, none, some (aI x2), some (aI x3), some (aI x4), some (aI x5_4)]) rfl (aw_iload_n eX5_greatestDivisor_23 rfl (aw_istore_nY rfl eX5_greatestDivisor_24 (by decide) rfl (ls' := [none, none, some (aI x3), some (aI x3), some (aI x4), some (aI x5_4)]) rfl (aw_iload eX5_greatestDivisor_25 rfl (aw_istore_nY rfl eX5_greatestDivisor_27 (by decide) rfl (ls' := [none, none, some (aI x3), some (aI x5_4), some (aI x4), some (aI x5_4)]) rfl (aw_iincY (iinc_k k_iconst_1 ex4_5) eX5_greatestDivisor_28 rfl (by decide) rfl (ls' := [none, none, some (aI x3), some (aI x5_4), some (aI x4_5), some (aI x5_4)]) rfl (aw_goto eX5_greatestDivisor_31 ?_)))))))))
        exact aw_sub (ls' := [none, none, some (aI x3), some (aI x5_4), some (aI x4_5), none]) ⟨rfl, ⟨rfl, ⟨rfl, trivial⟩⟩⟩ (ih h)
def D_X5_greatestDivisor (x0 : Int32) (x1 : Int32) : Option (Int32) := D_X5_greatestDivisor_7 fuelZ x0 x1 0
set_option maxHeartbeats 4000000 in
set_option maxRecDepth 100000 in
theorem A_X5_greatestDivisor {X : XS} {w : Wd} {x0 : Int32} {x1 : Int32} {r : Int32} (h : D_X5_greatestDivisor x0 x1 = some r) : AW 0 X mX5_greatestDivisor 0 (entA 6 [aI x0, aI x1]) [] w (PI r w) := by
  show AW _ _ _ _ [some (aI x0), some (aI x1), none, none, none, none] _ _ _
  unfold D_X5_greatestDivisor at h
  refine aw_iload_n eX5_greatestDivisor_0 rfl (aw_istore_nY rfl eX5_greatestDivisor_1 (by decide) rfl (ls' := [some (aI x0), some (aI x1), some (aI x0), none, none, none]) rfl (aw_iload_n eX5_greatestDivisor_2 rfl (aw_istore_nY rfl eX5_greatestDivisor_3 (by decide) rfl (ls' := [some (aI x0), some (aI x1), some (aI x0), some (aI x1), none, none]) rfl (aw_iconst eX5_greatestDivisor_4 k_iconst_0 (aw_istoreY rfl eX5_greatestDivisor_5 (by decide) rfl (ls' := [some (aI x0), some (aI x1), some (aI x0), some (aI x1), some (aI 0), none]) rfl ?_)))))
  exact aw_sub (ls' := [none, none, some (aI x0), some (aI x1), some (aI 0), none]) ⟨rfl, ⟨rfl, ⟨rfl, trivial⟩⟩⟩ (A_X5_greatestDivisor_7 fuelZ h)
def D_X5_fraction (x0 : Int32) (x1 : Int32) (x2 : Int32) : Option (Int32) := (D_X5_greatestDivisor x0 x1).bind fun q1 => if 1 ≤ q1 then (if x2 = 0 then (if ¬ q1 = 0 then some (x1 / q1) else none) else (if ¬ q1 = 0 then some (x0 / q1) else none)) else (if x2 = 0 then (some (x1)) else (some (x0)))
set_option maxHeartbeats 4000000 in
set_option maxRecDepth 100000 in
theorem A_X5_fraction {X : XS} {w : Wd} {x0 : Int32} {x1 : Int32} {x2 : Int32} {r : Int32} (h : D_X5_fraction x0 x1 x2 = some r) : AW 1 X mX5_fraction 0 (entA 4 [aI x0, aI x1, aI x2]) [] w (PI r w) := by
  show AW _ _ _ _ [some (aI x0), some (aI x1), some (aI x2), none] _ _ _
  unfold D_X5_fraction at h
  obtain ⟨q1, hq1, h⟩ := bd h
  refine aw_iload_n eX5_fraction_0 rfl (aw_iload_n eX5_fraction_1 rfl (aw_callSI (N := mX5_greatestDivisor) [aI x0, aI x1] eX5_fraction_2 tw_1_207 msX5_greatestDivisor (by decide) rfl rfl (Nat.le_of_ble_eq_true rfl) (A_X5_greatestDivisor hq1) (aw_istore_nY rfl eX5_fraction_5 (by decide) rfl (ls' := [some (aI x0), some (aI x1), some (aI x2), some (aI q1)]) rfl (aw_iload_n eX5_fraction_6 rfl (aw_iconst eX5_fraction_7 k_iconst_1 (aw_icmp_ge eX5_fraction_8 (fun c2 => ?_) (fun c2 => ?_)))))))
  · have h := ip c2 h
    refine aw_iload_n eX5_fraction_21 rfl (aw_if_eq eX5_fraction_22 (fun c3 => ?_) (fun c3 => ?_))
    · have h := ip c3 h
      obtain ⟨hc4, h⟩ := ck h
      exact aw_iload_n eX5_fraction_29 rfl (aw_iload_n eX5_fraction_30 rfl (aw_idiv eX5_fraction_31 hc4 (aw_iret eX5_fraction_32 rfl (pI_p h))))
    · have h := iq c3 h
      obtain ⟨hc5, h⟩ := ck h
      exact aw_iload_n eX5_fraction_25 rfl (aw_goto eX5_fraction_26 (aw_iload_n eX5_fraction_30 rfl (aw_idiv eX5_fraction_31 hc5 (aw_iret eX5_fraction_32 rfl (pI_p h)))))
  · have h := iq c2 h
    refine aw_iload_n eX5_fraction_11 rfl (aw_if_eq eX5_fraction_12 (fun c6 => ?_) (fun c6 => ?_))
    · have h := ip c6 h
      exact aw_iload_n eX5_fraction_19 rfl (aw_iret eX5_fraction_20 rfl (pI_p h))
    · have h := iq c6 h
      exact aw_iload_n eX5_fraction_15 rfl (aw_goto eX5_fraction_16 (aw_iret eX5_fraction_20 rfl (pI_p h)))
def D_X5_share_72 : Nat → Int32 → Int32 → Int32 → Int32 → Int32 → Int32 → Wd → Option (Int32 × Wd)
  | 0, _, _, _, _, _, _, _ => none
  | n + 1, x2, x3, x4, x5, x6, x7, w => if 64 ≤ x7 then ((D_X5_at w 41 0 (x5 + (1 : Int32))).bind fun q12 => (D_X5_fraction x6 q12 x2).bind fun q13 => some (q13, w)) else (if (x7 &&& (x3 ^^^ ((-1)))) = 0 then (if (x7 &&& x4) = 0 then ((D_J6_bitCount_0f7a4 x7).bind fun q18 => (D_X5_at w 18 0 (x7 ||| x4)).bind fun q19 => (D_X5_at w 18 0 x7).bind fun q20 => lt (q19 - q20) fun x9_21 => (D_X5_at w 41 0 q18).bind fun q22 => (D_X5_at w 41 0 (x5 - q18)).bind fun q23 => lt (x6 + ((x9_21 * q22) * q23)) fun x6_24 => lt (x7 + 1) fun x7_25 => D_X5_share_72 n x2 x3 x4 x5 x6_24 x7_25 w) else (lt (x7 + 1) fun x7_17 => D_X5_share_72 n x2 x3 x4 x5 x6 x7_17 w)) else (lt (x7 + 1) fun x7_15 => D_X5_share_72 n x2 x3 x4 x5 x6 x7_15 w))
set_option maxHeartbeats 4000000 in
set_option maxRecDepth 100000 in
theorem A_X5_share_72 {X : XS} : ∀ (nn : Nat) {x2 : Int32} {x3 : Int32} {x4 : Int32} {x5 : Int32} {x6 : Int32} {x7 : Int32} {w : Wd} {r : Int32 × Wd}, D_X5_share_72 nn x2 x3 x4 x5 x6 x7 w = some r → AW 14 X mX5_share 72 [some (aR 5 0), none, some (aI x2), some (aI x3), some (aI x4), some (aI x5), some (aI x6), some (aI x7), none, none] [] w (PI r.1 r.2) := by
  intro nn
  induction nn with
  | zero => intros; rename_i h; cases h
  | succ n ih =>
    intro x2 x3 x4 x5 x6 x7 w r h
    rw [D_X5_share_72] at h
    refine aw_iload eX5_share_72 rfl (aw_bipush eX5_share_74 k_bipush_64 (aw_icmp_ge eX5_share_76 (fun c11 => ?_) (fun c11 => ?_)))
    · have h := ip c11 h
      obtain ⟨q12, hq12, h⟩ := bd h
      obtain ⟨q13, hq13, h⟩ := bd h
      exact aw_iload eX5_share_161 rfl (aw_getsF eX5_share_163 tw_1_221 (aw_iload eX5_share_166 rfl (aw_iconst eX5_share_168 k_iconst_1 (aw_iadd eX5_share_169 (aw_callSI (N := mX5_at) [aR 41 0, aI (x5 + (1 : Int32))] eX5_share_170 tw_1_56 msX5_at (by decide) rfl rfl (Nat.le_of_ble_eq_true rfl) (A_X5_at hq12) (aw_iload_n eX5_share_173 rfl (aw_callSI (N := mX5_fraction) [aI x6, aI q12, aI x2] eX5_share_174 tw_1_204 msX5_fraction (by decide) rfl rfl (Nat.le_of_ble_eq_true rfl) (A_X5_fraction hq13) (aw_iret eX5_share_177 rfl (pI_i h)))))))))
    · have h := iq c11 h
      refine aw_iload eX5_share_79 rfl (aw_iload_n eX5_share_81 rfl (aw_iconst eX5_share_82 k_iconst_m1 (aw_ixor eX5_share_83 (aw_iand eX5_share_84 (aw_if_ne eX5_share_85 (fun c14 => ?_) (fun c14 => ?_))))))
      · have h := iq c14 h
        obtain ⟨x7_15, ex7_15, h⟩ := lt_e h
        refine aw_iincY (iinc_k k_iconst_1 ex7_15) eX5_share_155 rfl (by decide) rfl (ls' := [some (aR 5 0), none, some (aI x2), some (aI x3), some (aI x4), some (aI x5), some (aI x6), some (aI x7_15), none, none]) rfl (aw_goto eX5_share_158 ?_)
        exact ih h
      · have h := ip c14 h
        refine aw_iload eX5_share_88 rfl (aw_iload eX5_share_90 rfl (aw_iand eX5_share_92 (aw_if_ne eX5_share_93 (fun c16 => ?_) (fun c16 => ?_))))
        · have h := iq c16 h
          obtain ⟨x7_17, ex7_17, h⟩ := lt_e h
          refine aw_iincY (iinc_k k_iconst_1 ex7_17) eX5_share_155 rfl (by decide) rfl (ls' := [some (aR 5 0), none, some (aI x2), some (aI x3), some (aI x4), some (aI x5), some (aI x6), some (aI x7_17), none, none]) rfl (aw_goto eX5_share_158 ?_)
          exact ih h
        · have h := ip c16 h
          obtain ⟨q18, hq18, h⟩ := bd h
          obtain ⟨q19, hq19, h⟩ := bd h
          obtain ⟨q20, hq20, h⟩ := bd h
          obtain ⟨x9_21, ex9_21, h⟩ := lt_e h
          obtain ⟨q22, hq22, h⟩ := bd h
          obtain ⟨q23, hq23, h⟩ := bd h
          obtain ⟨x6_24, ex6_24, h⟩ := lt_e h
          obtain ⟨x7_25, ex7_25, h⟩ := lt_e h
          refine aw_iload eX5_share_96 rfl (aw_callSI (N := mJ6_bitCount_0f7a4) [aI x7] eX5_share_98 tw_1_214 msJ6_bitCount_0f7a4 (by decide) rfl rfl (Nat.le_of_ble_eq_true rfl) (A_J6_bitCount_0f7a4 hq18) (aw_istoreY rfl eX5_share_101 (by decide) rfl (ls' := [some (aR 5 0), none, some (aI x2), some (aI x3), some (aI x4), some (aI x5), some (aI x6), some (aI x7), some (aI q18), none]) rfl (aw_aload_n eX5_share_103 rfl (aw_getf (k := 5) (f := 10) eX5_share_104 tw_0_161 ⟨by decide, by decide⟩ (by decide) (v := aR 18 0) rfl (aw_iload eX5_share_107 rfl (aw_iload eX5_share_109 rfl (aw_ior eX5_share_111 (aw_callSI (N := mX5_at) [aR 18 0, aI (x7 ||| x4)] eX5_share_112 tw_1_56 msX5_at (by decide) rfl rfl (Nat.le_of_ble_eq_true rfl) (A_X5_at hq19) (aw_aload_n eX5_share_115 rfl (aw_getf (k := 5) (f := 10) eX5_share_116 tw_0_161 ⟨by decide, by decide⟩ (by decide) (v := aR 18 0) rfl (aw_iload eX5_share_119 rfl (aw_callSI (N := mX5_at) [aR 18 0, aI x7] eX5_share_121 tw_1_56 msX5_at (by decide) rfl rfl (Nat.le_of_ble_eq_true rfl) (A_X5_at hq20) (aw_isub eX5_share_124 (aw_istoreY ex9_21 eX5_share_125 (by decide) rfl (ls' := [some (aR 5 0), none, some (aI x2), some (aI x3), some (aI x4), some (aI x5), some (aI x6), some (aI x7), some (aI q18), some (aI x9_21)]) rfl (aw_iload eX5_share_127 rfl (aw_iload eX5_share_129 rfl (aw_getsF eX5_share_131 tw_1_221 (aw_iload eX5_share_134 rfl (aw_callSI (N := mX5_at) [aR 41 0, aI q18] eX5_share_136 tw_1_56 msX5_at (by decide) rfl rfl (Nat.le_of_ble_eq_true rfl) (A_X5_at hq22) (aw_imul eX5_share_139 (aw_getsF eX5_share_140 tw_1_221 (aw_iload eX5_share_143 rfl (aw_iload eX5_share_145 rfl (aw_isub eX5_share_147 (aw_callSI (N := mX5_at) [aR 41 0, aI (x5 - q18)] eX5_share_148 tw_1_56 msX5_at (by decide) rfl rfl (Nat.le_of_ble_eq_true rfl) (A_X5_at hq23) (aw_imul eX5_share_151 (aw_iadd eX5_share_152 (aw_istoreY ex6_24 eX5_share_153 (by decide) rfl (ls' := [some (aR 5 0), none, some (aI x2), some (aI x3), some (aI x4), some (aI x5), some (aI x6_24), some (aI x7), some (aI q18), some (aI x9_21)]) rfl (aw_iincY (iinc_k k_iconst_1 ex7_25) eX5_share_155 rfl (by decide) rfl (ls' := [some (aR 5 0), none, some (aI x2), some (aI x3), some (aI x4), some (aI x5), some (aI x6_24), some (aI x7_25), some (aI q18), some (aI x9_21)]) rfl (aw_goto eX5_share_158 ?_))))))))))))))))))))))))))))))
          exact aw_sub (ls' := [some (aR 5 0), none, some (aI x2), some (aI x3), some (aI x4), some (aI x5), some (aI x6_24), some (aI x7_25), none, none]) ⟨rfl, ⟨rfl, ⟨rfl, ⟨rfl, ⟨rfl, ⟨rfl, ⟨rfl, trivial⟩⟩⟩⟩⟩⟩⟩ (ih h)
def D_X5_share (w : Wd) (x1 : Int32) (x2 : Int32) : Option (Int32 × Wd) := (D_X1_has w x1).bind fun q1 => if q1 = 0 then (some ((-1), w)) else ((D_X3_isWed w 0 x1).bind fun q3 => if q3 = 0 then ((D_X5_fillMostOf w).bind fun q5 => (D_X1_everyone q5).bind fun q6 => lt (q6 &&& ((q5.1 3 0 3) ^^^ ((-1)))) fun x3_7 => lt ((1 : Int32) <<< (x1 &&& 31)) fun x4_8 => (D_J6_bitCount_0f7a4 x3_7).bind fun q9 => lt (q9 - (1 : Int32)) fun x5_10 => D_X5_share_72 fuelZ x2 x3_7 x4_8 x5_10 0 0 q5) else ((D_X5_fraction 0 1 x2).bind fun q26 => some (q26, w)))
set_option maxHeartbeats 4000000 in
set_option maxRecDepth 100000 in
theorem A_X5_share {X : XS} {w : Wd} {x1 : Int32} {x2 : Int32} {r : Int32 × Wd} (h : D_X5_share w x1 x2 = some r) : AW 14 X mX5_share 0 (entA 10 [aR 5 0, aI x1, aI x2]) [] w (PI r.1 r.2) := by
  show AW _ _ _ _ [some (aR 5 0), some (aI x1), some (aI x2), none, none, none, none, none, none, none] _ _ _
  unfold D_X5_share at h
  obtain ⟨q1, hq1, h⟩ := bd h
  refine aw_aload_n eX5_share_0 rfl (aw_getf (k := 5) (f := 1) eX5_share_1 tw_0_152 ⟨by decide, by decide⟩ (by decide) (v := aR 1 0) rfl (aw_iload_n eX5_share_4 rfl (aw_callVI (N := mX1_has) [aI x1] eX5_share_5 tw_1_20 miX1_has (by decide) (by decide) (by decide) rfl rfl (Nat.le_of_ble_eq_true rfl) (A_X1_has hq1) (aw_if_ne eX5_share_8 (fun c2 => ?_) (fun c2 => ?_)))))
  · have h := iq c2 h
    obtain ⟨q3, hq3, h⟩ := bd h
    refine aw_aload_n eX5_share_13 rfl (aw_getf (k := 5) (f := 2) eX5_share_14 tw_0_153 ⟨by decide, by decide⟩ (by decide) (v := aR 3 0) rfl (aw_iload_n eX5_share_17 rfl (aw_callVI (N := mX3_isWed) [aI x1] eX5_share_18 tw_1_25 miX3_isWed (by decide) (by decide) (by decide) rfl rfl (Nat.le_of_ble_eq_true rfl) (A_X3_isWed hq3) (aw_if_eq eX5_share_21 (fun c4 => ?_) (fun c4 => ?_)))))
    · have h := ip c4 h
      obtain ⟨q5, hq5, h⟩ := bd h
      obtain ⟨q6, hq6, h⟩ := bd h
      obtain ⟨x3_7, ex3_7, h⟩ := lt_e h
      obtain ⟨x4_8, ex4_8, h⟩ := lt_e h
      obtain ⟨q9, hq9, h⟩ := bd h
      obtain ⟨x5_10, ex5_10, h⟩ := lt_e h
      refine aw_aload_n eX5_share_31 rfl (aw_callVV (N := mX5_fillMostOf) [] eX5_share_32 tw_1_210 miX5_fillMostOf (by decide) (by decide) (by decide) rfl rfl (Nat.le_of_ble_eq_true rfl) (A_X5_fillMostOf hq5) (aw_aload_n eX5_share_35 rfl (aw_getf (k := 5) (f := 1) eX5_share_36 tw_0_152 ⟨by decide, by decide⟩ (by decide) (v := aR 1 0) rfl (aw_callVI (N := mX1_everyone) [] eX5_share_39 tw_1_196 miX1_everyone (by decide) (by decide) (by decide) rfl rfl (Nat.le_of_ble_eq_true rfl) (A_X1_everyone hq6) (aw_aload_n eX5_share_42 rfl (aw_getf (k := 5) (f := 2) eX5_share_43 tw_0_153 ⟨by decide, by decide⟩ (by decide) (v := aR 3 0) rfl (aw_getf (k := 3) (f := 3) eX5_share_46 tw_0_75 ⟨by decide, by decide⟩ (by decide) (v := aI (q5.1 3 0 3)) rfl (aw_iconst eX5_share_49 k_iconst_m1 (aw_ixor eX5_share_50 (aw_iand eX5_share_51 (aw_istore_nY ex3_7 eX5_share_52 (by decide) rfl (ls' := [some (aR 5 0), some (aI x1), some (aI x2), some (aI x3_7), none, none, none, none, none, none]) rfl (aw_iconst eX5_share_53 k_iconst_1 (aw_iload_n eX5_share_54 rfl (aw_ishl eX5_share_55 (aw_istoreY ex4_8 eX5_share_56 (by decide) rfl (ls' := [some (aR 5 0), some (aI x1), some (aI x2), some (aI x3_7), some (aI x4_8), none, none, none, none, none]) rfl (aw_iload_n eX5_share_58 rfl (aw_callSI (N := mJ6_bitCount_0f7a4) [aI x3_7] eX5_share_59 tw_1_214 msJ6_bitCount_0f7a4 (by decide) rfl rfl (Nat.le_of_ble_eq_true rfl) (A_J6_bitCount_0f7a4 hq9) (aw_iconst eX5_share_62 k_iconst_1 (aw_isub eX5_share_63 (aw_istoreY ex5_10 eX5_share_64 (by decide) rfl (ls' := [some (aR 5 0), some (aI x1), some (aI x2), some (aI x3_7), some (aI x4_8), some (aI x5_10), none, none, none, none]) rfl (aw_iconst eX5_share_66 k_iconst_0 (aw_istoreY rfl eX5_share_67 (by decide) rfl (ls' := [some (aR 5 0), some (aI x1), some (aI x2), some (aI x3_7), some (aI x4_8), some (aI x5_10), some (aI 0), none, none, none]) rfl (aw_iconst eX5_share_69 k_iconst_0 (aw_istoreY rfl eX5_share_70 (by decide) rfl (ls' := [some (aR 5 0), some (aI x1), some (aI x2), some (aI x3_7), some (aI x4_8), some (aI x5_10), some (aI 0), some (aI 0), none, none]) rfl ?_))))))))))))))))))))))))
      exact aw_sub (ls' := [some (aR 5 0), none, some (aI x2), some (aI x3_7), some (aI x4_8), some (aI x5_10), some (aI 0), some (aI 0), none, none]) ⟨rfl, ⟨rfl, ⟨rfl, ⟨rfl, ⟨rfl, ⟨rfl, ⟨rfl, trivial⟩⟩⟩⟩⟩⟩⟩ (A_X5_share_72 fuelZ h)
    · have h := iq c4 h
      obtain ⟨q26, hq26, h⟩ := bd h
      exact aw_iconst eX5_share_24 k_iconst_0 (aw_iconst eX5_share_25 k_iconst_1 (aw_iload_n eX5_share_26 rfl (aw_callSI (N := mX5_fraction) [aI 0, aI 1, aI x2] eX5_share_27 tw_1_204 msX5_fraction (by decide) rfl rfl (Nat.le_of_ble_eq_true rfl) (A_X5_fraction hq26) (aw_iret eX5_share_30 rfl (pI_i h)))))
  · have h := ip c2 h
    exact aw_iconst eX5_share_11 k_iconst_m1 (aw_iret eX5_share_12 rfl (pI_i h))
def D_X5_gain_60 (x1 : Int32) (x3 : Int32) (w : Wd) : Option (Int32 × Wd) := (D_X1_beginOn w 1 x1).bind fun q5 => if q5 = ((-9)) then (some ((0 : Int32) - x3, w)) else (lt (maxZ 0 ((4 : Int32) - (q5 - (w.1 3 0 1)))) fun x7_7 => some (x7_7 - x3, w))
set_option maxHeartbeats 4000000 in
set_option maxRecDepth 100000 in
theorem A_X5_gain_60 {X : XS} {x1 : Int32} {x3 : Int32} {w : Wd} {r : Int32 × Wd} (h : D_X5_gain_60 x1 x3 w = some r) : AW 4 X mX5_gain 60 [some (aR 5 0), some (aI x1), none, some (aI x3), none, none, none, none] [] w (PI r.1 r.2) := by
  unfold D_X5_gain_60 at h
  obtain ⟨q5, hq5, h⟩ := bd h
  refine aw_aload_n eX5_gain_60 rfl (aw_getf (k := 5) (f := 1) eX5_gain_61 tw_0_152 ⟨by decide, by decide⟩ (by decide) (v := aR 1 0) rfl (aw_aload_n eX5_gain_64 rfl (aw_getf (k := 5) (f := 3) eX5_gain_65 tw_0_154 ⟨by decide, by decide⟩ (by decide) (v := aR 3 1) rfl (aw_iload_n eX5_gain_68 rfl (aw_callVI (N := mX1_beginOn) [aR 3 1, aI x1] eX5_gain_69 tw_1_29 miX1_beginOn (by decide) (by decide) (by decide) rfl rfl (Nat.le_of_ble_eq_true rfl) (A_X1_beginOn hq5) (aw_istoreY rfl eX5_gain_72 (by decide) rfl (ls' := [some (aR 5 0), some (aI x1), none, some (aI x3), none, none, some (aI q5), none]) rfl (aw_iload eX5_gain_74 rfl (aw_bipush eX5_gain_76 k_bipush_m9 (aw_icmp_ne eX5_gain_78 (fun c6 => ?_) (fun c6 => ?_))))))))))
  · have h := iq c6 h
    obtain ⟨x7_7, ex7_7, h⟩ := lt_e h
    exact aw_iconst eX5_gain_85 k_iconst_0 (aw_iconst eX5_gain_86 k_iconst_4 (aw_iload eX5_gain_87 rfl (aw_aload_n eX5_gain_89 rfl (aw_getf (k := 5) (f := 2) eX5_gain_90 tw_0_153 ⟨by decide, by decide⟩ (by decide) (v := aR 3 0) rfl (aw_getf (k := 3) (f := 1) eX5_gain_93 tw_0_67 ⟨by decide, by decide⟩ (by decide) (v := aI (w.1 3 0 1)) rfl (aw_isub eX5_gain_96 (aw_isub eX5_gain_97 (aw_mmax eX5_gain_98 tw_1_220 (by decide) (Nat.le_of_ble_eq_true rfl) (aw_istoreY ex7_7 eX5_gain_101 (by decide) rfl (ls' := [some (aR 5 0), some (aI x1), none, some (aI x3), none, none, some (aI q5), some (aI x7_7)]) rfl (aw_iload eX5_gain_103 rfl (aw_iload_n eX5_gain_105 rfl (aw_isub eX5_gain_106 (aw_iret eX5_gain_107 rfl (pI_i h))))))))))))))
  · have h := ip c6 h
    exact aw_iconst eX5_gain_81 k_iconst_0 (aw_goto eX5_gain_82 (aw_istoreY rfl eX5_gain_101 (by decide) rfl (ls' := [some (aR 5 0), some (aI x1), none, some (aI x3), none, none, some (aI q5), some (aI 0)]) rfl (aw_iload eX5_gain_103 rfl (aw_iload_n eX5_gain_105 rfl (aw_isub eX5_gain_106 (aw_iret eX5_gain_107 rfl (pI_i h)))))))
def D_X5_gain_29 (x1 : Int32) (x2 : Int32) (x3 : Int32) (s0 : Int32) (w : Wd) : Option (Int32 × Wd) := (D_X3_take w 1 0).bind fun q3 => if s0 = 0 then ((D_X1_celebrate q3 1 x2).bind fun q8 => D_X5_gain_60 x1 x3 q8.2) else (D_X5_gain_60 x1 x3 q3)
set_option maxHeartbeats 4000000 in
set_option maxRecDepth 100000 in
theorem A_X5_gain_29 {X : XS} {x1 : Int32} {x2 : Int32} {x3 : Int32} {s0 : Int32} {w : Wd} {r : Int32 × Wd} (h : D_X5_gain_29 x1 x2 x3 s0 w = some r) : AW 4 X mX5_gain 29 [some (aR 5 0), some (aI x1), some (aI x2), some (aI x3), none, none, none, none] [aI s0] w (PI r.1 r.2) := by
  unfold D_X5_gain_29 at h
  obtain ⟨q3, hq3, h⟩ := bd h
  refine aw_istoreY rfl eX5_gain_29 (by decide) rfl (ls' := [some (aR 5 0), some (aI x1), some (aI x2), some (aI x3), none, some (aI s0), none, none]) rfl (aw_aload_n eX5_gain_31 rfl (aw_getf (k := 5) (f := 3) eX5_gain_32 tw_0_154 ⟨by decide, by decide⟩ (by decide) (v := aR 3 1) rfl (aw_aload_n eX5_gain_35 rfl (aw_getf (k := 5) (f := 2) eX5_gain_36 tw_0_153 ⟨by decide, by decide⟩ (by decide) (v := aR 3 0) rfl (aw_callVV (N := mX3_take) [aR 3 0] eX5_gain_39 tw_1_156 miX3_take (by decide) (by decide) (by decide) rfl rfl (Nat.le_of_ble_eq_true rfl) (A_X3_take hq3) (aw_iload eX5_gain_42 rfl (aw_if_ne eX5_gain_44 (fun c4 => ?_) (fun c4 => ?_))))))))
  · have h := iq c4 h
    exact aw_sub (ls' := [some (aR 5 0), some (aI x1), none, some (aI x3), none, none, none, none]) ⟨rfl, ⟨rfl, ⟨rfl, trivial⟩⟩⟩ (A_X5_gain_60 h)
  · have h := ip c4 h
    obtain ⟨q8, hq8, h⟩ := bd h
    refine aw_aload_n eX5_gain_47 rfl (aw_getf (k := 5) (f := 1) eX5_gain_48 tw_0_152 ⟨by decide, by decide⟩ (by decide) (v := aR 1 0) rfl (aw_aload_n eX5_gain_51 rfl (aw_getf (k := 5) (f := 3) eX5_gain_52 tw_0_154 ⟨by decide, by decide⟩ (by decide) (v := aR 3 1) rfl (aw_iload_n eX5_gain_55 rfl (aw_callVI (N := mX1_celebrate) [aR 3 1, aI x2] eX5_gain_56 tw_1_81 miX1_celebrate (by decide) (by decide) (by decide) rfl rfl (Nat.le_of_ble_eq_true rfl) (A_X1_celebrate hq8) (aw_popI eX5_gain_59 ?_))))))
    exact aw_sub (ls' := [some (aR 5 0), some (aI x1), none, some (aI x3), none, none, none, none]) ⟨rfl, ⟨rfl, ⟨rfl, trivial⟩⟩⟩ (A_X5_gain_60 h)
def D_X5_gain (w : Wd) (x1 : Int32) (x2 : Int32) (x3 : Int32) (x4 : Int32) : Option (Int32 × Wd) := if x3 = x4 then (if x2 ≤ x1 then (D_X5_gain_29 x1 x2 x3 0 w) else (D_X5_gain_29 x1 x2 x3 1 w)) else (if x3 = 1 then (D_X5_gain_29 x1 x2 x3 1 w) else (D_X5_gain_29 x1 x2 x3 0 w))
set_option maxHeartbeats 4000000 in
set_option maxRecDepth 100000 in
theorem A_X5_gain {X : XS} {w : Wd} {x1 : Int32} {x2 : Int32} {x3 : Int32} {x4 : Int32} {r : Int32 × Wd} (h : D_X5_gain w x1 x2 x3 x4 = some r) : AW 4 X mX5_gain 0 (entA 8 [aR 5 0, aI x1, aI x2, aI x3, aI x4]) [] w (PI r.1 r.2) := by
  show AW _ _ _ _ [some (aR 5 0), some (aI x1), some (aI x2), some (aI x3), some (aI x4), none, none, none] _ _ _
  unfold D_X5_gain at h
  refine aw_iload_n eX5_gain_0 rfl (aw_iload eX5_gain_1 rfl (aw_icmp_ne eX5_gain_3 (fun c1 => ?_) (fun c1 => ?_)))
  · have h := iq c1 h
    refine aw_iload_n eX5_gain_19 rfl (aw_iconst eX5_gain_20 k_iconst_1 (aw_icmp_ne eX5_gain_21 (fun c2 => ?_) (fun c2 => ?_)))
    · have h := iq c2 h
      refine aw_iconst eX5_gain_28 k_iconst_0 ?_
      exact aw_sub (ls' := [some (aR 5 0), some (aI x1), some (aI x2), some (aI x3), none, none, none, none]) ⟨rfl, ⟨rfl, ⟨rfl, ⟨rfl, trivial⟩⟩⟩⟩ (A_X5_gain_29 h)
    · have h := ip c2 h
      refine aw_iconst eX5_gain_24 k_iconst_1 (aw_goto eX5_gain_25 ?_)
      exact aw_sub (ls' := [some (aR 5 0), some (aI x1), some (aI x2), some (aI x3), none, none, none, none]) ⟨rfl, ⟨rfl, ⟨rfl, ⟨rfl, trivial⟩⟩⟩⟩ (A_X5_gain_29 h)
  · have h := ip c1 h
    refine aw_iload_n eX5_gain_6 rfl (aw_iload_n eX5_gain_7 rfl (aw_icmp_ge eX5_gain_8 (fun c9 => ?_) (fun c9 => ?_)))
    · have h := ip c9 h
      refine aw_iconst eX5_gain_15 k_iconst_0 (aw_goto eX5_gain_16 ?_)
      exact aw_sub (ls' := [some (aR 5 0), some (aI x1), some (aI x2), some (aI x3), none, none, none, none]) ⟨rfl, ⟨rfl, ⟨rfl, ⟨rfl, trivial⟩⟩⟩⟩ (A_X5_gain_29 h)
    · have h := iq c9 h
      refine aw_iconst eX5_gain_11 k_iconst_1 (aw_goto eX5_gain_12 ?_)
      exact aw_sub (ls' := [some (aR 5 0), some (aI x1), some (aI x2), some (aI x3), none, none, none, none]) ⟨rfl, ⟨rfl, ⟨rfl, ⟨rfl, trivial⟩⟩⟩⟩ (A_X5_gain_29 h)
def D_X5_isAtRest (w : Wd) (x1 : Int32) (x2 : Int32) (x3 : Int32) (x4 : Int32) : Option (Int32 × Wd) := (D_X5_gain w x1 x2 x3 x4).bind fun q1 => (D_X5_gain q1.2 x1 x2 ((1 : Int32) - x3) x4).bind fun q2 => if q1.1 < q2.1 then (some (0, q2.2)) else ((D_X5_gain q2.2 x2 x1 x4 x3).bind fun q4 => (D_X5_gain q4.2 x2 x1 ((1 : Int32) - x4) x3).bind fun q5 => if q4.1 < q5.1 then (some (0, q5.2)) else (some (1, q5.2)))
set_option maxHeartbeats 4000000 in
set_option maxRecDepth 100000 in
theorem A_X5_isAtRest {X : XS} {w : Wd} {x1 : Int32} {x2 : Int32} {x3 : Int32} {x4 : Int32} {r : Int32 × Wd} (h : D_X5_isAtRest w x1 x2 x3 x4 = some r) : AW 5 X mX5_isAtRest 0 (entA 5 [aR 5 0, aI x1, aI x2, aI x3, aI x4]) [] w (PI r.1 r.2) := by
  show AW _ _ _ _ [some (aR 5 0), some (aI x1), some (aI x2), some (aI x3), some (aI x4)] _ _ _
  unfold D_X5_isAtRest at h
  obtain ⟨q1, hq1, h⟩ := bd h
  obtain ⟨q2, hq2, h⟩ := bd h
  refine aw_aload_n eX5_isAtRest_0 rfl (aw_iload_n eX5_isAtRest_1 rfl (aw_iload_n eX5_isAtRest_2 rfl (aw_iload_n eX5_isAtRest_3 rfl (aw_iload eX5_isAtRest_4 rfl (aw_callVI (N := mX5_gain) [aI x1, aI x2, aI x3, aI x4] eX5_isAtRest_6 tw_1_231 miX5_gain (by decide) (by decide) (by decide) rfl rfl (Nat.le_of_ble_eq_true rfl) (A_X5_gain hq1) (aw_aload_n eX5_isAtRest_9 rfl (aw_iload_n eX5_isAtRest_10 rfl (aw_iload_n eX5_isAtRest_11 rfl (aw_iconst eX5_isAtRest_12 k_iconst_1 (aw_iload_n eX5_isAtRest_13 rfl (aw_isub eX5_isAtRest_14 (aw_iload eX5_isAtRest_15 rfl (aw_callVI (N := mX5_gain) [aI x1, aI x2, aI ((1 : Int32) - x3), aI x4] eX5_isAtRest_17 tw_1_231 miX5_gain (by decide) (by decide) (by decide) rfl rfl (Nat.le_of_ble_eq_true rfl) (A_X5_gain hq2) (aw_icmp_lt eX5_isAtRest_20 (fun c3 => ?_) (fun c3 => ?_)))))))))))))))
  · have h := ip c3 h
    exact aw_iconst eX5_isAtRest_50 k_iconst_0 (aw_zret eX5_isAtRest_51 rfl (by decide +kernel) (pI_i h))
  · have h := iq c3 h
    obtain ⟨q4, hq4, h⟩ := bd h
    obtain ⟨q5, hq5, h⟩ := bd h
    refine aw_aload_n eX5_isAtRest_23 rfl (aw_iload_n eX5_isAtRest_24 rfl (aw_iload_n eX5_isAtRest_25 rfl (aw_iload eX5_isAtRest_26 rfl (aw_iload_n eX5_isAtRest_28 rfl (aw_callVI (N := mX5_gain) [aI x2, aI x1, aI x4, aI x3] eX5_isAtRest_29 tw_1_231 miX5_gain (by decide) (by decide) (by decide) rfl rfl (Nat.le_of_ble_eq_true rfl) (A_X5_gain hq4) (aw_aload_n eX5_isAtRest_32 rfl (aw_iload_n eX5_isAtRest_33 rfl (aw_iload_n eX5_isAtRest_34 rfl (aw_iconst eX5_isAtRest_35 k_iconst_1 (aw_iload eX5_isAtRest_36 rfl (aw_isub eX5_isAtRest_38 (aw_iload_n eX5_isAtRest_39 rfl (aw_callVI (N := mX5_gain) [aI x2, aI x1, aI ((1 : Int32) - x4), aI x3] eX5_isAtRest_40 tw_1_231 miX5_gain (by decide) (by decide) (by decide) rfl rfl (Nat.le_of_ble_eq_true rfl) (A_X5_gain hq5) (aw_icmp_lt eX5_isAtRest_43 (fun c6 => ?_) (fun c6 => ?_)))))))))))))))
    · have h := ip c6 h
      exact aw_iconst eX5_isAtRest_50 k_iconst_0 (aw_zret eX5_isAtRest_51 rfl (by decide +kernel) (pI_i h))
    · have h := iq c6 h
      exact aw_iconst eX5_isAtRest_46 k_iconst_1 (aw_goto eX5_isAtRest_47 (aw_zret eX5_isAtRest_51 rfl (by decide +kernel) (pI_i h)))
def D_X5_rests_76 : Nat → Int32 → Int32 → Int32 → Int32 → Int32 → Int32 → Wd → Option (Int32 × Wd)
  | 0, _, _, _, _, _, _, _ => none
  | n + 1, x1, x2, x3, x4, x5, x6, w => if 4 ≤ x6 then (if x3 = 0 then (some (x4, w)) else (some (x5, w))) else ((D_X5_isAtRest w x1 x2 (x6 >>> ((1 : Int32) &&& 31)) (x6 &&& (1 : Int32))).bind fun q14 => if q14.1 = 0 then (lt (x6 + 1) fun x6_16 => D_X5_rests_76 n x1 x2 x3 x4 x5 x6_16 q14.2) else (lt (x4 + 1) fun x4_17 => if x5 = ((-9)) then (lt (((10 : Int32) * (x6 >>> ((1 : Int32) &&& 31))) + (x6 &&& (1 : Int32))) fun x5_20 => lt (x6 + 1) fun x6_21 => D_X5_rests_76 n x1 x2 x3 x4_17 x5_20 x6_21 q14.2) else (lt (x6 + 1) fun x6_19 => D_X5_rests_76 n x1 x2 x3 x4_17 x5 x6_19 q14.2)))
set_option maxHeartbeats 4000000 in
set_option maxRecDepth 100000 in
theorem A_X5_rests_76 {X : XS} : ∀ (nn : Nat) {x1 : Int32} {x2 : Int32} {x3 : Int32} {x4 : Int32} {x5 : Int32} {x6 : Int32} {w : Wd} {r : Int32 × Wd}, D_X5_rests_76 nn x1 x2 x3 x4 x5 x6 w = some r → AW 6 X mX5_rests 76 [some (aR 5 0), some (aI x1), some (aI x2), some (aI x3), some (aI x4), some (aI x5), some (aI x6)] [] w (PI r.1 r.2) := by
  intro nn
  induction nn with
  | zero => intros; rename_i h; cases h
  | succ n ih =>
    intro x1 x2 x3 x4 x5 x6 w r h
    rw [D_X5_rests_76] at h
    refine aw_iload eX5_rests_76 rfl (aw_iconst eX5_rests_78 k_iconst_4 (aw_icmp_ge eX5_rests_79 (fun c12 => ?_) (fun c12 => ?_)))
    · have h := ip c12 h
      refine aw_iload_n eX5_rests_134 rfl (aw_if_ne eX5_rests_135 (fun c13 => ?_) (fun c13 => ?_))
      · have h := iq c13 h
        exact aw_iload eX5_rests_143 rfl (aw_iret eX5_rests_145 rfl (pI_i h))
      · have h := ip c13 h
        exact aw_iload eX5_rests_138 rfl (aw_goto eX5_rests_140 (aw_iret eX5_rests_145 rfl (pI_i h)))
    · have h := iq c12 h
      obtain ⟨q14, hq14, h⟩ := bd h
      refine aw_aload_n eX5_rests_82 rfl (aw_iload_n eX5_rests_83 rfl (aw_iload_n eX5_rests_84 rfl (aw_iload eX5_rests_85 rfl (aw_iconst eX5_rests_87 k_iconst_1 (aw_ishr eX5_rests_88 (aw_iload eX5_rests_89 rfl (aw_iconst eX5_rests_91 k_iconst_1 (aw_iand eX5_rests_92 (aw_callVI (N := mX5_isAtRest) [aI x1, aI x2, aI (x6 >>> ((1 : Int32) &&& 31)), aI (x6 &&& (1 : Int32))] eX5_rests_93 tw_1_227 miX5_isAtRest (by decide) (by decide) (by decide) rfl rfl (Nat.le_of_ble_eq_true rfl) (A_X5_isAtRest hq14) (aw_if_eq eX5_rests_96 (fun c15 => ?_) (fun c15 => ?_)))))))))))
      · have h := ip c15 h
        obtain ⟨x6_16, ex6_16, h⟩ := lt_e h
        refine aw_iincY (iinc_k k_iconst_1 ex6_16) eX5_rests_128 rfl (by decide) rfl (ls' := [some (aR 5 0), some (aI x1), some (aI x2), some (aI x3), some (aI x4), some (aI x5), some (aI x6_16)]) rfl (aw_goto eX5_rests_131 ?_)
        exact ih h
      · have h := iq c15 h
        obtain ⟨x4_17, ex4_17, h⟩ := lt_e h
        refine aw_iincY (iinc_k k_iconst_1 ex4_17) eX5_rests_99 rfl (by decide) rfl (ls' := [some (aR 5 0), some (aI x1), some (aI x2), some (aI x3), some (aI x4_17), some (aI x5), some (aI x6)]) rfl (aw_iload eX5_rests_102 rfl (aw_bipush eX5_rests_104 k_bipush_m9 (aw_icmp_ne eX5_rests_106 (fun c18 => ?_) (fun c18 => ?_))))
        · have h := iq c18 h
          obtain ⟨x6_19, ex6_19, h⟩ := lt_e h
          refine aw_iload eX5_rests_124 rfl (aw_istoreY rfl eX5_rests_126 (by decide) rfl (ls' := [some (aR 5 0), some (aI x1), some (aI x2), some (aI x3), some (aI x4_17), some (aI x5), some (aI x6)]) rfl (aw_iincY (iinc_k k_iconst_1 ex6_19) eX5_rests_128 rfl (by decide) rfl (ls' := [some (aR 5 0), some (aI x1), some (aI x2), some (aI x3), some (aI x4_17), some (aI x5), some (aI x6_19)]) rfl (aw_goto eX5_rests_131 ?_)))
          exact ih h
        · have h := ip c18 h
          obtain ⟨x5_20, ex5_20, h⟩ := lt_e h
          obtain ⟨x6_21, ex6_21, h⟩ := lt_e h
          refine aw_bipush eX5_rests_109 k_bipush_10 (aw_iload eX5_rests_111 rfl (aw_iconst eX5_rests_113 k_iconst_1 (aw_ishr eX5_rests_114 (aw_imul eX5_rests_115 (aw_iload eX5_rests_116 rfl (aw_iconst eX5_rests_118 k_iconst_1 (aw_iand eX5_rests_119 (aw_iadd eX5_rests_120 (aw_goto eX5_rests_121 (aw_istoreY ex5_20 eX5_rests_126 (by decide) rfl (ls' := [some (aR 5 0), some (aI x1), some (aI x2), some (aI x3), some (aI x4_17), some (aI x5_20), some (aI x6)]) rfl (aw_iincY (iinc_k k_iconst_1 ex6_21) eX5_rests_128 rfl (by decide) rfl (ls' := [some (aR 5 0), some (aI x1), some (aI x2), some (aI x3), some (aI x4_17), some (aI x5_20), some (aI x6_21)]) rfl (aw_goto eX5_rests_131 ?_))))))))))))
          exact ih h
def D_X5_rests (w : Wd) (x1 : Int32) (x2 : Int32) (x3 : Int32) : Option (Int32 × Wd) := (D_X1_has w x1).bind fun q1 => if q1 = 0 then (some ((-1), w)) else ((D_X1_has w x2).bind fun q3 => if q3 = 0 then (some ((-1), w)) else (if x1 = x2 then (some ((-2), w)) else (if x3 < 0 then (some ((-2), w)) else (if x3 ≤ 1 then ((D_X3_isWed w 0 x1).bind fun q8 => if q8 = 0 then ((D_X3_isWed w 0 x2).bind fun q10 => if q10 = 0 then (D_X5_rests_76 fuelZ x1 x2 x3 0 ((-9)) 0 w) else (some ((-3), w))) else (some ((-3), w))) else (some ((-2), w))))))
set_option maxHeartbeats 4000000 in
set_option maxRecDepth 100000 in
theorem A_X5_rests {X : XS} {w : Wd} {x1 : Int32} {x2 : Int32} {x3 : Int32} {r : Int32 × Wd} (h : D_X5_rests w x1 x2 x3 = some r) : AW 6 X mX5_rests 0 (entA 7 [aR 5 0, aI x1, aI x2, aI x3]) [] w (PI r.1 r.2) := by
  show AW _ _ _ _ [some (aR 5 0), some (aI x1), some (aI x2), some (aI x3), none, none, none] _ _ _
  unfold D_X5_rests at h
  obtain ⟨q1, hq1, h⟩ := bd h
  refine aw_aload_n eX5_rests_0 rfl (aw_getf (k := 5) (f := 1) eX5_rests_1 tw_0_152 ⟨by decide, by decide⟩ (by decide) (v := aR 1 0) rfl (aw_iload_n eX5_rests_4 rfl (aw_callVI (N := mX1_has) [aI x1] eX5_rests_5 tw_1_20 miX1_has (by decide) (by decide) (by decide) rfl rfl (Nat.le_of_ble_eq_true rfl) (A_X1_has hq1) (aw_if_eq eX5_rests_8 (fun c2 => ?_) (fun c2 => ?_)))))
  · have h := ip c2 h
    exact aw_iconst eX5_rests_22 k_iconst_m1 (aw_iret eX5_rests_23 rfl (pI_i h))
  · have h := iq c2 h
    obtain ⟨q3, hq3, h⟩ := bd h
    refine aw_aload_n eX5_rests_11 rfl (aw_getf (k := 5) (f := 1) eX5_rests_12 tw_0_152 ⟨by decide, by decide⟩ (by decide) (v := aR 1 0) rfl (aw_iload_n eX5_rests_15 rfl (aw_callVI (N := mX1_has) [aI x2] eX5_rests_16 tw_1_20 miX1_has (by decide) (by decide) (by decide) rfl rfl (Nat.le_of_ble_eq_true rfl) (A_X1_has hq3) (aw_if_ne eX5_rests_19 (fun c4 => ?_) (fun c4 => ?_)))))
    · have h := iq c4 h
      refine aw_iload_n eX5_rests_24 rfl (aw_iload_n eX5_rests_25 rfl (aw_icmp_eq eX5_rests_26 (fun c5 => ?_) (fun c5 => ?_)))
      · have h := ip c5 h
        exact aw_bipush eX5_rests_38 k_bipush_m2 (aw_iret eX5_rests_40 rfl (pI_i h))
      · have h := iq c5 h
        refine aw_iload_n eX5_rests_29 rfl (aw_if_lt eX5_rests_30 (fun c6 => ?_) (fun c6 => ?_))
        · have h := ip c6 h
          exact aw_bipush eX5_rests_38 k_bipush_m2 (aw_iret eX5_rests_40 rfl (pI_i h))
        · have h := iq c6 h
          refine aw_iload_n eX5_rests_33 rfl (aw_iconst eX5_rests_34 k_iconst_1 (aw_icmp_le eX5_rests_35 (fun c7 => ?_) (fun c7 => ?_)))
          · have h := ip c7 h
            obtain ⟨q8, hq8, h⟩ := bd h
            refine aw_aload_n eX5_rests_41 rfl (aw_getf (k := 5) (f := 2) eX5_rests_42 tw_0_153 ⟨by decide, by decide⟩ (by decide) (v := aR 3 0) rfl (aw_iload_n eX5_rests_45 rfl (aw_callVI (N := mX3_isWed) [aI x1] eX5_rests_46 tw_1_25 miX3_isWed (by decide) (by decide) (by decide) rfl rfl (Nat.le_of_ble_eq_true rfl) (A_X3_isWed hq8) (aw_if_ne eX5_rests_49 (fun c9 => ?_) (fun c9 => ?_)))))
            · have h := iq c9 h
              exact aw_bipush eX5_rests_63 k_bipush_m3 (aw_iret eX5_rests_65 rfl (pI_i h))
            · have h := ip c9 h
              obtain ⟨q10, hq10, h⟩ := bd h
              refine aw_aload_n eX5_rests_52 rfl (aw_getf (k := 5) (f := 2) eX5_rests_53 tw_0_153 ⟨by decide, by decide⟩ (by decide) (v := aR 3 0) rfl (aw_iload_n eX5_rests_56 rfl (aw_callVI (N := mX3_isWed) [aI x2] eX5_rests_57 tw_1_25 miX3_isWed (by decide) (by decide) (by decide) rfl rfl (Nat.le_of_ble_eq_true rfl) (A_X3_isWed hq10) (aw_if_eq eX5_rests_60 (fun c11 => ?_) (fun c11 => ?_)))))
              · have h := ip c11 h
                refine aw_iconst eX5_rests_66 k_iconst_0 (aw_istoreY rfl eX5_rests_67 (by decide) rfl (ls' := [some (aR 5 0), some (aI x1), some (aI x2), some (aI x3), some (aI 0), none, none]) rfl (aw_bipush eX5_rests_69 k_bipush_m9 (aw_istoreY rfl eX5_rests_71 (by decide) rfl (ls' := [some (aR 5 0), some (aI x1), some (aI x2), some (aI x3), some (aI 0), some (aI ((-9))), none]) rfl (aw_iconst eX5_rests_73 k_iconst_0 (aw_istoreY rfl eX5_rests_74 (by decide) rfl (ls' := [some (aR 5 0), some (aI x1), some (aI x2), some (aI x3), some (aI 0), some (aI ((-9))), some (aI 0)]) rfl ?_)))))
                exact A_X5_rests_76 fuelZ h
              · have h := iq c11 h
                exact aw_bipush eX5_rests_63 k_bipush_m3 (aw_iret eX5_rests_65 rfl (pI_i h))
          · have h := iq c7 h
            exact aw_bipush eX5_rests_38 k_bipush_m2 (aw_iret eX5_rests_40 rfl (pI_i h))
    · have h := ip c4 h
      exact aw_iconst eX5_rests_22 k_iconst_m1 (aw_iret eX5_rests_23 rfl (pI_i h))
def D_X5_holdsWithFalls_14 : Nat → Int32 → Int32 → Int32 → Int32 → Wd → Option (Int32 × Wd)
  | 0, _, _, _, _, _ => none
  | n + 1, x1, x2, x3, x4, w => if x1 ≤ x4 then (some (1, w)) else (lt (wS w 3 1 1 ((w.1 3 1 1) + ((x3 >>> (x4 &&& 31)) &&& (1 : Int32)))) fun w3 => (D_X5_weddingInRow w3 x1 x2 x4).bind fun q4 => (D_X1_celebrate w3 1 q4).bind fun q5 => if q5.1 = 0 then (some (0, q5.2)) else (lt (x4 + 1) fun x4_7 => D_X5_holdsWithFalls_14 n x1 x2 x3 x4_7 q5.2))
set_option maxHeartbeats 4000000 in
set_option maxRecDepth 100000 in
theorem A_X5_holdsWithFalls_14 {X : XS} : ∀ (nn : Nat) {x1 : Int32} {x2 : Int32} {x3 : Int32} {x4 : Int32} {w : Wd} {r : Int32 × Wd}, D_X5_holdsWithFalls_14 nn x1 x2 x3 x4 w = some r → AW 4 X mX5_holdsWithFalls 14 [some (aR 5 0), some (aI x1), some (aI x2), some (aI x3), some (aI x4)] [] w (PI r.1 r.2) := by
  intro nn
  induction nn with
  | zero => intros; rename_i h; cases h
  | succ n ih =>
    intro x1 x2 x3 x4 w r h
    rw [D_X5_holdsWithFalls_14] at h
    refine aw_iload eX5_holdsWithFalls_14 rfl (aw_iload_n eX5_holdsWithFalls_16 rfl (aw_icmp_ge eX5_holdsWithFalls_17 (fun c2 => ?_) (fun c2 => ?_)))
    · have h := ip c2 h
      exact aw_iconst eX5_holdsWithFalls_67 k_iconst_1 (aw_zret eX5_holdsWithFalls_68 rfl (by decide +kernel) (pI_i h))
    · have h := iq c2 h
      obtain ⟨w3, ew3, h⟩ := lt_e h
      obtain ⟨q4, hq4, h⟩ := bd h
      obtain ⟨q5, hq5, h⟩ := bd h
      refine aw_aload_n eX5_holdsWithFalls_20 rfl (aw_getf (k := 5) (f := 3) eX5_holdsWithFalls_21 tw_0_154 ⟨by decide, by decide⟩ (by decide) (v := aR 3 1) rfl (aw_dupR eX5_holdsWithFalls_24 (aw_getf (k := 3) (f := 1) eX5_holdsWithFalls_25 tw_0_67 ⟨by decide, by decide⟩ (by decide) (v := aI (w.1 3 1 1)) rfl (aw_iload_n eX5_holdsWithFalls_28 rfl (aw_iload eX5_holdsWithFalls_29 rfl (aw_ishr eX5_holdsWithFalls_31 (aw_iconst eX5_holdsWithFalls_32 k_iconst_1 (aw_iand eX5_holdsWithFalls_33 (aw_iadd eX5_holdsWithFalls_34 (aw_putI (k := 3) (f := 1) eX5_holdsWithFalls_35 tw_0_67 ⟨by decide, by decide⟩ (by decide) ⟨rfl, rfl, rfl, rfl⟩ (aw_wn ew3 (aw_aload_n eX5_holdsWithFalls_38 rfl (aw_getf (k := 5) (f := 1) eX5_holdsWithFalls_39 tw_0_152 ⟨by decide, by decide⟩ (by decide) (v := aR 1 0) rfl (aw_aload_n eX5_holdsWithFalls_42 rfl (aw_getf (k := 5) (f := 3) eX5_holdsWithFalls_43 tw_0_154 ⟨by decide, by decide⟩ (by decide) (v := aR 3 1) rfl (aw_iload_n eX5_holdsWithFalls_46 rfl (aw_iload_n eX5_holdsWithFalls_47 rfl (aw_iload eX5_holdsWithFalls_48 rfl (aw_callSI (N := mX5_weddingInRow) [aI x1, aI x2, aI x4] eX5_holdsWithFalls_50 tw_1_170 msX5_weddingInRow (by decide) rfl rfl (Nat.le_of_ble_eq_true rfl) (A_X5_weddingInRow hq4) (aw_callVI (N := mX1_celebrate) [aR 3 1, aI q4] eX5_holdsWithFalls_53 tw_1_81 miX1_celebrate (by decide) (by decide) (by decide) rfl rfl (Nat.le_of_ble_eq_true rfl) (A_X1_celebrate hq5) (aw_if_ne eX5_holdsWithFalls_56 (fun c6 => ?_) (fun c6 => ?_))))))))))))))))))))))
      · have h := iq c6 h
        obtain ⟨x4_7, ex4_7, h⟩ := lt_e h
        refine aw_iincY (iinc_k k_iconst_1 ex4_7) eX5_holdsWithFalls_61 rfl (by decide) rfl (ls' := [some (aR 5 0), some (aI x1), some (aI x2), some (aI x3), some (aI x4_7)]) rfl (aw_goto eX5_holdsWithFalls_64 ?_)
        exact ih h
      · have h := ip c6 h
        exact aw_iconst eX5_holdsWithFalls_59 k_iconst_0 (aw_zret eX5_holdsWithFalls_60 rfl (by decide +kernel) (pI_i h))
def D_X5_holdsWithFalls (w : Wd) (x1 : Int32) (x2 : Int32) (x3 : Int32) : Option (Int32 × Wd) := (D_X3_take w 1 0).bind fun q1 => D_X5_holdsWithFalls_14 fuelZ x1 x2 x3 0 q1
set_option maxHeartbeats 4000000 in
set_option maxRecDepth 100000 in
theorem A_X5_holdsWithFalls {X : XS} {w : Wd} {x1 : Int32} {x2 : Int32} {x3 : Int32} {r : Int32 × Wd} (h : D_X5_holdsWithFalls w x1 x2 x3 = some r) : AW 4 X mX5_holdsWithFalls 0 (entA 5 [aR 5 0, aI x1, aI x2, aI x3]) [] w (PI r.1 r.2) := by
  show AW _ _ _ _ [some (aR 5 0), some (aI x1), some (aI x2), some (aI x3), none] _ _ _
  unfold D_X5_holdsWithFalls at h
  obtain ⟨q1, hq1, h⟩ := bd h
  refine aw_aload_n eX5_holdsWithFalls_0 rfl (aw_getf (k := 5) (f := 3) eX5_holdsWithFalls_1 tw_0_154 ⟨by decide, by decide⟩ (by decide) (v := aR 3 1) rfl (aw_aload_n eX5_holdsWithFalls_4 rfl (aw_getf (k := 5) (f := 2) eX5_holdsWithFalls_5 tw_0_153 ⟨by decide, by decide⟩ (by decide) (v := aR 3 0) rfl (aw_callVV (N := mX3_take) [aR 3 0] eX5_holdsWithFalls_8 tw_1_156 miX3_take (by decide) (by decide) (by decide) rfl rfl (Nat.le_of_ble_eq_true rfl) (A_X3_take hq1) (aw_iconst eX5_holdsWithFalls_11 k_iconst_0 (aw_istoreY rfl eX5_holdsWithFalls_12 (by decide) rfl (ls' := [some (aR 5 0), some (aI x1), some (aI x2), some (aI x3), some (aI 0)]) rfl ?_))))))
  exact A_X5_holdsWithFalls_14 fuelZ h
