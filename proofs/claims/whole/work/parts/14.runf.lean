def D_X6_in (x0 : Int64) (x2 : Int64) (x4 : Int64) : Option (Int32) := if (lg_cmp x0 x2) < 0 then (some (0)) else (if 0 < (lg_cmp x0 x4) then (some (0)) else (some (1)))
set_option maxHeartbeats 4000000 in
set_option maxRecDepth 100000 in
theorem A_X6_in {X : XS} {w : Wd} {x0 : Int64} {x2 : Int64} {x4 : Int64} {r : Int32} (h : D_X6_in x0 x2 x4 = some r) : AW 0 X mX6_in 0 (entA 6 [aL x0, aL x2, aL x4]) [] w (PI r w) := by
  show AW _ _ _ _ [some (aL x0), none, some (aL x2), none, some (aL x4), none] _ _ _
  unfold D_X6_in at h
  refine aw_lload_n eX6_in_0 rfl (aw_lload_n eX6_in_1 rfl (aw_lcmp eX6_in_2 (aw_if_lt eX6_in_3 (fun c1 => ?_) (fun c1 => ?_))))
  · have h := ip c1 h
    exact aw_iconst eX6_in_17 k_iconst_0 (aw_zret eX6_in_18 rfl (by decide +kernel) (pI_p h))
  · have h := iq c1 h
    refine aw_lload_n eX6_in_6 rfl (aw_lload eX6_in_7 rfl (aw_lcmp eX6_in_9 (aw_if_gt eX6_in_10 (fun c2 => ?_) (fun c2 => ?_))))
    · have h := ip c2 h
      exact aw_iconst eX6_in_17 k_iconst_0 (aw_zret eX6_in_18 rfl (by decide +kernel) (pI_p h))
    · have h := iq c2 h
      exact aw_iconst eX6_in_13 k_iconst_1 (aw_goto eX6_in_14 (aw_zret eX6_in_18 rfl (by decide +kernel) (pI_p h)))
def D_X6_has (x0 : Int32) (x1 : Int32) : Option (Int32) := if ((x0 >>> (x1 &&& 31)) &&& (1 : Int32)) = 1 then (some (1)) else (some (0))
set_option maxHeartbeats 4000000 in
set_option maxRecDepth 100000 in
theorem A_X6_has {X : XS} {w : Wd} {x0 : Int32} {x1 : Int32} {r : Int32} (h : D_X6_has x0 x1 = some r) : AW 0 X mX6_has 0 (entA 2 [aI x0, aI x1]) [] w (PI r w) := by
  show AW _ _ _ _ [some (aI x0), some (aI x1)] _ _ _
  unfold D_X6_has at h
  refine aw_iload_n eX6_has_0 rfl (aw_iload_n eX6_has_1 rfl (aw_ishr eX6_has_2 (aw_iconst eX6_has_3 k_iconst_1 (aw_iand eX6_has_4 (aw_iconst eX6_has_5 k_iconst_1 (aw_icmp_ne eX6_has_6 (fun c1 => ?_) (fun c1 => ?_)))))))
  · have h := iq c1 h
    exact aw_iconst eX6_has_13 k_iconst_0 (aw_zret eX6_has_14 rfl (by decide +kernel) (pI_p h))
  · have h := ip c1 h
    exact aw_iconst eX6_has_9 k_iconst_1 (aw_goto eX6_has_10 (aw_zret eX6_has_14 rfl (by decide +kernel) (pI_p h)))
def D_X6_ones_4 : Nat → Int32 → Int32 → Int32 → Option (Int32)
  | 0, _, _, _ => none
  | n + 1, x0, x1, x2 => if 6 ≤ x2 then (some (x1)) else (lt (x1 + ((x0 >>> (x2 &&& 31)) &&& (1 : Int32))) fun x1_2 => lt (x2 + 1) fun x2_3 => D_X6_ones_4 n x0 x1_2 x2_3)
set_option maxHeartbeats 4000000 in
set_option maxRecDepth 100000 in
theorem A_X6_ones_4 {X : XS} {w : Wd} : ∀ (nn : Nat) {x0 : Int32} {x1 : Int32} {x2 : Int32} {r : Int32}, D_X6_ones_4 nn x0 x1 x2 = some r → AW 0 X mX6_ones 4 [some (aI x0), some (aI x1), some (aI x2)] [] w (PI r w) := by
  intro nn
  induction nn with
  | zero => intros; rename_i h; cases h
  | succ n ih =>
    intro x0 x1 x2 r h
    rw [D_X6_ones_4] at h
    refine aw_iload_n eX6_ones_4 rfl (aw_bipush eX6_ones_5 k_bipush_6 (aw_icmp_ge eX6_ones_7 (fun c1 => ?_) (fun c1 => ?_)))
    · have h := ip c1 h
      exact aw_iload_n eX6_ones_24 rfl (aw_iret eX6_ones_25 rfl (pI_p h))
    · have h := iq c1 h
      obtain ⟨x1_2, ex1_2, h⟩ := lt_e h
      obtain ⟨x2_3, ex2_3, h⟩ := lt_e h
      refine aw_iload_n eX6_ones_10 rfl (aw_iload_n eX6_ones_11 rfl (aw_iload_n eX6_ones_12 rfl (aw_ishr eX6_ones_13 (aw_iconst eX6_ones_14 k_iconst_1 (aw_iand eX6_ones_15 (aw_iadd eX6_ones_16 (aw_istore_nY ex1_2 eX6_ones_17 (by decide) rfl (ls' := [some (aI x0), some (aI x1_2), some (aI x2)]) rfl (aw_iincY (iinc_k k_iconst_1 ex2_3) eX6_ones_18 rfl (by decide) rfl (ls' := [some (aI x0), some (aI x1_2), some (aI x2_3)]) rfl (aw_goto eX6_ones_21 ?_)))))))))
      exact ih h
def D_X6_ones (x0 : Int32) : Option (Int32) := D_X6_ones_4 fuelZ x0 0 0
set_option maxHeartbeats 4000000 in
set_option maxRecDepth 100000 in
theorem A_X6_ones {X : XS} {w : Wd} {x0 : Int32} {r : Int32} (h : D_X6_ones x0 = some r) : AW 0 X mX6_ones 0 (entA 3 [aI x0]) [] w (PI r w) := by
  show AW _ _ _ _ [some (aI x0), none, none] _ _ _
  unfold D_X6_ones at h
  refine aw_iconst eX6_ones_0 k_iconst_0 (aw_istore_nY rfl eX6_ones_1 (by decide) rfl (ls' := [some (aI x0), some (aI 0), none]) rfl (aw_iconst eX6_ones_2 k_iconst_0 (aw_istore_nY rfl eX6_ones_3 (by decide) rfl (ls' := [some (aI x0), some (aI 0), some (aI 0)]) rfl ?_)))
  exact A_X6_ones_4 fuelZ h
def D_X6_write (w : Wd) (x1 : Int32) : Option (Int32 × Wd) := (D_X6_in (Int32.toInt64 x1) 0 255).bind fun q1 => if q1 = 0 then (some ((-2), w)) else (if (w.1 6 0 9) = 48 then (some ((-4), w)) else (if inB (w.1 6 0 9) 48 then lt (wS w 26 0 (Int32.toNatClampNeg (w.1 6 0 9)) x1) fun w5 => lt (wS w5 6 0 9 ((w5.1 6 0 9) + (1 : Int32))) fun w6 => some (w6.1 6 0 9, w6) else none))
set_option maxHeartbeats 4000000 in
set_option maxRecDepth 100000 in
theorem A_X6_write {X : XS} {w : Wd} {x1 : Int32} {r : Int32 × Wd} (h : D_X6_write w x1 = some r) : AW 1 X mX6_write 0 (entA 2 [aR 6 0, aI x1]) [] w (PI r.1 r.2) := by
  show AW _ _ _ _ [some (aR 6 0), some (aI x1)] _ _ _
  unfold D_X6_write at h
  obtain ⟨q1, hq1, h⟩ := bd h
  refine aw_iload_n eX6_write_0 rfl (aw_i2l eX6_write_1 (aw_lconst eX6_write_2 k_lconst_0 (aw_ldc2 eX6_write_3 tw_2_115 (aw_callSI (N := mX6_in) [aL (Int32.toInt64 x1), aL 0, aL 255] eX6_write_6 tw_2_116 msX6_in (by decide) rfl rfl (Nat.le_of_ble_eq_true rfl) (A_X6_in hq1) (aw_if_ne eX6_write_9 (fun c2 => ?_) (fun c2 => ?_))))))
  · have h := iq c2 h
    refine aw_aload_n eX6_write_15 rfl (aw_getf (k := 6) (f := 9) eX6_write_16 tw_2_56 ⟨by decide, by decide⟩ (by decide) (v := aI (w.1 6 0 9)) rfl (aw_bipush eX6_write_19 k_bipush_48 (aw_icmp_ne eX6_write_21 (fun c3 => ?_) (fun c3 => ?_))))
    · have h := iq c3 h
      obtain ⟨hc4, h⟩ := ck h
      obtain ⟨w5, ew5, h⟩ := lt_e h
      obtain ⟨w6, ew6, h⟩ := lt_e h
      exact aw_aload_n eX6_write_27 rfl (aw_getf (k := 6) (f := 8) eX6_write_28 tw_2_55 ⟨by decide, by decide⟩ (by decide) (v := aR 26 0) rfl (aw_aload_n eX6_write_31 rfl (aw_getf (k := 6) (f := 9) eX6_write_32 tw_2_56 ⟨by decide, by decide⟩ (by decide) (v := aI (w.1 6 0 9)) rfl (aw_iload_n eX6_write_35 rfl (aw_iastK (n := 48) eX6_write_36 rfl (by decide) hc4 (j := (Int32.toNatClampNeg (w.1 6 0 9))) rfl (aw_wn ew5 (aw_aload_n eX6_write_37 rfl (aw_dupR eX6_write_38 (aw_getf (k := 6) (f := 9) eX6_write_39 tw_2_56 ⟨by decide, by decide⟩ (by decide) (v := aI (w5.1 6 0 9)) rfl (aw_iconst eX6_write_42 k_iconst_1 (aw_iadd eX6_write_43 (aw_putI (k := 6) (f := 9) eX6_write_44 tw_2_56 ⟨by decide, by decide⟩ (by decide) ⟨rfl, rfl, rfl, rfl⟩ (aw_wn ew6 (aw_aload_n eX6_write_47 rfl (aw_getf (k := 6) (f := 9) eX6_write_48 tw_2_56 ⟨by decide, by decide⟩ (by decide) (v := aI (w6.1 6 0 9)) rfl (aw_iret eX6_write_51 rfl (pI_i h)))))))))))))))))
    · have h := ip c3 h
      exact aw_bipush eX6_write_24 k_bipush_m4 (aw_iret eX6_write_26 rfl (pI_i h))
  · have h := ip c2 h
    exact aw_bipush eX6_write_12 k_bipush_m2 (aw_iret eX6_write_14 rfl (pI_i h))
def D_X6_wipe (w : Wd) : Option (Int32 × Wd) := lt (w.1 6 0 9) fun x1_1 => lt (wS w 6 0 9 0) fun w2 => some (x1_1, w2)
set_option maxHeartbeats 4000000 in
set_option maxRecDepth 100000 in
theorem A_X6_wipe {X : XS} {w : Wd} {r : Int32 × Wd} (h : D_X6_wipe w = some r) : AW 0 X mX6_wipe 0 (entA 2 [aR 6 0]) [] w (PI r.1 r.2) := by
  show AW _ _ _ _ [some (aR 6 0), none] _ _ _
  unfold D_X6_wipe at h
  obtain ⟨x1_1, ex1_1, h⟩ := lt_e h
  obtain ⟨w2, ew2, h⟩ := lt_e h
  exact aw_aload_n eX6_wipe_0 rfl (aw_getf (k := 6) (f := 9) eX6_wipe_1 tw_2_56 ⟨by decide, by decide⟩ (by decide) (v := aI (w.1 6 0 9)) rfl (aw_istore_nY ex1_1 eX6_wipe_4 (by decide) rfl (ls' := [some (aR 6 0), some (aI x1_1)]) rfl (aw_aload_n eX6_wipe_5 rfl (aw_iconst eX6_wipe_6 k_iconst_0 (aw_putI (k := 6) (f := 9) eX6_wipe_7 tw_2_56 ⟨by decide, by decide⟩ (by decide) ⟨rfl, rfl, rfl, rfl⟩ (aw_wn ew2 (aw_iload_n eX6_wipe_10 rfl (aw_iret eX6_wipe_11 rfl (pI_i h)))))))))
def D_X6_mayBe (w : Wd) (x1 : Int32) : Option (Int32) := if inB x1 48 then lt ((w.1 26 0 (Int32.toNatClampNeg x1)) - (48 : Int32)) fun x2_2 => if 8 ≤ x1 then (lt ((x1 - (8 : Int32)) - (x1 - (8 : Int32)) / (6 : Int32) * (6 : Int32)) fun t4 => if t4 = 0 then (if 44 ≤ x1 then (some (0)) else (if inB x1 48 then if (w.1 26 0 (Int32.toNatClampNeg x1)) = 87 then (some (1)) else (some (0)) else none)) else (if t4 = 1 then ((D_X6_in (Int32.toInt64 x2_2) 0 5).bind fun q11 => if q11 = 0 ∨ q11 = 1 then some (q11) else none) else (if t4 = 2 then ((D_X6_in (Int32.toInt64 x2_2) 0 9).bind fun q14 => if q14 = 0 ∨ q14 = 1 then some (q14) else none) else (if t4 = 3 then (if inB (x1 - (1 : Int32)) 48 then (D_X6_in (Int32.toInt64 x2_2) (Int32.toInt64 ((w.1 26 0 (Int32.toNatClampNeg (x1 - (1 : Int32)))) - (48 : Int32))) 9).bind fun q18 => if q18 = 0 ∨ q18 = 1 then some (q18) else none else none) else (if t4 = 4 then ((D_X6_in (Int32.toInt64 x2_2) 1 3).bind fun q21 => if q21 = 0 ∨ q21 = 1 then some (q21) else none) else ((D_X6_in (Int32.toInt64 x2_2) 0 3).bind fun q5 => if q5 = 0 ∨ q5 = 1 then some (q5) else none)))))) else (if x1 = 0 then (if (w.1 26 0 0) = 78 then (some (1)) else (some (0))) else (if x1 = 1 then ((D_X6_in (Int32.toInt64 x2_2) 1 9).bind fun q31 => if q31 = 0 ∨ q31 = 1 then some (q31) else none) else (if x1 = 2 then ((D_X6_in (Int32.toInt64 x2_2) 0 5).bind fun q29 => if q29 = 0 ∨ q29 = 1 then some (q29) else none) else ((D_X6_in (Int32.toInt64 x2_2) 0 3).bind fun q27 => if q27 = 0 ∨ q27 = 1 then some (q27) else none)))) else none
set_option maxHeartbeats 4000000 in
set_option maxRecDepth 100000 in
theorem A_X6_mayBe {X : XS} {w : Wd} {x1 : Int32} {r : Int32} (h : D_X6_mayBe w x1 = some r) : AW 1 X mX6_mayBe 0 (entA 3 [aR 6 0, aI x1]) [] w (PI r w) := by
  show AW _ _ _ _ [some (aR 6 0), some (aI x1), none] _ _ _
  unfold D_X6_mayBe at h
  obtain ⟨hc1, h⟩ := ck h
  obtain ⟨x2_2, ex2_2, h⟩ := lt_e h
  refine aw_aload_n eX6_mayBe_0 rfl (aw_getf (k := 6) (f := 8) eX6_mayBe_1 tw_2_55 ⟨by decide, by decide⟩ (by decide) (v := aR 26 0) rfl (aw_iload_n eX6_mayBe_4 rfl (aw_ialdK (n := 48) eX6_mayBe_5 rfl (by decide) hc1 (j := (Int32.toNatClampNeg x1)) rfl (aw_bipush eX6_mayBe_6 k_bipush_48 (aw_isub eX6_mayBe_8 (aw_istore_nY ex2_2 eX6_mayBe_9 (by decide) rfl (ls' := [some (aR 6 0), some (aI x1), some (aI x2_2)]) rfl (aw_iload_n eX6_mayBe_10 rfl (aw_bipush eX6_mayBe_11 k_bipush_8 (aw_icmp_ge eX6_mayBe_13 (fun c3 => ?_) (fun c3 => ?_))))))))))
  · have h := ip c3 h
    obtain ⟨t4, et4, h⟩ := lt_e h
    refine aw_iload_n eX6_mayBe_77 rfl (aw_bipush eX6_mayBe_78 k_bipush_8 (aw_isub eX6_mayBe_80 (aw_bipush eX6_mayBe_81 k_bipush_6 (aw_irem eX6_mayBe_83 (by decide) ?_))))
    by_cases c10 : t4 = 0
    · have h := ip c10 h
      refine aw_tabIn eX6_mayBe_84 (by rw [← et4, c10]; decide) (by rw [← et4, c10]; decide) (off := 36) (tgt := 120) (by rw [← et4, c10]; decide) (by decide) ?_
      refine aw_iload_n eX6_mayBe_120 rfl (aw_bipush eX6_mayBe_121 k_bipush_44 (aw_icmp_ge eX6_mayBe_123 (fun c7 => ?_) (fun c7 => ?_)))
      · have h := ip c7 h
        exact aw_iconst eX6_mayBe_141 k_iconst_0 (aw_zret eX6_mayBe_142 rfl (by decide +kernel) (pI_p h))
      · have h := iq c7 h
        obtain ⟨hc8, h⟩ := ck h
        refine aw_aload_n eX6_mayBe_126 rfl (aw_getf (k := 6) (f := 8) eX6_mayBe_127 tw_2_55 ⟨by decide, by decide⟩ (by decide) (v := aR 26 0) rfl (aw_iload_n eX6_mayBe_130 rfl (aw_ialdK (n := 48) eX6_mayBe_131 rfl (by decide) hc8 (j := (Int32.toNatClampNeg x1)) rfl (aw_bipush eX6_mayBe_132 k_bipush_87 (aw_icmp_ne eX6_mayBe_134 (fun c9 => ?_) (fun c9 => ?_))))))
        · have h := iq c9 h
          exact aw_iconst eX6_mayBe_141 k_iconst_0 (aw_zret eX6_mayBe_142 rfl (by decide +kernel) (pI_p h))
        · have h := ip c9 h
          exact aw_iconst eX6_mayBe_137 k_iconst_1 (aw_goto eX6_mayBe_138 (aw_zret eX6_mayBe_142 rfl (by decide +kernel) (pI_p h)))
    · have h := iq c10 h
      by_cases c13 : t4 = 1
      · have h := ip c13 h
        refine aw_tabIn eX6_mayBe_84 (by rw [← et4, c13]; decide) (by rw [← et4, c13]; decide) (off := 59) (tgt := 143) (by rw [← et4, c13]; decide) (by decide) ?_
        obtain ⟨q11, hq11, h⟩ := bd h
        obtain ⟨hc12, h⟩ := ck h
        exact aw_iload_n eX6_mayBe_143 rfl (aw_i2l eX6_mayBe_144 (aw_lconst eX6_mayBe_145 k_lconst_0 (aw_ldc2 eX6_mayBe_146 tw_2_132 (aw_callSI (N := mX6_in) [aL (Int32.toInt64 x2_2), aL 0, aL 5] eX6_mayBe_149 tw_2_116 msX6_in (by decide) rfl rfl (Nat.le_of_ble_eq_true rfl) (A_X6_in hq11) (aw_zret eX6_mayBe_152 rfl (nar01 hc12) (pI_p h))))))
      · have h := iq c13 h
        by_cases c16 : t4 = 2
        · have h := ip c16 h
          refine aw_tabIn eX6_mayBe_84 (by rw [← et4, c16]; decide) (by rw [← et4, c16]; decide) (off := 69) (tgt := 153) (by rw [← et4, c16]; decide) (by decide) ?_
          obtain ⟨q14, hq14, h⟩ := bd h
          obtain ⟨hc15, h⟩ := ck h
          exact aw_iload_n eX6_mayBe_153 rfl (aw_i2l eX6_mayBe_154 (aw_lconst eX6_mayBe_155 k_lconst_0 (aw_ldc2 eX6_mayBe_156 tw_2_131 (aw_callSI (N := mX6_in) [aL (Int32.toInt64 x2_2), aL 0, aL 9] eX6_mayBe_159 tw_2_116 msX6_in (by decide) rfl rfl (Nat.le_of_ble_eq_true rfl) (A_X6_in hq14) (aw_zret eX6_mayBe_162 rfl (nar01 hc15) (pI_p h))))))
        · have h := iq c16 h
          by_cases c20 : t4 = 3
          · have h := ip c20 h
            refine aw_tabIn eX6_mayBe_84 (by rw [← et4, c20]; decide) (by rw [← et4, c20]; decide) (off := 79) (tgt := 163) (by rw [← et4, c20]; decide) (by decide) ?_
            obtain ⟨hc17, h⟩ := ck h
            obtain ⟨q18, hq18, h⟩ := bd h
            obtain ⟨hc19, h⟩ := ck h
            exact aw_iload_n eX6_mayBe_163 rfl (aw_i2l eX6_mayBe_164 (aw_aload_n eX6_mayBe_165 rfl (aw_getf (k := 6) (f := 8) eX6_mayBe_166 tw_2_55 ⟨by decide, by decide⟩ (by decide) (v := aR 26 0) rfl (aw_iload_n eX6_mayBe_169 rfl (aw_iconst eX6_mayBe_170 k_iconst_1 (aw_isub eX6_mayBe_171 (aw_ialdK (n := 48) eX6_mayBe_172 rfl (by decide) hc17 (j := (Int32.toNatClampNeg (x1 - (1 : Int32)))) rfl (aw_bipush eX6_mayBe_173 k_bipush_48 (aw_isub eX6_mayBe_175 (aw_i2l eX6_mayBe_176 (aw_ldc2 eX6_mayBe_177 tw_2_131 (aw_callSI (N := mX6_in) [aL (Int32.toInt64 x2_2), aL (Int32.toInt64 ((w.1 26 0 (Int32.toNatClampNeg (x1 - (1 : Int32)))) - (48 : Int32))), aL 9] eX6_mayBe_180 tw_2_116 msX6_in (by decide) rfl rfl (Nat.le_of_ble_eq_true rfl) (A_X6_in hq18) (aw_zret eX6_mayBe_183 rfl (nar01 hc19) (pI_p h))))))))))))))
          · have h := iq c20 h
            by_cases c23 : t4 = 4
            · have h := ip c23 h
              refine aw_tabIn eX6_mayBe_84 (by rw [← et4, c23]; decide) (by rw [← et4, c23]; decide) (off := 100) (tgt := 184) (by rw [← et4, c23]; decide) (by decide) ?_
              obtain ⟨q21, hq21, h⟩ := bd h
              obtain ⟨hc22, h⟩ := ck h
              exact aw_iload_n eX6_mayBe_184 rfl (aw_i2l eX6_mayBe_185 (aw_lconst eX6_mayBe_186 k_lconst_1 (aw_ldc2 eX6_mayBe_187 tw_2_133 (aw_callSI (N := mX6_in) [aL (Int32.toInt64 x2_2), aL 1, aL 3] eX6_mayBe_190 tw_2_116 msX6_in (by decide) rfl rfl (Nat.le_of_ble_eq_true rfl) (A_X6_in hq21) (aw_zret eX6_mayBe_193 rfl (nar01 hc22) (pI_p h))))))
            · have h := iq c23 h
              have hto : t4.toInt < 0 ∨ 4 < t4.toInt := tab_out (fun c h1 h2 => by
                have hcc : c = 0 ∨ c = 1 ∨ c = 2 ∨ c = 3 ∨ c = 4 := by omega
                rcases hcc with rfl | rfl | rfl | rfl | rfl
                · exact fun z => c10 (z.trans (by decide))
                · exact fun z => c13 (z.trans (by decide))
                · exact fun z => c16 (z.trans (by decide))
                · exact fun z => c20 (z.trans (by decide))
                · exact fun z => c23 (z.trans (by decide)))
              refine aw_tabOut eX6_mayBe_84 (by rw [← et4]; exact hto) (tgt := 194) (by decide) ?_
              obtain ⟨q5, hq5, h⟩ := bd h
              obtain ⟨hc6, h⟩ := ck h
              exact aw_iload_n eX6_mayBe_194 rfl (aw_i2l eX6_mayBe_195 (aw_lconst eX6_mayBe_196 k_lconst_0 (aw_ldc2 eX6_mayBe_197 tw_2_133 (aw_callSI (N := mX6_in) [aL (Int32.toInt64 x2_2), aL 0, aL 3] eX6_mayBe_200 tw_2_116 msX6_in (by decide) rfl rfl (Nat.le_of_ble_eq_true rfl) (A_X6_in hq5) (aw_zret eX6_mayBe_203 rfl (nar01 hc6) (pI_p h))))))
  · have h := iq c3 h
    refine aw_iload_n eX6_mayBe_16 rfl (aw_if_ne eX6_mayBe_17 (fun c24 => ?_) (fun c24 => ?_))
    · have h := iq c24 h
      refine aw_iload_n eX6_mayBe_39 rfl (aw_iconst eX6_mayBe_40 k_iconst_1 (aw_icmp_ne eX6_mayBe_41 (fun c25 => ?_) (fun c25 => ?_)))
      · have h := iq c25 h
        refine aw_iload_n eX6_mayBe_56 rfl (aw_i2l eX6_mayBe_57 (aw_lconst eX6_mayBe_58 k_lconst_0 (aw_iload_n eX6_mayBe_59 rfl (aw_iconst eX6_mayBe_60 k_iconst_2 (aw_icmp_ne eX6_mayBe_61 (fun c26 => ?_) (fun c26 => ?_))))))
        · have h := iq c26 h
          obtain ⟨q27, hq27, h⟩ := bd h
          obtain ⟨hc28, h⟩ := ck h
          exact aw_ldc2 eX6_mayBe_70 tw_2_133 (aw_callSI (N := mX6_in) [aL (Int32.toInt64 x2_2), aL 0, aL 3] eX6_mayBe_73 tw_2_116 msX6_in (by decide) rfl rfl (Nat.le_of_ble_eq_true rfl) (A_X6_in hq27) (aw_zret eX6_mayBe_76 rfl (nar01 hc28) (pI_p h)))
        · have h := ip c26 h
          obtain ⟨q29, hq29, h⟩ := bd h
          obtain ⟨hc30, h⟩ := ck h
          exact aw_ldc2 eX6_mayBe_64 tw_2_132 (aw_goto eX6_mayBe_67 (aw_callSI (N := mX6_in) [aL (Int32.toInt64 x2_2), aL 0, aL 5] eX6_mayBe_73 tw_2_116 msX6_in (by decide) rfl rfl (Nat.le_of_ble_eq_true rfl) (A_X6_in hq29) (aw_zret eX6_mayBe_76 rfl (nar01 hc30) (pI_p h))))
      · have h := ip c25 h
        obtain ⟨q31, hq31, h⟩ := bd h
        obtain ⟨hc32, h⟩ := ck h
        exact aw_iload_n eX6_mayBe_44 rfl (aw_i2l eX6_mayBe_45 (aw_lconst eX6_mayBe_46 k_lconst_1 (aw_ldc2 eX6_mayBe_47 tw_2_131 (aw_callSI (N := mX6_in) [aL (Int32.toInt64 x2_2), aL 1, aL 9] eX6_mayBe_50 tw_2_116 msX6_in (by decide) rfl rfl (Nat.le_of_ble_eq_true rfl) (A_X6_in hq31) (aw_goto eX6_mayBe_53 (aw_zret eX6_mayBe_76 rfl (nar01 hc32) (pI_p h)))))))
    · have h := ip c24 h
      refine aw_aload_n eX6_mayBe_20 rfl (aw_getf (k := 6) (f := 8) eX6_mayBe_21 tw_2_55 ⟨by decide, by decide⟩ (by decide) (v := aR 26 0) rfl (aw_iconst eX6_mayBe_24 k_iconst_0 (aw_ialdK (n := 48) eX6_mayBe_25 rfl (by decide) (by decide) (j := 0) (by decide) (aw_bipush eX6_mayBe_26 k_bipush_78 (aw_icmp_ne eX6_mayBe_28 (fun c33 => ?_) (fun c33 => ?_))))))
      · have h := iq c33 h
        exact aw_iconst eX6_mayBe_35 k_iconst_0 (aw_goto eX6_mayBe_36 (aw_zret eX6_mayBe_76 rfl (by decide +kernel) (pI_p h)))
      · have h := ip c33 h
        exact aw_iconst eX6_mayBe_31 k_iconst_1 (aw_goto eX6_mayBe_32 (aw_zret eX6_mayBe_76 rfl (by decide +kernel) (pI_p h)))
def D_X6_fault_2 (w : Wd) : Nat → Int32 → Option (Int32)
  | 0, _ => none
  | n + 1, x1 => if (w.1 6 0 9) ≤ x1 then (if (w.1 6 0 9) ≤ 7 then (some (w.1 6 0 9)) else (if (((w.1 6 0 9) - (8 : Int32)) - ((w.1 6 0 9) - (8 : Int32)) / (6 : Int32) * (6 : Int32)) = 0 then (some ((-9))) else (some (w.1 6 0 9)))) else ((D_X6_mayBe w x1).bind fun q4 => if q4 = 0 then (some (x1)) else (lt (x1 + 1) fun x1_6 => D_X6_fault_2 w n x1_6))
set_option maxHeartbeats 4000000 in
set_option maxRecDepth 100000 in
theorem A_X6_fault_2 {X : XS} {w : Wd} : ∀ (nn : Nat) {x1 : Int32} {r : Int32}, D_X6_fault_2 w nn x1 = some r → AW 2 X mX6_fault 2 [some (aR 6 0), some (aI x1)] [] w (PI r w) := by
  intro nn
  induction nn with
  | zero => intros; rename_i h; cases h
  | succ n ih =>
    intro x1 r h
    rw [D_X6_fault_2] at h
    refine aw_iload_n eX6_fault_2 rfl (aw_aload_n eX6_fault_3 rfl (aw_getf (k := 6) (f := 9) eX6_fault_4 tw_2_56 ⟨by decide, by decide⟩ (by decide) (v := aI (w.1 6 0 9)) rfl (aw_icmp_ge eX6_fault_7 (fun c1 => ?_) (fun c1 => ?_))))
    · have h := ip c1 h
      refine aw_aload_n eX6_fault_26 rfl (aw_getf (k := 6) (f := 9) eX6_fault_27 tw_2_56 ⟨by decide, by decide⟩ (by decide) (v := aI (w.1 6 0 9)) rfl (aw_bipush eX6_fault_30 k_bipush_7 (aw_icmp_le eX6_fault_32 (fun c2 => ?_) (fun c2 => ?_))))
      · have h := ip c2 h
        exact aw_aload_n eX6_fault_53 rfl (aw_getf (k := 6) (f := 9) eX6_fault_54 tw_2_56 ⟨by decide, by decide⟩ (by decide) (v := aI (w.1 6 0 9)) rfl (aw_iret eX6_fault_57 rfl (pI_p h)))
      · have h := iq c2 h
        refine aw_aload_n eX6_fault_35 rfl (aw_getf (k := 6) (f := 9) eX6_fault_36 tw_2_56 ⟨by decide, by decide⟩ (by decide) (v := aI (w.1 6 0 9)) rfl (aw_bipush eX6_fault_39 k_bipush_8 (aw_isub eX6_fault_41 (aw_bipush eX6_fault_42 k_bipush_6 (aw_irem eX6_fault_44 (by decide) (aw_if_ne eX6_fault_45 (fun c3 => ?_) (fun c3 => ?_)))))))
        · have h := iq c3 h
          exact aw_aload_n eX6_fault_53 rfl (aw_getf (k := 6) (f := 9) eX6_fault_54 tw_2_56 ⟨by decide, by decide⟩ (by decide) (v := aI (w.1 6 0 9)) rfl (aw_iret eX6_fault_57 rfl (pI_p h)))
        · have h := ip c3 h
          exact aw_bipush eX6_fault_48 k_bipush_m9 (aw_goto eX6_fault_50 (aw_iret eX6_fault_57 rfl (pI_p h)))
    · have h := iq c1 h
      obtain ⟨q4, hq4, h⟩ := bd h
      refine aw_aload_n eX6_fault_10 rfl (aw_iload_n eX6_fault_11 rfl (aw_callVI (N := mX6_mayBe) [aI x1] eX6_fault_12 tw_2_127 miX6_mayBe (by decide) (by decide) (by decide) rfl rfl (Nat.le_of_ble_eq_true rfl) (A_X6_mayBe hq4) (aw_if_ne eX6_fault_15 (fun c5 => ?_) (fun c5 => ?_))))
      · have h := iq c5 h
        obtain ⟨x1_6, ex1_6, h⟩ := lt_e h
        refine aw_iincY (iinc_k k_iconst_1 ex1_6) eX6_fault_20 rfl (by decide) rfl (ls' := [some (aR 6 0), some (aI x1_6)]) rfl (aw_goto eX6_fault_23 ?_)
        exact ih h
      · have h := ip c5 h
        exact aw_iload_n eX6_fault_18 rfl (aw_iret eX6_fault_19 rfl (pI_p h))
def D_X6_fault (w : Wd) : Option (Int32) := D_X6_fault_2 w fuelZ 0
set_option maxHeartbeats 4000000 in
set_option maxRecDepth 100000 in
theorem A_X6_fault {X : XS} {w : Wd} {r : Int32} (h : D_X6_fault w = some r) : AW 2 X mX6_fault 0 (entA 2 [aR 6 0]) [] w (PI r w) := by
  show AW _ _ _ _ [some (aR 6 0), none] _ _ _
  unfold D_X6_fault at h
  refine aw_iconst eX6_fault_0 k_iconst_0 (aw_istore_nY rfl eX6_fault_1 (by decide) rfl (ls' := [some (aR 6 0), some (aI 0)]) rfl ?_)
  exact A_X6_fault_2 fuelZ h
def D_X6_parish_102 : Nat → Int32 → Wd → Option (Int32 × Wd)
  | 0, _, _ => none
  | n + 1, x1, w => if (w.1 6 0 0) ≤ x1 then (lt (wS w 6 0 10 0) fun w10 => lt (wS w10 33 0 0 0) fun w11 => lt (wS w11 33 0 1 0) fun w12 => some (w12.1 6 0 0, w12)) else (lt ((8 : Int32) + ((6 : Int32) * x1)) fun x2_13 => if inB (x2_13 + (1 : Int32)) 48 then if inB x1 6 then lt (wS w 20 0 (Int32.toNatClampNeg x1) ((w.1 26 0 (Int32.toNatClampNeg (x2_13 + (1 : Int32)))) - (48 : Int32))) fun w16 => if inB (x2_13 + (2 : Int32)) 48 then if inB x1 6 then lt (wS w16 21 0 (Int32.toNatClampNeg x1) ((w16.1 26 0 (Int32.toNatClampNeg (x2_13 + (2 : Int32)))) - (48 : Int32))) fun w19 => if inB (x2_13 + (3 : Int32)) 48 then if inB x1 6 then lt (wS w19 22 0 (Int32.toNatClampNeg x1) ((w19.1 26 0 (Int32.toNatClampNeg (x2_13 + (3 : Int32)))) - (48 : Int32))) fun w22 => if inB (x2_13 + (4 : Int32)) 48 then if inB x1 6 then lt (wS w22 23 0 (Int32.toNatClampNeg x1) ((w22.1 26 0 (Int32.toNatClampNeg (x2_13 + (4 : Int32)))) - (48 : Int32))) fun w25 => if inB (x2_13 + (5 : Int32)) 48 then if inB x1 6 then lt (wS w25 24 0 (Int32.toNatClampNeg x1) ((w25.1 26 0 (Int32.toNatClampNeg (x2_13 + (5 : Int32)))) - (48 : Int32))) fun w28 => lt (x1 + 1) fun x1_29 => D_X6_parish_102 n x1_29 w28 else none else none else none else none else none else none else none else none else none else none)
set_option maxHeartbeats 4000000 in
set_option maxRecDepth 100000 in
theorem A_X6_parish_102 {X : XS} : ∀ (nn : Nat) {x1 : Int32} {w : Wd} {r : Int32 × Wd}, D_X6_parish_102 nn x1 w = some r → AW 3 X mX6_parish 102 [some (aR 6 0), some (aI x1), none] [] w (PI r.1 r.2) := by
  intro nn
  induction nn with
  | zero => intros; rename_i h; cases h
  | succ n ih =>
    intro x1 w r h
    rw [D_X6_parish_102] at h
    refine aw_iload_n eX6_parish_102 rfl (aw_aload_n eX6_parish_103 rfl (aw_getf (k := 6) (f := 0) eX6_parish_104 tw_2_47 ⟨by decide, by decide⟩ (by decide) (v := aI (w.1 6 0 0)) rfl (aw_icmp_ge eX6_parish_107 (fun c9 => ?_) (fun c9 => ?_))))
    · have h := ip c9 h
      obtain ⟨w10, ew10, h⟩ := lt_e h
      obtain ⟨w11, ew11, h⟩ := lt_e h
      obtain ⟨w12, ew12, h⟩ := lt_e h
      exact aw_aload_n eX6_parish_209 rfl (aw_iconst eX6_parish_210 k_iconst_0 (aw_putI (k := 6) (f := 10) eX6_parish_211 tw_2_57 ⟨by decide, by decide⟩ (by decide) ⟨rfl, rfl, rfl, rfl⟩ (aw_wn ew10 (aw_aload_n eX6_parish_214 rfl (aw_getf (k := 6) (f := 19) eX6_parish_215 tw_2_66 ⟨by decide, by decide⟩ (by decide) (v := aR 33 0) rfl (aw_iconst eX6_parish_218 k_iconst_0 (aw_iconst eX6_parish_219 k_iconst_0 (aw_zastK (n := 2) eX6_parish_220 rfl (by decide) (by decide) vnar0 (j := 0) (by decide) (aw_wn ew11 (aw_aload_n eX6_parish_221 rfl (aw_getf (k := 6) (f := 19) eX6_parish_222 tw_2_66 ⟨by decide, by decide⟩ (by decide) (v := aR 33 0) rfl (aw_iconst eX6_parish_225 k_iconst_1 (aw_iconst eX6_parish_226 k_iconst_0 (aw_zastK (n := 2) eX6_parish_227 rfl (by decide) (by decide) vnar0 (j := 1) (by decide) (aw_wn ew12 (aw_aload_n eX6_parish_228 rfl (aw_getf (k := 6) (f := 0) eX6_parish_229 tw_2_47 ⟨by decide, by decide⟩ (by decide) (v := aI (w12.1 6 0 0)) rfl (aw_iret eX6_parish_232 rfl (pI_i h)))))))))))))))))))
    · have h := iq c9 h
      obtain ⟨x2_13, ex2_13, h⟩ := lt_e h
      obtain ⟨hc14, h⟩ := ck h
      obtain ⟨hc15, h⟩ := ck h
      obtain ⟨w16, ew16, h⟩ := lt_e h
      obtain ⟨hc17, h⟩ := ck h
      obtain ⟨hc18, h⟩ := ck h
      obtain ⟨w19, ew19, h⟩ := lt_e h
      obtain ⟨hc20, h⟩ := ck h
      obtain ⟨hc21, h⟩ := ck h
      obtain ⟨w22, ew22, h⟩ := lt_e h
      obtain ⟨hc23, h⟩ := ck h
      obtain ⟨hc24, h⟩ := ck h
      obtain ⟨w25, ew25, h⟩ := lt_e h
      obtain ⟨hc26, h⟩ := ck h
      obtain ⟨hc27, h⟩ := ck h
      obtain ⟨w28, ew28, h⟩ := lt_e h
      obtain ⟨x1_29, ex1_29, h⟩ := lt_e h
      refine aw_bipush eX6_parish_110 k_bipush_8 (aw_bipush eX6_parish_112 k_bipush_6 (aw_iload_n eX6_parish_114 rfl (aw_imul eX6_parish_115 (aw_iadd eX6_parish_116 (aw_istore_nY ex2_13 eX6_parish_117 (by decide) rfl (ls' := [some (aR 6 0), some (aI x1), some (aI x2_13)]) rfl (aw_aload_n eX6_parish_118 rfl (aw_getf (k := 6) (f := 2) eX6_parish_119 tw_2_49 ⟨by decide, by decide⟩ (by decide) (v := aR 20 0) rfl (aw_iload_n eX6_parish_122 rfl (aw_aload_n eX6_parish_123 rfl (aw_getf (k := 6) (f := 8) eX6_parish_124 tw_2_55 ⟨by decide, by decide⟩ (by decide) (v := aR 26 0) rfl (aw_iload_n eX6_parish_127 rfl (aw_iconst eX6_parish_128 k_iconst_1 (aw_iadd eX6_parish_129 (aw_ialdK (n := 48) eX6_parish_130 rfl (by decide) hc14 (j := (Int32.toNatClampNeg (x2_13 + (1 : Int32)))) rfl (aw_bipush eX6_parish_131 k_bipush_48 (aw_isub eX6_parish_133 (aw_iastK (n := 6) eX6_parish_134 rfl (by decide) hc15 (j := (Int32.toNatClampNeg x1)) rfl (aw_wn ew16 (aw_aload_n eX6_parish_135 rfl (aw_getf (k := 6) (f := 3) eX6_parish_136 tw_2_50 ⟨by decide, by decide⟩ (by decide) (v := aR 21 0) rfl (aw_iload_n eX6_parish_139 rfl (aw_aload_n eX6_parish_140 rfl (aw_getf (k := 6) (f := 8) eX6_parish_141 tw_2_55 ⟨by decide, by decide⟩ (by decide) (v := aR 26 0) rfl (aw_iload_n eX6_parish_144 rfl (aw_iconst eX6_parish_145 k_iconst_2 (aw_iadd eX6_parish_146 (aw_ialdK (n := 48) eX6_parish_147 rfl (by decide) hc17 (j := (Int32.toNatClampNeg (x2_13 + (2 : Int32)))) rfl (aw_bipush eX6_parish_148 k_bipush_48 (aw_isub eX6_parish_150 (aw_iastK (n := 6) eX6_parish_151 rfl (by decide) hc18 (j := (Int32.toNatClampNeg x1)) rfl (aw_wn ew19 (aw_aload_n eX6_parish_152 rfl (aw_getf (k := 6) (f := 4) eX6_parish_153 tw_2_51 ⟨by decide, by decide⟩ (by decide) (v := aR 22 0) rfl (aw_iload_n eX6_parish_156 rfl (aw_aload_n eX6_parish_157 rfl (aw_getf (k := 6) (f := 8) eX6_parish_158 tw_2_55 ⟨by decide, by decide⟩ (by decide) (v := aR 26 0) rfl (aw_iload_n eX6_parish_161 rfl (aw_iconst eX6_parish_162 k_iconst_3 (aw_iadd eX6_parish_163 (aw_ialdK (n := 48) eX6_parish_164 rfl (by decide) hc20 (j := (Int32.toNatClampNeg (x2_13 + (3 : Int32)))) rfl (aw_bipush eX6_parish_165 k_bipush_48 (aw_isub eX6_parish_167 (aw_iastK (n := 6) eX6_parish_168 rfl (by decide) hc21 (j := (Int32.toNatClampNeg x1)) rfl (aw_wn ew22 (aw_aload_n eX6_parish_169 rfl (aw_getf (k := 6) (f := 5) eX6_parish_170 tw_2_52 ⟨by decide, by decide⟩ (by decide) (v := aR 23 0) rfl (aw_iload_n eX6_parish_173 rfl (aw_aload_n eX6_parish_174 rfl (aw_getf (k := 6) (f := 8) eX6_parish_175 tw_2_55 ⟨by decide, by decide⟩ (by decide) (v := aR 26 0) rfl (aw_iload_n eX6_parish_178 rfl (aw_iconst eX6_parish_179 k_iconst_4 (aw_iadd eX6_parish_180 (aw_ialdK (n := 48) eX6_parish_181 rfl (by decide) hc23 (j := (Int32.toNatClampNeg (x2_13 + (4 : Int32)))) rfl (aw_bipush eX6_parish_182 k_bipush_48 (aw_isub eX6_parish_184 (aw_iastK (n := 6) eX6_parish_185 rfl (by decide) hc24 (j := (Int32.toNatClampNeg x1)) rfl (aw_wn ew25 (aw_aload_n eX6_parish_186 rfl (aw_getf (k := 6) (f := 6) eX6_parish_187 tw_2_53 ⟨by decide, by decide⟩ (by decide) (v := aR 24 0) rfl (aw_iload_n eX6_parish_190 rfl (aw_aload_n eX6_parish_191 rfl (aw_getf (k := 6) (f := 8) eX6_parish_192 tw_2_55 ⟨by decide, by decide⟩ (by decide) (v := aR 26 0) rfl (aw_iload_n eX6_parish_195 rfl (aw_iconst eX6_parish_196 k_iconst_5 (aw_iadd eX6_parish_197 (aw_ialdK (n := 48) eX6_parish_198 rfl (by decide) hc26 (j := (Int32.toNatClampNeg (x2_13 + (5 : Int32)))) rfl (aw_bipush eX6_parish_199 k_bipush_48 (aw_isub eX6_parish_201 (aw_iastK (n := 6) eX6_parish_202 rfl (by decide) hc27 (j := (Int32.toNatClampNeg x1)) rfl (aw_wn ew28 (aw_iincY (iinc_k k_iconst_1 ex1_29) eX6_parish_203 rfl (by decide) rfl (ls' := [some (aR 6 0), some (aI x1_29), some (aI x2_13)]) rfl (aw_goto eX6_parish_206 ?_))))))))))))))))))))))))))))))))))))))))))))))))))))))))))))))))))))))))
      exact aw_sub (ls' := [some (aR 6 0), some (aI x1_29), none]) ⟨rfl, ⟨rfl, trivial⟩⟩ (ih h)
def D_X6_parish_70 : Nat → Int32 → Wd → Option (Int32 × Wd)
  | 0, _, _ => none
  | n + 1, x1, w => if 5 ≤ x1 then (D_X6_parish_102 fuelZ 0 w) else (if inB ((3 : Int32) + x1) 48 then if inB ((3 : Int32) + x1) 16 then lt (wS w 25 0 (Int32.toNatClampNeg ((3 : Int32) + x1)) ((w.1 26 0 (Int32.toNatClampNeg ((3 : Int32) + x1))) - (48 : Int32))) fun w32 => lt (x1 + 1) fun x1_33 => D_X6_parish_70 n x1_33 w32 else none else none)
set_option maxHeartbeats 4000000 in
set_option maxRecDepth 100000 in
theorem A_X6_parish_70 {X : XS} : ∀ (nn : Nat) {x1 : Int32} {w : Wd} {r : Int32 × Wd}, D_X6_parish_70 nn x1 w = some r → AW 3 X mX6_parish 70 [some (aR 6 0), some (aI x1), none] [] w (PI r.1 r.2) := by
  intro nn
  induction nn with
  | zero => intros; rename_i h; cases h
  | succ n ih =>
    intro x1 w r h
    rw [D_X6_parish_70] at h
    refine aw_iload_n eX6_parish_70 rfl (aw_iconst eX6_parish_71 k_iconst_5 (aw_icmp_ge eX6_parish_72 (fun c8 => ?_) (fun c8 => ?_)))
    · have h := ip c8 h
      refine aw_iconst eX6_parish_100 k_iconst_0 (aw_istore_nY rfl eX6_parish_101 (by decide) rfl (ls' := [some (aR 6 0), some (aI 0), none]) rfl ?_)
      exact A_X6_parish_102 fuelZ h
    · have h := iq c8 h
      obtain ⟨hc30, h⟩ := ck h
      obtain ⟨hc31, h⟩ := ck h
      obtain ⟨w32, ew32, h⟩ := lt_e h
      obtain ⟨x1_33, ex1_33, h⟩ := lt_e h
      refine aw_aload_n eX6_parish_75 rfl (aw_getf (k := 6) (f := 7) eX6_parish_76 tw_2_54 ⟨by decide, by decide⟩ (by decide) (v := aR 25 0) rfl (aw_iconst eX6_parish_79 k_iconst_3 (aw_iload_n eX6_parish_80 rfl (aw_iadd eX6_parish_81 (aw_aload_n eX6_parish_82 rfl (aw_getf (k := 6) (f := 8) eX6_parish_83 tw_2_55 ⟨by decide, by decide⟩ (by decide) (v := aR 26 0) rfl (aw_iconst eX6_parish_86 k_iconst_3 (aw_iload_n eX6_parish_87 rfl (aw_iadd eX6_parish_88 (aw_ialdK (n := 48) eX6_parish_89 rfl (by decide) hc30 (j := (Int32.toNatClampNeg ((3 : Int32) + x1))) rfl (aw_bipush eX6_parish_90 k_bipush_48 (aw_isub eX6_parish_92 (aw_iastK (n := 16) eX6_parish_93 rfl (by decide) hc31 (j := (Int32.toNatClampNeg ((3 : Int32) + x1))) rfl (aw_wn ew32 (aw_iincY (iinc_k k_iconst_1 ex1_33) eX6_parish_94 rfl (by decide) rfl (ls' := [some (aR 6 0), some (aI x1_33), none]) rfl (aw_goto eX6_parish_97 ?_))))))))))))))))
      exact ih h
def D_X6_parish (w : Wd) : Option (Int32 × Wd) := (D_X6_fault w).bind fun q1 => if q1 = ((-9)) then (lt (wS w 6 0 0 (((w.1 6 0 9) - (8 : Int32)) / (6 : Int32))) fun w3 => lt (wS w3 6 0 1 ((w3.1 26 0 1) - (48 : Int32))) fun w4 => lt (wS w4 25 0 0 0) fun w5 => lt (wS w5 25 0 1 ((w5.1 26 0 2) - (48 : Int32))) fun w6 => lt (wS w6 25 0 2 0) fun w7 => D_X6_parish_70 fuelZ 0 w7) else (some ((-3), w))
set_option maxHeartbeats 4000000 in
set_option maxRecDepth 100000 in
theorem A_X6_parish {X : XS} {w : Wd} {r : Int32 × Wd} (h : D_X6_parish w = some r) : AW 3 X mX6_parish 0 (entA 3 [aR 6 0]) [] w (PI r.1 r.2) := by
  show AW _ _ _ _ [some (aR 6 0), none, none] _ _ _
  unfold D_X6_parish at h
  obtain ⟨q1, hq1, h⟩ := bd h
  refine aw_aload_n eX6_parish_0 rfl (aw_callVI (N := mX6_fault) [] eX6_parish_1 tw_2_138 miX6_fault (by decide) (by decide) (by decide) rfl rfl (Nat.le_of_ble_eq_true rfl) (A_X6_fault hq1) (aw_bipush eX6_parish_4 k_bipush_m9 (aw_icmp_eq eX6_parish_6 (fun c2 => ?_) (fun c2 => ?_))))
  · have h := ip c2 h
    obtain ⟨w3, ew3, h⟩ := lt_e h
    obtain ⟨w4, ew4, h⟩ := lt_e h
    obtain ⟨w5, ew5, h⟩ := lt_e h
    obtain ⟨w6, ew6, h⟩ := lt_e h
    obtain ⟨w7, ew7, h⟩ := lt_e h
    refine aw_aload_n eX6_parish_12 rfl (aw_aload_n eX6_parish_13 rfl (aw_getf (k := 6) (f := 9) eX6_parish_14 tw_2_56 ⟨by decide, by decide⟩ (by decide) (v := aI (w.1 6 0 9)) rfl (aw_bipush eX6_parish_17 k_bipush_8 (aw_isub eX6_parish_19 (aw_bipush eX6_parish_20 k_bipush_6 (aw_idiv eX6_parish_22 (by decide) (aw_putI (k := 6) (f := 0) eX6_parish_23 tw_2_47 ⟨by decide, by decide⟩ (by decide) ⟨rfl, rfl, rfl, rfl⟩ (aw_wn ew3 (aw_aload_n eX6_parish_26 rfl (aw_aload_n eX6_parish_27 rfl (aw_getf (k := 6) (f := 8) eX6_parish_28 tw_2_55 ⟨by decide, by decide⟩ (by decide) (v := aR 26 0) rfl (aw_iconst eX6_parish_31 k_iconst_1 (aw_ialdK (n := 48) eX6_parish_32 rfl (by decide) (by decide) (j := 1) (by decide) (aw_bipush eX6_parish_33 k_bipush_48 (aw_isub eX6_parish_35 (aw_putI (k := 6) (f := 1) eX6_parish_36 tw_2_48 ⟨by decide, by decide⟩ (by decide) ⟨rfl, rfl, rfl, rfl⟩ (aw_wn ew4 (aw_aload_n eX6_parish_39 rfl (aw_getf (k := 6) (f := 7) eX6_parish_40 tw_2_54 ⟨by decide, by decide⟩ (by decide) (v := aR 25 0) rfl (aw_iconst eX6_parish_43 k_iconst_0 (aw_iconst eX6_parish_44 k_iconst_0 (aw_iastK (n := 16) eX6_parish_45 rfl (by decide) (by decide) (j := 0) (by decide) (aw_wn ew5 (aw_aload_n eX6_parish_46 rfl (aw_getf (k := 6) (f := 7) eX6_parish_47 tw_2_54 ⟨by decide, by decide⟩ (by decide) (v := aR 25 0) rfl (aw_iconst eX6_parish_50 k_iconst_1 (aw_aload_n eX6_parish_51 rfl (aw_getf (k := 6) (f := 8) eX6_parish_52 tw_2_55 ⟨by decide, by decide⟩ (by decide) (v := aR 26 0) rfl (aw_iconst eX6_parish_55 k_iconst_2 (aw_ialdK (n := 48) eX6_parish_56 rfl (by decide) (by decide) (j := 2) (by decide) (aw_bipush eX6_parish_57 k_bipush_48 (aw_isub eX6_parish_59 (aw_iastK (n := 16) eX6_parish_60 rfl (by decide) (by decide) (j := 1) (by decide) (aw_wn ew6 (aw_aload_n eX6_parish_61 rfl (aw_getf (k := 6) (f := 7) eX6_parish_62 tw_2_54 ⟨by decide, by decide⟩ (by decide) (v := aR 25 0) rfl (aw_iconst eX6_parish_65 k_iconst_2 (aw_iconst eX6_parish_66 k_iconst_0 (aw_iastK (n := 16) eX6_parish_67 rfl (by decide) (by decide) (j := 2) (by decide) (aw_wn ew7 (aw_iconst eX6_parish_68 k_iconst_0 (aw_istore_nY rfl eX6_parish_69 (by decide) rfl (ls' := [some (aR 6 0), some (aI 0), none]) rfl ?_))))))))))))))))))))))))))))))))))))))))))
    exact A_X6_parish_70 fuelZ h
  · have h := iq c2 h
    exact aw_bipush eX6_parish_9 k_bipush_m3 (aw_iret eX6_parish_11 rfl (pI_i h))
def D_X6_isWedding (w : Wd) (x1 : Int32) : Option (Int32) := (D_X6_in (Int32.toInt64 x1) 0 (Int32.toInt64 ((w.1 6 0 0) - (1 : Int32)))).bind fun q1 => if q1 = 0 ∨ q1 = 1 then some (q1) else none
set_option maxHeartbeats 4000000 in
set_option maxRecDepth 100000 in
theorem A_X6_isWedding {X : XS} {w : Wd} {x1 : Int32} {r : Int32} (h : D_X6_isWedding w x1 = some r) : AW 1 X mX6_isWedding 0 (entA 2 [aR 6 0, aI x1]) [] w (PI r w) := by
  show AW _ _ _ _ [some (aR 6 0), some (aI x1)] _ _ _
  unfold D_X6_isWedding at h
  obtain ⟨q1, hq1, h⟩ := bd h
  obtain ⟨hc2, h⟩ := ck h
  exact aw_iload_n eX6_isWedding_0 rfl (aw_i2l eX6_isWedding_1 (aw_lconst eX6_isWedding_2 k_lconst_0 (aw_aload_n eX6_isWedding_3 rfl (aw_getf (k := 6) (f := 0) eX6_isWedding_4 tw_2_47 ⟨by decide, by decide⟩ (by decide) (v := aI (w.1 6 0 0)) rfl (aw_iconst eX6_isWedding_7 k_iconst_1 (aw_isub eX6_isWedding_8 (aw_i2l eX6_isWedding_9 (aw_callSI (N := mX6_in) [aL (Int32.toInt64 x1), aL 0, aL (Int32.toInt64 ((w.1 6 0 0) - (1 : Int32)))] eX6_isWedding_10 tw_2_116 msX6_in (by decide) rfl rfl (Nat.le_of_ble_eq_true rfl) (A_X6_in hq1) (aw_zret eX6_isWedding_13 rfl (nar01 hc2) (pI_p h))))))))))
def D_X6_isChurch (x0 : Int32) : Option (Int32) := (D_X6_in (Int32.toInt64 x0) 0 5).bind fun q1 => if q1 = 0 ∨ q1 = 1 then some (q1) else none
set_option maxHeartbeats 4000000 in
set_option maxRecDepth 100000 in
theorem A_X6_isChurch {X : XS} {w : Wd} {x0 : Int32} {r : Int32} (h : D_X6_isChurch x0 = some r) : AW 1 X mX6_isChurch 0 (entA 1 [aI x0]) [] w (PI r w) := by
  show AW _ _ _ _ [some (aI x0)] _ _ _
  unfold D_X6_isChurch at h
  obtain ⟨q1, hq1, h⟩ := bd h
  obtain ⟨hc2, h⟩ := ck h
  exact aw_iload_n eX6_isChurch_0 rfl (aw_i2l eX6_isChurch_1 (aw_lconst eX6_isChurch_2 k_lconst_0 (aw_ldc2 eX6_isChurch_3 tw_2_132 (aw_callSI (N := mX6_in) [aL (Int32.toInt64 x0), aL 0, aL 5] eX6_isChurch_6 tw_2_116 msX6_in (by decide) rfl rfl (Nat.le_of_ble_eq_true rfl) (A_X6_in hq1) (aw_zret eX6_isChurch_9 rfl (nar01 hc2) (pI_p h))))))
def D_X6_every (w : Wd) : Option (Int32) := some (((1 : Int32) <<< ((w.1 6 0 0) &&& 31)) - (1 : Int32))
set_option maxHeartbeats 4000000 in
set_option maxRecDepth 100000 in
theorem A_X6_every {X : XS} {w : Wd} {r : Int32} (h : D_X6_every w = some r) : AW 0 X mX6_every 0 (entA 1 [aR 6 0]) [] w (PI r w) := by
  show AW _ _ _ _ [some (aR 6 0)] _ _ _
  unfold D_X6_every at h
  exact aw_iconst eX6_every_0 k_iconst_1 (aw_aload_n eX6_every_1 rfl (aw_getf (k := 6) (f := 0) eX6_every_2 tw_2_47 ⟨by decide, by decide⟩ (by decide) (v := aI (w.1 6 0 0)) rfl (aw_ishl eX6_every_5 (aw_iconst eX6_every_6 k_iconst_1 (aw_isub eX6_every_7 (aw_iret eX6_every_8 rfl (pI_p h)))))))
def D_X6_wayOn_24 (w : Wd) (k6 : Int32 → Int32 → Int32 → Int32 → Int32 → Option (Int32)) (x1 : Int32) (x2 : Int32) (x3 : Int32) (x4 : Int32) (x5 : Int32) : Option (Int32) := if x5 < x3 then (lt (x4 + (0 : Int32)) fun x4_4 => lt (x5 + 1) fun x5_5 => k6 x1 x2 x3 x4_4 x5_5) else (if x2 ≤ x5 then (lt (x4 + (0 : Int32)) fun x4_7 => lt (x5 + 1) fun x5_8 => k6 x1 x2 x3 x4_7 x5_8) else (if inB ((((8 : Int32) * x1) + (3 : Int32)) + x5) 16 then lt (x4 + (w.1 25 0 (Int32.toNatClampNeg ((((8 : Int32) * x1) + (3 : Int32)) + x5)))) fun x4_10 => lt (x5 + 1) fun x5_11 => k6 x1 x2 x3 x4_10 x5_11 else none))
set_option maxHeartbeats 4000000 in
set_option maxRecDepth 100000 in
theorem A_X6_wayOn_24 {X : XS} {w : Wd} {k6 : Int32 → Int32 → Int32 → Int32 → Int32 → Option (Int32)} (hk6 : ∀ {x1 : Int32} {x2 : Int32} {x3 : Int32} {x4 : Int32} {x5 : Int32} {r : Int32}, k6 x1 x2 x3 x4 x5 = some r → AW 0 X mX6_wayOn 6 [some (aR 6 0), some (aI x1), some (aI x2), some (aI x3), some (aI x4), some (aI x5), none] [] w (PI r w)) {x1 : Int32} {x2 : Int32} {x3 : Int32} {x4 : Int32} {x5 : Int32} {r : Int32} (h : D_X6_wayOn_24 w k6 x1 x2 x3 x4 x5 = some r) : AW 0 X mX6_wayOn 24 [some (aR 6 0), some (aI x1), some (aI x2), some (aI x3), some (aI x4), some (aI x5), none] [] w (PI r w) := by
  unfold D_X6_wayOn_24 at h
  refine aw_iload eX6_wayOn_24 rfl (aw_iload_n eX6_wayOn_26 rfl (aw_icmp_lt eX6_wayOn_27 (fun c3 => ?_) (fun c3 => ?_)))
  · have h := ip c3 h
    refine aw_iconst eX6_wayOn_40 k_iconst_0 (aw_istoreY rfl eX6_wayOn_41 (by decide) rfl (ls' := [some (aR 6 0), some (aI x1), some (aI x2), some (aI x3), some (aI x4), some (aI x5), some (aI 0)]) rfl (aw_iload eX6_wayOn_43 rfl (aw_iload eX6_wayOn_45 rfl (aw_if_eq eX6_wayOn_47 (K2 := fun z => absurd (by decide) z) (K1 := fun _ => ?_)))))
    obtain ⟨x4_4, ex4_4, h⟩ := lt_e h
    obtain ⟨x5_5, ex5_5, h⟩ := lt_e h
    refine aw_iconst eX6_wayOn_67 k_iconst_0 (aw_iadd eX6_wayOn_68 (aw_istoreY ex4_4 eX6_wayOn_69 (by decide) rfl (ls' := [some (aR 6 0), some (aI x1), some (aI x2), some (aI x3), some (aI x4_4), some (aI x5), some (aI 0)]) rfl (aw_iincY (iinc_k k_iconst_1 ex5_5) eX6_wayOn_71 rfl (by decide) rfl (ls' := [some (aR 6 0), some (aI x1), some (aI x2), some (aI x3), some (aI x4_4), some (aI x5_5), some (aI 0)]) rfl (aw_goto eX6_wayOn_74 ?_))))
    exact aw_sub (ls' := [some (aR 6 0), some (aI x1), some (aI x2), some (aI x3), some (aI x4_4), some (aI x5_5), none]) ⟨rfl, ⟨rfl, ⟨rfl, ⟨rfl, ⟨rfl, ⟨rfl, trivial⟩⟩⟩⟩⟩⟩ (hk6 h)
  · have h := iq c3 h
    refine aw_iload eX6_wayOn_30 rfl (aw_iload_n eX6_wayOn_32 rfl (aw_icmp_ge eX6_wayOn_33 (fun c6 => ?_) (fun c6 => ?_)))
    · have h := ip c6 h
      refine aw_iconst eX6_wayOn_40 k_iconst_0 (aw_istoreY rfl eX6_wayOn_41 (by decide) rfl (ls' := [some (aR 6 0), some (aI x1), some (aI x2), some (aI x3), some (aI x4), some (aI x5), some (aI 0)]) rfl (aw_iload eX6_wayOn_43 rfl (aw_iload eX6_wayOn_45 rfl (aw_if_eq eX6_wayOn_47 (K2 := fun z => absurd (by decide) z) (K1 := fun _ => ?_)))))
      obtain ⟨x4_7, ex4_7, h⟩ := lt_e h
      obtain ⟨x5_8, ex5_8, h⟩ := lt_e h
      refine aw_iconst eX6_wayOn_67 k_iconst_0 (aw_iadd eX6_wayOn_68 (aw_istoreY ex4_7 eX6_wayOn_69 (by decide) rfl (ls' := [some (aR 6 0), some (aI x1), some (aI x2), some (aI x3), some (aI x4_7), some (aI x5), some (aI 0)]) rfl (aw_iincY (iinc_k k_iconst_1 ex5_8) eX6_wayOn_71 rfl (by decide) rfl (ls' := [some (aR 6 0), some (aI x1), some (aI x2), some (aI x3), some (aI x4_7), some (aI x5_8), some (aI 0)]) rfl (aw_goto eX6_wayOn_74 ?_))))
      exact aw_sub (ls' := [some (aR 6 0), some (aI x1), some (aI x2), some (aI x3), some (aI x4_7), some (aI x5_8), none]) ⟨rfl, ⟨rfl, ⟨rfl, ⟨rfl, ⟨rfl, ⟨rfl, trivial⟩⟩⟩⟩⟩⟩ (hk6 h)
    · have h := iq c6 h
      refine aw_iconst eX6_wayOn_36 k_iconst_1 (aw_goto eX6_wayOn_37 (aw_istoreY rfl eX6_wayOn_41 (by decide) rfl (ls' := [some (aR 6 0), some (aI x1), some (aI x2), some (aI x3), some (aI x4), some (aI x5), some (aI 1)]) rfl (aw_iload eX6_wayOn_43 rfl (aw_iload eX6_wayOn_45 rfl (aw_if_eq eX6_wayOn_47 (K1 := fun z => absurd z (by decide)) (K2 := fun _ => ?_))))))
      obtain ⟨hc9, h⟩ := ck h
      obtain ⟨x4_10, ex4_10, h⟩ := lt_e h
      obtain ⟨x5_11, ex5_11, h⟩ := lt_e h
      refine aw_aload_n eX6_wayOn_50 rfl (aw_getf (k := 6) (f := 7) eX6_wayOn_51 tw_2_54 ⟨by decide, by decide⟩ (by decide) (v := aR 25 0) rfl (aw_bipush eX6_wayOn_54 k_bipush_8 (aw_iload_n eX6_wayOn_56 rfl (aw_imul eX6_wayOn_57 (aw_iconst eX6_wayOn_58 k_iconst_3 (aw_iadd eX6_wayOn_59 (aw_iload eX6_wayOn_60 rfl (aw_iadd eX6_wayOn_62 (aw_ialdK (n := 16) eX6_wayOn_63 rfl (by decide) hc9 (j := (Int32.toNatClampNeg ((((8 : Int32) * x1) + (3 : Int32)) + x5))) rfl (aw_goto eX6_wayOn_64 (aw_iadd eX6_wayOn_68 (aw_istoreY ex4_10 eX6_wayOn_69 (by decide) rfl (ls' := [some (aR 6 0), some (aI x1), some (aI x2), some (aI x3), some (aI x4_10), some (aI x5), some (aI 1)]) rfl (aw_iincY (iinc_k k_iconst_1 ex5_11) eX6_wayOn_71 rfl (by decide) rfl (ls' := [some (aR 6 0), some (aI x1), some (aI x2), some (aI x3), some (aI x4_10), some (aI x5_11), some (aI 1)]) rfl (aw_goto eX6_wayOn_74 ?_))))))))))))))
      exact aw_sub (ls' := [some (aR 6 0), some (aI x1), some (aI x2), some (aI x3), some (aI x4_10), some (aI x5_11), none]) ⟨rfl, ⟨rfl, ⟨rfl, ⟨rfl, ⟨rfl, ⟨rfl, trivial⟩⟩⟩⟩⟩⟩ (hk6 h)
def D_X6_wayOn_6 (w : Wd) : Nat → Int32 → Int32 → Int32 → Int32 → Int32 → Option (Int32)
  | 0, _, _, _, _, _ => none
  | n + 1, x1, x2, x3, x4, x5 => if 5 ≤ x5 then (some (x4)) else (if x5 < x2 then (D_X6_wayOn_24 w (fun y0 y1 y2 y3 y4 => D_X6_wayOn_6 w n y0 y1 y2 y3 y4) x1 x2 x3 x4 x5) else (if x5 < x3 then (if inB ((((8 : Int32) * x1) + (3 : Int32)) + x5) 16 then lt (x4 + (w.1 25 0 (Int32.toNatClampNeg ((((8 : Int32) * x1) + (3 : Int32)) + x5)))) fun x4_14 => lt (x5 + 1) fun x5_15 => D_X6_wayOn_6 w n x1 x2 x3 x4_14 x5_15 else none) else (D_X6_wayOn_24 w (fun y0 y1 y2 y3 y4 => D_X6_wayOn_6 w n y0 y1 y2 y3 y4) x1 x2 x3 x4 x5)))
set_option maxHeartbeats 4000000 in
set_option maxRecDepth 100000 in
theorem A_X6_wayOn_6 {X : XS} {w : Wd} : ∀ (nn : Nat) {x1 : Int32} {x2 : Int32} {x3 : Int32} {x4 : Int32} {x5 : Int32} {r : Int32}, D_X6_wayOn_6 w nn x1 x2 x3 x4 x5 = some r → AW 0 X mX6_wayOn 6 [some (aR 6 0), some (aI x1), some (aI x2), some (aI x3), some (aI x4), some (aI x5), none] [] w (PI r w) := by
  intro nn
  induction nn with
  | zero => intros; rename_i h; cases h
  | succ n ih =>
    intro x1 x2 x3 x4 x5 r h
    rw [D_X6_wayOn_6] at h
    refine aw_iload eX6_wayOn_6 rfl (aw_iconst eX6_wayOn_8 k_iconst_5 (aw_icmp_ge eX6_wayOn_9 (fun c1 => ?_) (fun c1 => ?_)))
    · have h := ip c1 h
      exact aw_iload eX6_wayOn_77 rfl (aw_iret eX6_wayOn_79 rfl (pI_p h))
    · have h := iq c1 h
      refine aw_iload eX6_wayOn_12 rfl (aw_iload_n eX6_wayOn_14 rfl (aw_icmp_lt eX6_wayOn_15 (fun c2 => ?_) (fun c2 => ?_)))
      · have h := ip c2 h
        exact A_X6_wayOn_24 (fun h => ih h) h
      · have h := iq c2 h
        refine aw_iload eX6_wayOn_18 rfl (aw_iload_n eX6_wayOn_20 rfl (aw_icmp_lt eX6_wayOn_21 (fun c12 => ?_) (fun c12 => ?_)))
        · have h := ip c12 h
          refine aw_iconst eX6_wayOn_36 k_iconst_1 (aw_goto eX6_wayOn_37 (aw_istoreY rfl eX6_wayOn_41 (by decide) rfl (ls' := [some (aR 6 0), some (aI x1), some (aI x2), some (aI x3), some (aI x4), some (aI x5), some (aI 1)]) rfl (aw_iload eX6_wayOn_43 rfl (aw_iload eX6_wayOn_45 rfl (aw_if_eq eX6_wayOn_47 (K1 := fun z => absurd z (by decide)) (K2 := fun _ => ?_))))))
          obtain ⟨hc13, h⟩ := ck h
          obtain ⟨x4_14, ex4_14, h⟩ := lt_e h
          obtain ⟨x5_15, ex5_15, h⟩ := lt_e h
          refine aw_aload_n eX6_wayOn_50 rfl (aw_getf (k := 6) (f := 7) eX6_wayOn_51 tw_2_54 ⟨by decide, by decide⟩ (by decide) (v := aR 25 0) rfl (aw_bipush eX6_wayOn_54 k_bipush_8 (aw_iload_n eX6_wayOn_56 rfl (aw_imul eX6_wayOn_57 (aw_iconst eX6_wayOn_58 k_iconst_3 (aw_iadd eX6_wayOn_59 (aw_iload eX6_wayOn_60 rfl (aw_iadd eX6_wayOn_62 (aw_ialdK (n := 16) eX6_wayOn_63 rfl (by decide) hc13 (j := (Int32.toNatClampNeg ((((8 : Int32) * x1) + (3 : Int32)) + x5))) rfl (aw_goto eX6_wayOn_64 (aw_iadd eX6_wayOn_68 (aw_istoreY ex4_14 eX6_wayOn_69 (by decide) rfl (ls' := [some (aR 6 0), some (aI x1), some (aI x2), some (aI x3), some (aI x4_14), some (aI x5), some (aI 1)]) rfl (aw_iincY (iinc_k k_iconst_1 ex5_15) eX6_wayOn_71 rfl (by decide) rfl (ls' := [some (aR 6 0), some (aI x1), some (aI x2), some (aI x3), some (aI x4_14), some (aI x5_15), some (aI 1)]) rfl (aw_goto eX6_wayOn_74 ?_))))))))))))))
          exact aw_sub (ls' := [some (aR 6 0), some (aI x1), some (aI x2), some (aI x3), some (aI x4_14), some (aI x5_15), none]) ⟨rfl, ⟨rfl, ⟨rfl, ⟨rfl, ⟨rfl, ⟨rfl, trivial⟩⟩⟩⟩⟩⟩ (ih h)
        · have h := iq c12 h
          exact A_X6_wayOn_24 (fun h => ih h) h
def D_X6_wayOn (w : Wd) (x1 : Int32) (x2 : Int32) (x3 : Int32) : Option (Int32) := D_X6_wayOn_6 w fuelZ x1 x2 x3 0 0
set_option maxHeartbeats 4000000 in
set_option maxRecDepth 100000 in
theorem A_X6_wayOn {X : XS} {w : Wd} {x1 : Int32} {x2 : Int32} {x3 : Int32} {r : Int32} (h : D_X6_wayOn w x1 x2 x3 = some r) : AW 0 X mX6_wayOn 0 (entA 7 [aR 6 0, aI x1, aI x2, aI x3]) [] w (PI r w) := by
  show AW _ _ _ _ [some (aR 6 0), some (aI x1), some (aI x2), some (aI x3), none, none, none] _ _ _
  unfold D_X6_wayOn at h
  refine aw_iconst eX6_wayOn_0 k_iconst_0 (aw_istoreY rfl eX6_wayOn_1 (by decide) rfl (ls' := [some (aR 6 0), some (aI x1), some (aI x2), some (aI x3), some (aI 0), none, none]) rfl (aw_iconst eX6_wayOn_3 k_iconst_0 (aw_istoreY rfl eX6_wayOn_4 (by decide) rfl (ls' := [some (aR 6 0), some (aI x1), some (aI x2), some (aI x3), some (aI 0), some (aI 0), none]) rfl ?_)))
  exact A_X6_wayOn_6 fuelZ h
def D_X6_lasts (w : Wd) (x1 : Int32) : Option (Int32) := if inB x1 6 then if (w.1 24 0 (Int32.toNatClampNeg x1)) = 3 then (if inB x1 6 then if (w.1 23 0 (Int32.toNatClampNeg x1)) ≤ 1 then (if inB x1 6 then some (w.1 23 0 (Int32.toNatClampNeg x1)) else none) else (if inB x1 6 then some ((w.1 23 0 (Int32.toNatClampNeg x1)) - (1 : Int32)) else none) else none) else (if inB x1 6 then some (w.1 23 0 (Int32.toNatClampNeg x1)) else none) else none
set_option maxHeartbeats 4000000 in
set_option maxRecDepth 100000 in
theorem A_X6_lasts {X : XS} {w : Wd} {x1 : Int32} {r : Int32} (h : D_X6_lasts w x1 = some r) : AW 0 X mX6_lasts 0 (entA 2 [aR 6 0, aI x1]) [] w (PI r w) := by
  show AW _ _ _ _ [some (aR 6 0), some (aI x1)] _ _ _
  unfold D_X6_lasts at h
  obtain ⟨hc1, h⟩ := ck h
  refine aw_aload_n eX6_lasts_0 rfl (aw_getf (k := 6) (f := 6) eX6_lasts_1 tw_2_53 ⟨by decide, by decide⟩ (by decide) (v := aR 24 0) rfl (aw_iload_n eX6_lasts_4 rfl (aw_ialdK (n := 6) eX6_lasts_5 rfl (by decide) hc1 (j := (Int32.toNatClampNeg x1)) rfl (aw_iconst eX6_lasts_6 k_iconst_3 (aw_icmp_ne eX6_lasts_7 (fun c2 => ?_) (fun c2 => ?_))))))
  · have h := iq c2 h
    obtain ⟨hc3, h⟩ := ck h
    exact aw_aload_n eX6_lasts_31 rfl (aw_getf (k := 6) (f := 5) eX6_lasts_32 tw_2_52 ⟨by decide, by decide⟩ (by decide) (v := aR 23 0) rfl (aw_iload_n eX6_lasts_35 rfl (aw_ialdK (n := 6) eX6_lasts_36 rfl (by decide) hc3 (j := (Int32.toNatClampNeg x1)) rfl (aw_iret eX6_lasts_37 rfl (pI_p h)))))
  · have h := ip c2 h
    obtain ⟨hc4, h⟩ := ck h
    refine aw_aload_n eX6_lasts_10 rfl (aw_getf (k := 6) (f := 5) eX6_lasts_11 tw_2_52 ⟨by decide, by decide⟩ (by decide) (v := aR 23 0) rfl (aw_iload_n eX6_lasts_14 rfl (aw_ialdK (n := 6) eX6_lasts_15 rfl (by decide) hc4 (j := (Int32.toNatClampNeg x1)) rfl (aw_iconst eX6_lasts_16 k_iconst_1 (aw_icmp_le eX6_lasts_17 (fun c5 => ?_) (fun c5 => ?_))))))
    · have h := ip c5 h
      obtain ⟨hc6, h⟩ := ck h
      exact aw_aload_n eX6_lasts_31 rfl (aw_getf (k := 6) (f := 5) eX6_lasts_32 tw_2_52 ⟨by decide, by decide⟩ (by decide) (v := aR 23 0) rfl (aw_iload_n eX6_lasts_35 rfl (aw_ialdK (n := 6) eX6_lasts_36 rfl (by decide) hc6 (j := (Int32.toNatClampNeg x1)) rfl (aw_iret eX6_lasts_37 rfl (pI_p h)))))
    · have h := iq c5 h
      obtain ⟨hc7, h⟩ := ck h
      exact aw_aload_n eX6_lasts_20 rfl (aw_getf (k := 6) (f := 5) eX6_lasts_21 tw_2_52 ⟨by decide, by decide⟩ (by decide) (v := aR 23 0) rfl (aw_iload_n eX6_lasts_24 rfl (aw_ialdK (n := 6) eX6_lasts_25 rfl (by decide) hc7 (j := (Int32.toNatClampNeg x1)) rfl (aw_iconst eX6_lasts_26 k_iconst_1 (aw_isub eX6_lasts_27 (aw_goto eX6_lasts_28 (aw_iret eX6_lasts_37 rfl (pI_p h))))))))
def D_X6_begins_33 (w : Wd) (x2 : Int32) (s1 : Int32) (s0 : Int32) : Option (Int32) := lt (s0 + s1) fun x6_5 => if inB x2 6 then if (w.1 21 0 (Int32.toNatClampNeg x2)) ≤ x6_5 then (if inB x2 6 then if (w.1 22 0 (Int32.toNatClampNeg x2)) < x6_5 then (some ((-9))) else ((D_X6_lasts w x2).bind fun q10 => if (w.1 6 0 1) < (x6_5 + q10) then (some ((-9))) else (some (x6_5))) else none) else (if inB x2 6 then lt (w.1 21 0 (Int32.toNatClampNeg x2)) fun x7_13 => if inB x2 6 then if (w.1 22 0 (Int32.toNatClampNeg x2)) < x7_13 then (some ((-9))) else ((D_X6_lasts w x2).bind fun q16 => if (w.1 6 0 1) < (x7_13 + q16) then (some ((-9))) else (some (x7_13))) else none else none) else none
set_option maxHeartbeats 4000000 in
set_option maxRecDepth 100000 in
theorem A_X6_begins_33 {X : XS} {w : Wd} {x2 : Int32} {s1 : Int32} {s0 : Int32} {r : Int32} (h : D_X6_begins_33 w x2 s1 s0 = some r) : AW 1 X mX6_begins 33 [some (aR 6 0), none, some (aI x2), none, none, none, none, none] [aI s1, aI s0] w (PI r w) := by
  unfold D_X6_begins_33 at h
  obtain ⟨x6_5, ex6_5, h⟩ := lt_e h
  obtain ⟨hc6, h⟩ := ck h
  refine aw_iadd eX6_begins_33 (aw_istoreY ex6_5 eX6_begins_34 (by decide) rfl (ls' := [some (aR 6 0), none, some (aI x2), none, none, none, some (aI x6_5), none]) rfl (aw_iload eX6_begins_36 rfl (aw_aload_n eX6_begins_38 rfl (aw_getf (k := 6) (f := 3) eX6_begins_39 tw_2_50 ⟨by decide, by decide⟩ (by decide) (v := aR 21 0) rfl (aw_iload_n eX6_begins_42 rfl (aw_ialdK (n := 6) eX6_begins_43 rfl (by decide) hc6 (j := (Int32.toNatClampNeg x2)) rfl (aw_icmp_ge eX6_begins_44 (fun c7 => ?_) (fun c7 => ?_))))))))
  · have h := ip c7 h
    obtain ⟨hc8, h⟩ := ck h
    refine aw_iload eX6_begins_56 rfl (aw_istoreY rfl eX6_begins_58 (by decide) rfl (ls' := [some (aR 6 0), none, some (aI x2), none, none, none, some (aI x6_5), some (aI x6_5)]) rfl (aw_iload eX6_begins_60 rfl (aw_aload_n eX6_begins_62 rfl (aw_getf (k := 6) (f := 4) eX6_begins_63 tw_2_51 ⟨by decide, by decide⟩ (by decide) (v := aR 22 0) rfl (aw_iload_n eX6_begins_66 rfl (aw_ialdK (n := 6) eX6_begins_67 rfl (by decide) hc8 (j := (Int32.toNatClampNeg x2)) rfl (aw_icmp_gt eX6_begins_68 (fun c9 => ?_) (fun c9 => ?_))))))))
    · have h := ip c9 h
      exact aw_bipush eX6_begins_91 k_bipush_m9 (aw_iret eX6_begins_93 rfl (pI_p h))
    · have h := iq c9 h
      obtain ⟨q10, hq10, h⟩ := bd h
      refine aw_iload eX6_begins_71 rfl (aw_aload_n eX6_begins_73 rfl (aw_iload_n eX6_begins_74 rfl (aw_callVI (N := mX6_lasts) [aI x2] eX6_begins_75 tw_2_162 miX6_lasts (by decide) (by decide) (by decide) rfl rfl (Nat.le_of_ble_eq_true rfl) (A_X6_lasts hq10) (aw_iadd eX6_begins_78 (aw_aload_n eX6_begins_79 rfl (aw_getf (k := 6) (f := 1) eX6_begins_80 tw_2_48 ⟨by decide, by decide⟩ (by decide) (v := aI (w.1 6 0 1)) rfl (aw_icmp_gt eX6_begins_83 (fun c11 => ?_) (fun c11 => ?_))))))))
      · have h := ip c11 h
        exact aw_bipush eX6_begins_91 k_bipush_m9 (aw_iret eX6_begins_93 rfl (pI_p h))
      · have h := iq c11 h
        exact aw_iload eX6_begins_86 rfl (aw_goto eX6_begins_88 (aw_iret eX6_begins_93 rfl (pI_p h)))
  · have h := iq c7 h
    obtain ⟨hc12, h⟩ := ck h
    obtain ⟨x7_13, ex7_13, h⟩ := lt_e h
    obtain ⟨hc14, h⟩ := ck h
    refine aw_aload_n eX6_begins_47 rfl (aw_getf (k := 6) (f := 3) eX6_begins_48 tw_2_50 ⟨by decide, by decide⟩ (by decide) (v := aR 21 0) rfl (aw_iload_n eX6_begins_51 rfl (aw_ialdK (n := 6) eX6_begins_52 rfl (by decide) hc12 (j := (Int32.toNatClampNeg x2)) rfl (aw_goto eX6_begins_53 (aw_istoreY ex7_13 eX6_begins_58 (by decide) rfl (ls' := [some (aR 6 0), none, some (aI x2), none, none, none, some (aI x6_5), some (aI x7_13)]) rfl (aw_iload eX6_begins_60 rfl (aw_aload_n eX6_begins_62 rfl (aw_getf (k := 6) (f := 4) eX6_begins_63 tw_2_51 ⟨by decide, by decide⟩ (by decide) (v := aR 22 0) rfl (aw_iload_n eX6_begins_66 rfl (aw_ialdK (n := 6) eX6_begins_67 rfl (by decide) hc14 (j := (Int32.toNatClampNeg x2)) rfl (aw_icmp_gt eX6_begins_68 (fun c15 => ?_) (fun c15 => ?_))))))))))))
    · have h := ip c15 h
      exact aw_bipush eX6_begins_91 k_bipush_m9 (aw_iret eX6_begins_93 rfl (pI_p h))
    · have h := iq c15 h
      obtain ⟨q16, hq16, h⟩ := bd h
      refine aw_iload eX6_begins_71 rfl (aw_aload_n eX6_begins_73 rfl (aw_iload_n eX6_begins_74 rfl (aw_callVI (N := mX6_lasts) [aI x2] eX6_begins_75 tw_2_162 miX6_lasts (by decide) (by decide) (by decide) rfl rfl (Nat.le_of_ble_eq_true rfl) (A_X6_lasts hq16) (aw_iadd eX6_begins_78 (aw_aload_n eX6_begins_79 rfl (aw_getf (k := 6) (f := 1) eX6_begins_80 tw_2_48 ⟨by decide, by decide⟩ (by decide) (v := aI (w.1 6 0 1)) rfl (aw_icmp_gt eX6_begins_83 (fun c17 => ?_) (fun c17 => ?_))))))))
      · have h := ip c17 h
        exact aw_bipush eX6_begins_91 k_bipush_m9 (aw_iret eX6_begins_93 rfl (pI_p h))
      · have h := iq c17 h
        exact aw_iload eX6_begins_86 rfl (aw_goto eX6_begins_88 (aw_iret eX6_begins_93 rfl (pI_p h)))
def D_X6_begins (w : Wd) (x1 : Int32) (x2 : Int32) (x3 : Int32) (x4 : Int32) (x5 : Int32) : Option (Int32) := if inB x2 6 then (D_X6_wayOn w x1 x3 (w.1 20 0 (Int32.toNatClampNeg x2))).bind fun q2 => if inB x2 6 then if (w.1 24 0 (Int32.toNatClampNeg x2)) = 2 then (D_X6_begins_33 w x2 1 ((x4 + q2) + x5)) else (D_X6_begins_33 w x2 0 ((x4 + q2) + x5)) else none else none
set_option maxHeartbeats 4000000 in
set_option maxRecDepth 100000 in
theorem A_X6_begins {X : XS} {w : Wd} {x1 : Int32} {x2 : Int32} {x3 : Int32} {x4 : Int32} {x5 : Int32} {r : Int32} (h : D_X6_begins w x1 x2 x3 x4 x5 = some r) : AW 1 X mX6_begins 0 (entA 8 [aR 6 0, aI x1, aI x2, aI x3, aI x4, aI x5]) [] w (PI r w) := by
  show AW _ _ _ _ [some (aR 6 0), some (aI x1), some (aI x2), some (aI x3), some (aI x4), some (aI x5), none, none] _ _ _
  unfold D_X6_begins at h
  obtain ⟨hc1, h⟩ := ck h
  obtain ⟨q2, hq2, h⟩ := bd h
  obtain ⟨hc3, h⟩ := ck h
  refine aw_iload eX6_begins_0 rfl (aw_aload_n eX6_begins_2 rfl (aw_iload_n eX6_begins_3 rfl (aw_iload_n eX6_begins_4 rfl (aw_aload_n eX6_begins_5 rfl (aw_getf (k := 6) (f := 2) eX6_begins_6 tw_2_49 ⟨by decide, by decide⟩ (by decide) (v := aR 20 0) rfl (aw_iload_n eX6_begins_9 rfl (aw_ialdK (n := 6) eX6_begins_10 rfl (by decide) hc1 (j := (Int32.toNatClampNeg x2)) rfl (aw_callVI (N := mX6_wayOn) [aI x1, aI x3, aI (w.1 20 0 (Int32.toNatClampNeg x2))] eX6_begins_11 tw_2_158 miX6_wayOn (by decide) (by decide) (by decide) rfl rfl (Nat.le_of_ble_eq_true rfl) (A_X6_wayOn hq2) (aw_iadd eX6_begins_14 (aw_iload eX6_begins_15 rfl (aw_iadd eX6_begins_17 (aw_aload_n eX6_begins_18 rfl (aw_getf (k := 6) (f := 6) eX6_begins_19 tw_2_53 ⟨by decide, by decide⟩ (by decide) (v := aR 24 0) rfl (aw_iload_n eX6_begins_22 rfl (aw_ialdK (n := 6) eX6_begins_23 rfl (by decide) hc3 (j := (Int32.toNatClampNeg x2)) rfl (aw_iconst eX6_begins_24 k_iconst_2 (aw_icmp_ne eX6_begins_25 (fun c4 => ?_) (fun c4 => ?_))))))))))))))))))
  · have h := iq c4 h
    refine aw_iconst eX6_begins_32 k_iconst_0 ?_
    exact aw_sub (ls' := [some (aR 6 0), none, some (aI x2), none, none, none, none, none]) ⟨rfl, ⟨rfl, trivial⟩⟩ (A_X6_begins_33 h)
  · have h := ip c4 h
    refine aw_iconst eX6_begins_28 k_iconst_1 (aw_goto eX6_begins_29 ?_)
    exact aw_sub (ls' := [some (aR 6 0), none, some (aI x2), none, none, none, none, none]) ⟨rfl, ⟨rfl, trivial⟩⟩ (A_X6_begins_33 h)
def D_X6_behind (w : Wd) (x1 : Int32) (x2 : Int32) : Option (Int32) := (D_X6_lasts w x1).bind fun q1 => if inB x1 6 then if (w.1 24 0 (Int32.toNatClampNeg x1)) = 1 then (some ((x2 + q1) + (1 : Int32))) else (some ((x2 + q1) + (0 : Int32))) else none
set_option maxHeartbeats 4000000 in
set_option maxRecDepth 100000 in
theorem A_X6_behind {X : XS} {w : Wd} {x1 : Int32} {x2 : Int32} {r : Int32} (h : D_X6_behind w x1 x2 = some r) : AW 1 X mX6_behind 0 (entA 3 [aR 6 0, aI x1, aI x2]) [] w (PI r w) := by
  show AW _ _ _ _ [some (aR 6 0), some (aI x1), some (aI x2)] _ _ _
  unfold D_X6_behind at h
  obtain ⟨q1, hq1, h⟩ := bd h
  obtain ⟨hc2, h⟩ := ck h
  refine aw_iload_n eX6_behind_0 rfl (aw_aload_n eX6_behind_1 rfl (aw_iload_n eX6_behind_2 rfl (aw_callVI (N := mX6_lasts) [aI x1] eX6_behind_3 tw_2_162 miX6_lasts (by decide) (by decide) (by decide) rfl rfl (Nat.le_of_ble_eq_true rfl) (A_X6_lasts hq1) (aw_iadd eX6_behind_6 (aw_aload_n eX6_behind_7 rfl (aw_getf (k := 6) (f := 6) eX6_behind_8 tw_2_53 ⟨by decide, by decide⟩ (by decide) (v := aR 24 0) rfl (aw_iload_n eX6_behind_11 rfl (aw_ialdK (n := 6) eX6_behind_12 rfl (by decide) hc2 (j := (Int32.toNatClampNeg x1)) rfl (aw_iconst eX6_behind_13 k_iconst_1 (aw_icmp_ne eX6_behind_14 (fun c3 => ?_) (fun c3 => ?_)))))))))))
  · have h := iq c3 h
    exact aw_iconst eX6_behind_21 k_iconst_0 (aw_iadd eX6_behind_22 (aw_iret eX6_behind_23 rfl (pI_p h)))
  · have h := ip c3 h
    exact aw_iconst eX6_behind_17 k_iconst_1 (aw_goto eX6_behind_18 (aw_iadd eX6_behind_22 (aw_iret eX6_behind_23 rfl (pI_p h))))
