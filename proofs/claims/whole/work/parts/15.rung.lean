def D_X6_beginsNow (w : Wd) (x1 : Int32) (x2 : Int32) : Option (Int32) := lt ((8 : Int32) * x1) fun x3_1 => if inB (x3_1 + (2 : Int32)) 16 then (D_X6_has (w.1 25 0 (Int32.toNatClampNeg (x3_1 + (2 : Int32)))) x2).bind fun q3 => if q3 = 0 then (if inB (x3_1 + (1 : Int32)) 16 then if inB x3_1 16 then (D_X6_begins w x1 x2 (w.1 25 0 (Int32.toNatClampNeg (x3_1 + (1 : Int32)))) (w.1 25 0 (Int32.toNatClampNeg x3_1)) 0).bind fun q7 => some (q7) else none else none) else (some ((-9))) else none
set_option maxHeartbeats 4000000 in
set_option maxRecDepth 100000 in
theorem A_X6_beginsNow {X : XS} {w : Wd} {x1 : Int32} {x2 : Int32} {r : Int32} (h : D_X6_beginsNow w x1 x2 = some r) : AW 2 X mX6_beginsNow 0 (entA 4 [aR 6 0, aI x1, aI x2]) [] w (PI r w) := by
  show AW _ _ _ _ [some (aR 6 0), some (aI x1), some (aI x2), none] _ _ _
  unfold D_X6_beginsNow at h
  obtain ⟨x3_1, ex3_1, h⟩ := lt_e h
  obtain ⟨hc2, h⟩ := ck h
  obtain ⟨q3, hq3, h⟩ := bd h
  refine aw_bipush eX6_beginsNow_0 k_bipush_8 (aw_iload_n eX6_beginsNow_2 rfl (aw_imul eX6_beginsNow_3 (aw_istore_nY ex3_1 eX6_beginsNow_4 (by decide) rfl (ls' := [some (aR 6 0), some (aI x1), some (aI x2), some (aI x3_1)]) rfl (aw_aload_n eX6_beginsNow_5 rfl (aw_getf (k := 6) (f := 7) eX6_beginsNow_6 tw_2_54 ⟨by decide, by decide⟩ (by decide) (v := aR 25 0) rfl (aw_iload_n eX6_beginsNow_9 rfl (aw_iconst eX6_beginsNow_10 k_iconst_2 (aw_iadd eX6_beginsNow_11 (aw_ialdK (n := 16) eX6_beginsNow_12 rfl (by decide) hc2 (j := (Int32.toNatClampNeg (x3_1 + (2 : Int32)))) rfl (aw_iload_n eX6_beginsNow_13 rfl (aw_callSI (N := mX6_has) [aI (w.1 25 0 (Int32.toNatClampNeg (x3_1 + (2 : Int32)))), aI x2] eX6_beginsNow_14 tw_2_151 msX6_has (by decide) rfl rfl (Nat.le_of_ble_eq_true rfl) (A_X6_has hq3) (aw_if_eq eX6_beginsNow_17 (fun c4 => ?_) (fun c4 => ?_)))))))))))))
  · have h := ip c4 h
    obtain ⟨hc5, h⟩ := ck h
    obtain ⟨hc6, h⟩ := ck h
    obtain ⟨q7, hq7, h⟩ := bd h
    exact aw_aload_n eX6_beginsNow_25 rfl (aw_iload_n eX6_beginsNow_26 rfl (aw_iload_n eX6_beginsNow_27 rfl (aw_aload_n eX6_beginsNow_28 rfl (aw_getf (k := 6) (f := 7) eX6_beginsNow_29 tw_2_54 ⟨by decide, by decide⟩ (by decide) (v := aR 25 0) rfl (aw_iload_n eX6_beginsNow_32 rfl (aw_iconst eX6_beginsNow_33 k_iconst_1 (aw_iadd eX6_beginsNow_34 (aw_ialdK (n := 16) eX6_beginsNow_35 rfl (by decide) hc5 (j := (Int32.toNatClampNeg (x3_1 + (1 : Int32)))) rfl (aw_aload_n eX6_beginsNow_36 rfl (aw_getf (k := 6) (f := 7) eX6_beginsNow_37 tw_2_54 ⟨by decide, by decide⟩ (by decide) (v := aR 25 0) rfl (aw_iload_n eX6_beginsNow_40 rfl (aw_ialdK (n := 16) eX6_beginsNow_41 rfl (by decide) hc6 (j := (Int32.toNatClampNeg x3_1)) rfl (aw_iconst eX6_beginsNow_42 k_iconst_0 (aw_callVI (N := mX6_begins) [aI x1, aI x2, aI (w.1 25 0 (Int32.toNatClampNeg (x3_1 + (1 : Int32)))), aI (w.1 25 0 (Int32.toNatClampNeg x3_1)), aI 0] eX6_beginsNow_43 tw_2_154 miX6_begins (by decide) (by decide) (by decide) rfl rfl (Nat.le_of_ble_eq_true rfl) (A_X6_begins hq7) (aw_iret eX6_beginsNow_46 rfl (pI_p h))))))))))))))))
  · have h := iq c4 h
    exact aw_bipush eX6_beginsNow_20 k_bipush_m9 (aw_goto eX6_beginsNow_22 (aw_iret eX6_beginsNow_46 rfl (pI_p h)))
def D_X6_wedOn (w : Wd) (x1 : Int32) (x2 : Int32) : Option (Int32 × Wd) := lt ((8 : Int32) * x1) fun x3_1 => (D_X6_beginsNow w x1 x2).bind fun q2 => if q2 = ((-9)) then (some (0, w)) else ((D_X6_behind w x2 q2).bind fun q4 => if inB x3_1 16 then lt (wS w 25 0 (Int32.toNatClampNeg x3_1) q4) fun w6 => if inB x2 6 then if inB (x3_1 + (1 : Int32)) 16 then lt (wS w6 25 0 (Int32.toNatClampNeg (x3_1 + (1 : Int32))) (w6.1 20 0 (Int32.toNatClampNeg x2))) fun w9 => if inB (x3_1 + (2 : Int32)) 16 then if inB (x3_1 + (2 : Int32)) 16 then lt (wS w9 25 0 (Int32.toNatClampNeg (x3_1 + (2 : Int32))) ((w9.1 25 0 (Int32.toNatClampNeg (x3_1 + (2 : Int32)))) ||| ((1 : Int32) <<< (x2 &&& 31)))) fun w12 => some (1, w12) else none else none else none else none else none)
set_option maxHeartbeats 4000000 in
set_option maxRecDepth 100000 in
theorem A_X6_wedOn {X : XS} {w : Wd} {x1 : Int32} {x2 : Int32} {r : Int32 × Wd} (h : D_X6_wedOn w x1 x2 = some r) : AW 3 X mX6_wedOn 0 (entA 5 [aR 6 0, aI x1, aI x2]) [] w (PI r.1 r.2) := by
  show AW _ _ _ _ [some (aR 6 0), some (aI x1), some (aI x2), none, none] _ _ _
  unfold D_X6_wedOn at h
  obtain ⟨x3_1, ex3_1, h⟩ := lt_e h
  obtain ⟨q2, hq2, h⟩ := bd h
  refine aw_bipush eX6_wedOn_0 k_bipush_8 (aw_iload_n eX6_wedOn_2 rfl (aw_imul eX6_wedOn_3 (aw_istore_nY ex3_1 eX6_wedOn_4 (by decide) rfl (ls' := [some (aR 6 0), some (aI x1), some (aI x2), some (aI x3_1), none]) rfl (aw_aload_n eX6_wedOn_5 rfl (aw_iload_n eX6_wedOn_6 rfl (aw_iload_n eX6_wedOn_7 rfl (aw_callVI (N := mX6_beginsNow) [aI x1, aI x2] eX6_wedOn_8 tw_2_147 miX6_beginsNow (by decide) (by decide) (by decide) rfl rfl (Nat.le_of_ble_eq_true rfl) (A_X6_beginsNow hq2) (aw_istoreY rfl eX6_wedOn_11 (by decide) rfl (ls' := [some (aR 6 0), some (aI x1), some (aI x2), some (aI x3_1), some (aI q2)]) rfl (aw_iload eX6_wedOn_13 rfl (aw_bipush eX6_wedOn_15 k_bipush_m9 (aw_icmp_ne eX6_wedOn_17 (fun c3 => ?_) (fun c3 => ?_))))))))))))
  · have h := iq c3 h
    obtain ⟨q4, hq4, h⟩ := bd h
    obtain ⟨hc5, h⟩ := ck h
    obtain ⟨w6, ew6, h⟩ := lt_e h
    obtain ⟨hc7, h⟩ := ck h
    obtain ⟨hc8, h⟩ := ck h
    obtain ⟨w9, ew9, h⟩ := lt_e h
    obtain ⟨hc10, h⟩ := ck h
    obtain ⟨hc11, h⟩ := ck h
    obtain ⟨w12, ew12, h⟩ := lt_e h
    exact aw_aload_n eX6_wedOn_22 rfl (aw_getf (k := 6) (f := 7) eX6_wedOn_23 tw_2_54 ⟨by decide, by decide⟩ (by decide) (v := aR 25 0) rfl (aw_iload_n eX6_wedOn_26 rfl (aw_aload_n eX6_wedOn_27 rfl (aw_iload_n eX6_wedOn_28 rfl (aw_iload eX6_wedOn_29 rfl (aw_callVI (N := mX6_behind) [aI x2, aI q2] eX6_wedOn_31 tw_2_190 miX6_behind (by decide) (by decide) (by decide) rfl rfl (Nat.le_of_ble_eq_true rfl) (A_X6_behind hq4) (aw_iastK (n := 16) eX6_wedOn_34 rfl (by decide) hc5 (j := (Int32.toNatClampNeg x3_1)) rfl (aw_wn ew6 (aw_aload_n eX6_wedOn_35 rfl (aw_getf (k := 6) (f := 7) eX6_wedOn_36 tw_2_54 ⟨by decide, by decide⟩ (by decide) (v := aR 25 0) rfl (aw_iload_n eX6_wedOn_39 rfl (aw_iconst eX6_wedOn_40 k_iconst_1 (aw_iadd eX6_wedOn_41 (aw_aload_n eX6_wedOn_42 rfl (aw_getf (k := 6) (f := 2) eX6_wedOn_43 tw_2_49 ⟨by decide, by decide⟩ (by decide) (v := aR 20 0) rfl (aw_iload_n eX6_wedOn_46 rfl (aw_ialdK (n := 6) eX6_wedOn_47 rfl (by decide) hc7 (j := (Int32.toNatClampNeg x2)) rfl (aw_iastK (n := 16) eX6_wedOn_48 rfl (by decide) hc8 (j := (Int32.toNatClampNeg (x3_1 + (1 : Int32)))) rfl (aw_wn ew9 (aw_aload_n eX6_wedOn_49 rfl (aw_getf (k := 6) (f := 7) eX6_wedOn_50 tw_2_54 ⟨by decide, by decide⟩ (by decide) (v := aR 25 0) rfl (aw_iload_n eX6_wedOn_53 rfl (aw_iconst eX6_wedOn_54 k_iconst_2 (aw_iadd eX6_wedOn_55 (aw_dup2 eX6_wedOn_56 (aw_ialdK (n := 16) eX6_wedOn_57 rfl (by decide) hc10 (j := (Int32.toNatClampNeg (x3_1 + (2 : Int32)))) rfl (aw_iconst eX6_wedOn_58 k_iconst_1 (aw_iload_n eX6_wedOn_59 rfl (aw_ishl eX6_wedOn_60 (aw_ior eX6_wedOn_61 (aw_iastK (n := 16) eX6_wedOn_62 rfl (by decide) hc11 (j := (Int32.toNatClampNeg (x3_1 + (2 : Int32)))) rfl (aw_wn ew12 (aw_iconst eX6_wedOn_63 k_iconst_1 (aw_zret eX6_wedOn_64 rfl (by decide +kernel) (pI_i h)))))))))))))))))))))))))))))))))))
  · have h := ip c3 h
    exact aw_iconst eX6_wedOn_20 k_iconst_0 (aw_zret eX6_wedOn_21 rfl (by decide +kernel) (pI_i h))
def D_X6_wedding (w : Wd) (x1 : Int32) (x2 : Int32) : Option (Int32) := (D_X6_isWedding w x1).bind fun q1 => if q1 = 0 then (some ((-1))) else (if x2 = 0 then (if inB x1 6 then some (w.1 20 0 (Int32.toNatClampNeg x1)) else none) else (if x2 = 1 then (if inB x1 6 then some (w.1 21 0 (Int32.toNatClampNeg x1)) else none) else (if x2 = 2 then (if inB x1 6 then some (w.1 22 0 (Int32.toNatClampNeg x1)) else none) else (if x2 = 3 then (if inB x1 6 then some (w.1 23 0 (Int32.toNatClampNeg x1)) else none) else (if x2 = 4 then (if inB x1 6 then some (w.1 24 0 (Int32.toNatClampNeg x1)) else none) else (if x2 = 5 then (some (((w.1 25 0 2) >>> (x1 &&& 31)) &&& (1 : Int32))) else (if x2 = 6 then ((D_X6_beginsNow w 0 x1).bind fun q14 => some (q14)) else (some ((-2))))))))))
set_option maxHeartbeats 4000000 in
set_option maxRecDepth 100000 in
theorem A_X6_wedding {X : XS} {w : Wd} {x1 : Int32} {x2 : Int32} {r : Int32} (h : D_X6_wedding w x1 x2 = some r) : AW 3 X mX6_wedding 0 (entA 3 [aR 6 0, aI x1, aI x2]) [] w (PI r w) := by
  show AW _ _ _ _ [some (aR 6 0), some (aI x1), some (aI x2)] _ _ _
  unfold D_X6_wedding at h
  obtain ⟨q1, hq1, h⟩ := bd h
  refine aw_aload_n eX6_wedding_0 rfl (aw_iload_n eX6_wedding_1 rfl (aw_callVI (N := mX6_isWedding) [aI x1] eX6_wedding_2 tw_2_143 miX6_isWedding (by decide) (by decide) (by decide) rfl rfl (Nat.le_of_ble_eq_true rfl) (A_X6_isWedding hq1) (aw_if_ne eX6_wedding_5 (fun c2 => ?_) (fun c2 => ?_))))
  · have h := iq c2 h
    refine aw_iload_n eX6_wedding_10 rfl ?_
    by_cases c4 : x2 = 0
    · have h := ip c4 h
      refine aw_tabIn eX6_wedding_11 (by rw [c4]; decide) (by rw [c4]; decide) (off := 41) (tgt := 52) (by rw [c4]; decide) (by decide) ?_
      obtain ⟨hc3, h⟩ := ck h
      exact aw_aload_n eX6_wedding_52 rfl (aw_getf (k := 6) (f := 2) eX6_wedding_53 tw_2_49 ⟨by decide, by decide⟩ (by decide) (v := aR 20 0) rfl (aw_iload_n eX6_wedding_56 rfl (aw_ialdK (n := 6) eX6_wedding_57 rfl (by decide) hc3 (j := (Int32.toNatClampNeg x1)) rfl (aw_iret eX6_wedding_58 rfl (pI_p h)))))
    · have h := iq c4 h
      by_cases c6 : x2 = 1
      · have h := ip c6 h
        refine aw_tabIn eX6_wedding_11 (by rw [c6]; decide) (by rw [c6]; decide) (off := 48) (tgt := 59) (by rw [c6]; decide) (by decide) ?_
        obtain ⟨hc5, h⟩ := ck h
        exact aw_aload_n eX6_wedding_59 rfl (aw_getf (k := 6) (f := 3) eX6_wedding_60 tw_2_50 ⟨by decide, by decide⟩ (by decide) (v := aR 21 0) rfl (aw_iload_n eX6_wedding_63 rfl (aw_ialdK (n := 6) eX6_wedding_64 rfl (by decide) hc5 (j := (Int32.toNatClampNeg x1)) rfl (aw_iret eX6_wedding_65 rfl (pI_p h)))))
      · have h := iq c6 h
        by_cases c8 : x2 = 2
        · have h := ip c8 h
          refine aw_tabIn eX6_wedding_11 (by rw [c8]; decide) (by rw [c8]; decide) (off := 55) (tgt := 66) (by rw [c8]; decide) (by decide) ?_
          obtain ⟨hc7, h⟩ := ck h
          exact aw_aload_n eX6_wedding_66 rfl (aw_getf (k := 6) (f := 4) eX6_wedding_67 tw_2_51 ⟨by decide, by decide⟩ (by decide) (v := aR 22 0) rfl (aw_iload_n eX6_wedding_70 rfl (aw_ialdK (n := 6) eX6_wedding_71 rfl (by decide) hc7 (j := (Int32.toNatClampNeg x1)) rfl (aw_iret eX6_wedding_72 rfl (pI_p h)))))
        · have h := iq c8 h
          by_cases c10 : x2 = 3
          · have h := ip c10 h
            refine aw_tabIn eX6_wedding_11 (by rw [c10]; decide) (by rw [c10]; decide) (off := 62) (tgt := 73) (by rw [c10]; decide) (by decide) ?_
            obtain ⟨hc9, h⟩ := ck h
            exact aw_aload_n eX6_wedding_73 rfl (aw_getf (k := 6) (f := 5) eX6_wedding_74 tw_2_52 ⟨by decide, by decide⟩ (by decide) (v := aR 23 0) rfl (aw_iload_n eX6_wedding_77 rfl (aw_ialdK (n := 6) eX6_wedding_78 rfl (by decide) hc9 (j := (Int32.toNatClampNeg x1)) rfl (aw_iret eX6_wedding_79 rfl (pI_p h)))))
          · have h := iq c10 h
            by_cases c12 : x2 = 4
            · have h := ip c12 h
              refine aw_tabIn eX6_wedding_11 (by rw [c12]; decide) (by rw [c12]; decide) (off := 69) (tgt := 80) (by rw [c12]; decide) (by decide) ?_
              obtain ⟨hc11, h⟩ := ck h
              exact aw_aload_n eX6_wedding_80 rfl (aw_getf (k := 6) (f := 6) eX6_wedding_81 tw_2_53 ⟨by decide, by decide⟩ (by decide) (v := aR 24 0) rfl (aw_iload_n eX6_wedding_84 rfl (aw_ialdK (n := 6) eX6_wedding_85 rfl (by decide) hc11 (j := (Int32.toNatClampNeg x1)) rfl (aw_iret eX6_wedding_86 rfl (pI_p h)))))
            · have h := iq c12 h
              by_cases c13 : x2 = 5
              · have h := ip c13 h
                refine aw_tabIn eX6_wedding_11 (by rw [c13]; decide) (by rw [c13]; decide) (off := 76) (tgt := 87) (by rw [c13]; decide) (by decide) ?_
                exact aw_aload_n eX6_wedding_87 rfl (aw_getf (k := 6) (f := 7) eX6_wedding_88 tw_2_54 ⟨by decide, by decide⟩ (by decide) (v := aR 25 0) rfl (aw_iconst eX6_wedding_91 k_iconst_2 (aw_ialdK (n := 16) eX6_wedding_92 rfl (by decide) (by decide) (j := 2) (by decide) (aw_iload_n eX6_wedding_93 rfl (aw_ishr eX6_wedding_94 (aw_iconst eX6_wedding_95 k_iconst_1 (aw_iand eX6_wedding_96 (aw_iret eX6_wedding_97 rfl (pI_p h)))))))))
              · have h := iq c13 h
                by_cases c15 : x2 = 6
                · have h := ip c15 h
                  refine aw_tabIn eX6_wedding_11 (by rw [c15]; decide) (by rw [c15]; decide) (off := 87) (tgt := 98) (by rw [c15]; decide) (by decide) ?_
                  obtain ⟨q14, hq14, h⟩ := bd h
                  exact aw_aload_n eX6_wedding_98 rfl (aw_iconst eX6_wedding_99 k_iconst_0 (aw_iload_n eX6_wedding_100 rfl (aw_callVI (N := mX6_beginsNow) [aI 0, aI x1] eX6_wedding_101 tw_2_147 miX6_beginsNow (by decide) (by decide) (by decide) rfl rfl (Nat.le_of_ble_eq_true rfl) (A_X6_beginsNow hq14) (aw_iret eX6_wedding_104 rfl (pI_p h)))))
                · have h := iq c15 h
                  have hto : x2.toInt < 0 ∨ 6 < x2.toInt := tab_out (fun c h1 h2 => by
                    have hcc : c = 0 ∨ c = 1 ∨ c = 2 ∨ c = 3 ∨ c = 4 ∨ c = 5 ∨ c = 6 := by omega
                    rcases hcc with rfl | rfl | rfl | rfl | rfl | rfl | rfl
                    · exact fun z => c4 (z.trans (by decide))
                    · exact fun z => c6 (z.trans (by decide))
                    · exact fun z => c8 (z.trans (by decide))
                    · exact fun z => c10 (z.trans (by decide))
                    · exact fun z => c12 (z.trans (by decide))
                    · exact fun z => c13 (z.trans (by decide))
                    · exact fun z => c15 (z.trans (by decide)))
                  refine aw_tabOut eX6_wedding_11 (by exact hto) (tgt := 105) (by decide) ?_
                  exact aw_bipush eX6_wedding_105 k_bipush_m2 (aw_iret eX6_wedding_107 rfl (pI_p h))
  · have h := ip c2 h
    exact aw_iconst eX6_wedding_8 k_iconst_m1 (aw_iret eX6_wedding_9 rfl (pI_p h))
def D_X6_road (w : Wd) (x1 : Int32) : Option (Int32) := (D_X6_in (Int32.toInt64 x1) 0 4).bind fun q1 => if q1 = 0 then (some ((-1))) else (if inB ((3 : Int32) + x1) 16 then some (w.1 25 0 (Int32.toNatClampNeg ((3 : Int32) + x1))) else none)
set_option maxHeartbeats 4000000 in
set_option maxRecDepth 100000 in
theorem A_X6_road {X : XS} {w : Wd} {x1 : Int32} {r : Int32} (h : D_X6_road w x1 = some r) : AW 1 X mX6_road 0 (entA 2 [aR 6 0, aI x1]) [] w (PI r w) := by
  show AW _ _ _ _ [some (aR 6 0), some (aI x1)] _ _ _
  unfold D_X6_road at h
  obtain ⟨q1, hq1, h⟩ := bd h
  refine aw_iload_n eX6_road_0 rfl (aw_i2l eX6_road_1 (aw_lconst eX6_road_2 k_lconst_0 (aw_ldc2 eX6_road_3 tw_2_170 (aw_callSI (N := mX6_in) [aL (Int32.toInt64 x1), aL 0, aL 4] eX6_road_6 tw_2_116 msX6_in (by decide) rfl rfl (Nat.le_of_ble_eq_true rfl) (A_X6_in hq1) (aw_if_eq eX6_road_9 (fun c2 => ?_) (fun c2 => ?_))))))
  · have h := ip c2 h
    exact aw_iconst eX6_road_23 k_iconst_m1 (aw_iret eX6_road_24 rfl (pI_p h))
  · have h := iq c2 h
    obtain ⟨hc3, h⟩ := ck h
    exact aw_aload_n eX6_road_12 rfl (aw_getf (k := 6) (f := 7) eX6_road_13 tw_2_54 ⟨by decide, by decide⟩ (by decide) (v := aR 25 0) rfl (aw_iconst eX6_road_16 k_iconst_3 (aw_iload_n eX6_road_17 rfl (aw_iadd eX6_road_18 (aw_ialdK (n := 16) eX6_road_19 rfl (by decide) hc3 (j := (Int32.toNatClampNeg ((3 : Int32) + x1))) rfl (aw_goto eX6_road_20 (aw_iret eX6_road_24 rfl (pI_p h))))))))
def D_X6_way (w : Wd) (x1 : Int32) (x2 : Int32) : Option (Int32) := (D_X6_isChurch x1).bind fun q1 => if q1 = 0 then (some ((-1))) else ((D_X6_isChurch x2).bind fun q3 => if q3 = 0 then (some ((-1))) else ((D_X6_wayOn w 0 x1 x2).bind fun q5 => some (q5)))
set_option maxHeartbeats 4000000 in
set_option maxRecDepth 100000 in
theorem A_X6_way {X : XS} {w : Wd} {x1 : Int32} {x2 : Int32} {r : Int32} (h : D_X6_way w x1 x2 = some r) : AW 2 X mX6_way 0 (entA 3 [aR 6 0, aI x1, aI x2]) [] w (PI r w) := by
  show AW _ _ _ _ [some (aR 6 0), some (aI x1), some (aI x2)] _ _ _
  unfold D_X6_way at h
  obtain ⟨q1, hq1, h⟩ := bd h
  refine aw_iload_n eX6_way_0 rfl (aw_callSI (N := mX6_isChurch) [aI x1] eX6_way_1 tw_2_175 msX6_isChurch (by decide) rfl rfl (Nat.le_of_ble_eq_true rfl) (A_X6_isChurch hq1) (aw_if_eq eX6_way_4 (fun c2 => ?_) (fun c2 => ?_)))
  · have h := ip c2 h
    exact aw_iconst eX6_way_24 k_iconst_m1 (aw_iret eX6_way_25 rfl (pI_p h))
  · have h := iq c2 h
    obtain ⟨q3, hq3, h⟩ := bd h
    refine aw_iload_n eX6_way_7 rfl (aw_callSI (N := mX6_isChurch) [aI x2] eX6_way_8 tw_2_175 msX6_isChurch (by decide) rfl rfl (Nat.le_of_ble_eq_true rfl) (A_X6_isChurch hq3) (aw_if_eq eX6_way_11 (fun c4 => ?_) (fun c4 => ?_)))
    · have h := ip c4 h
      exact aw_iconst eX6_way_24 k_iconst_m1 (aw_iret eX6_way_25 rfl (pI_p h))
    · have h := iq c4 h
      obtain ⟨q5, hq5, h⟩ := bd h
      exact aw_aload_n eX6_way_14 rfl (aw_iconst eX6_way_15 k_iconst_0 (aw_iload_n eX6_way_16 rfl (aw_iload_n eX6_way_17 rfl (aw_callVI (N := mX6_wayOn) [aI 0, aI x1, aI x2] eX6_way_18 tw_2_158 miX6_wayOn (by decide) (by decide) (by decide) rfl rfl (Nat.le_of_ble_eq_true rfl) (A_X6_wayOn hq5) (aw_goto eX6_way_21 (aw_iret eX6_way_25 rfl (pI_p h)))))))
def D_X6_keepAct_2 : Nat → Int32 → Wd → Option (Wd)
  | 0, _, _ => none
  | n + 1, x1, w => if 8 ≤ x1 then (lt (wS w 6 0 11 (((w.1 6 0 11) + (1 : Int32)) - ((w.1 6 0 11) + (1 : Int32)) / (14 : Int32) * (14 : Int32))) fun w2 => if 14 ≤ (w2.1 6 0 10) then (lt (wS w2 6 0 10 14) fun w4 => some w4) else (lt (wS w2 6 0 10 ((w2.1 6 0 10) + (1 : Int32))) fun w5 => some w5)) else (if inB x1 16 then if inB (((8 : Int32) * (w.1 6 0 11)) + x1) 112 then lt (wS w 27 0 (Int32.toNatClampNeg (((8 : Int32) * (w.1 6 0 11)) + x1)) (w.1 25 0 (Int32.toNatClampNeg x1))) fun w8 => lt (x1 + 1) fun x1_9 => D_X6_keepAct_2 n x1_9 w8 else none else none)
set_option maxHeartbeats 4000000 in
set_option maxRecDepth 100000 in
theorem A_X6_keepAct_2 {X : XS} : ∀ (nn : Nat) {x1 : Int32} {w : Wd} {r : Wd}, D_X6_keepAct_2 nn x1 w = some r → AW 0 X mX6_keepAct 2 [some (aR 6 0), some (aI x1)] [] w (PV r) := by
  intro nn
  induction nn with
  | zero => intros; rename_i h; cases h
  | succ n ih =>
    intro x1 w r h
    rw [D_X6_keepAct_2] at h
    refine aw_iload_n eX6_keepAct_2 rfl (aw_bipush eX6_keepAct_3 k_bipush_8 (aw_icmp_ge eX6_keepAct_5 (fun c1 => ?_) (fun c1 => ?_)))
    · have h := ip c1 h
      obtain ⟨w2, ew2, h⟩ := lt_e h
      refine aw_aload_n eX6_keepAct_34 rfl (aw_aload_n eX6_keepAct_35 rfl (aw_getf (k := 6) (f := 11) eX6_keepAct_36 tw_2_58 ⟨by decide, by decide⟩ (by decide) (v := aI (w.1 6 0 11)) rfl (aw_iconst eX6_keepAct_39 k_iconst_1 (aw_iadd eX6_keepAct_40 (aw_bipush eX6_keepAct_41 k_bipush_14 (aw_irem eX6_keepAct_43 (by decide) (aw_putI (k := 6) (f := 11) eX6_keepAct_44 tw_2_58 ⟨by decide, by decide⟩ (by decide) ⟨rfl, rfl, rfl, rfl⟩ (aw_wn ew2 (aw_aload_n eX6_keepAct_47 rfl (aw_aload_n eX6_keepAct_48 rfl (aw_getf (k := 6) (f := 10) eX6_keepAct_49 tw_2_57 ⟨by decide, by decide⟩ (by decide) (v := aI (w2.1 6 0 10)) rfl (aw_bipush eX6_keepAct_52 k_bipush_14 (aw_icmp_ge eX6_keepAct_54 (fun c3 => ?_) (fun c3 => ?_))))))))))))))
      · have h := ip c3 h
        obtain ⟨w4, ew4, h⟩ := lt_e h
        exact aw_bipush eX6_keepAct_66 k_bipush_14 (aw_putI (k := 6) (f := 10) eX6_keepAct_68 tw_2_57 ⟨by decide, by decide⟩ (by decide) ⟨rfl, rfl, rfl, rfl⟩ (aw_wn ew4 (aw_vret eX6_keepAct_71 rfl (pV_i h))))
      · have h := iq c3 h
        obtain ⟨w5, ew5, h⟩ := lt_e h
        exact aw_aload_n eX6_keepAct_57 rfl (aw_getf (k := 6) (f := 10) eX6_keepAct_58 tw_2_57 ⟨by decide, by decide⟩ (by decide) (v := aI (w2.1 6 0 10)) rfl (aw_iconst eX6_keepAct_61 k_iconst_1 (aw_iadd eX6_keepAct_62 (aw_goto eX6_keepAct_63 (aw_putI (k := 6) (f := 10) eX6_keepAct_68 tw_2_57 ⟨by decide, by decide⟩ (by decide) ⟨rfl, rfl, rfl, rfl⟩ (aw_wn ew5 (aw_vret eX6_keepAct_71 rfl (pV_i h))))))))
    · have h := iq c1 h
      obtain ⟨hc6, h⟩ := ck h
      obtain ⟨hc7, h⟩ := ck h
      obtain ⟨w8, ew8, h⟩ := lt_e h
      obtain ⟨x1_9, ex1_9, h⟩ := lt_e h
      refine aw_aload_n eX6_keepAct_8 rfl (aw_getf (k := 6) (f := 12) eX6_keepAct_9 tw_2_59 ⟨by decide, by decide⟩ (by decide) (v := aR 27 0) rfl (aw_bipush eX6_keepAct_12 k_bipush_8 (aw_aload_n eX6_keepAct_14 rfl (aw_getf (k := 6) (f := 11) eX6_keepAct_15 tw_2_58 ⟨by decide, by decide⟩ (by decide) (v := aI (w.1 6 0 11)) rfl (aw_imul eX6_keepAct_18 (aw_iload_n eX6_keepAct_19 rfl (aw_iadd eX6_keepAct_20 (aw_aload_n eX6_keepAct_21 rfl (aw_getf (k := 6) (f := 7) eX6_keepAct_22 tw_2_54 ⟨by decide, by decide⟩ (by decide) (v := aR 25 0) rfl (aw_iload_n eX6_keepAct_25 rfl (aw_ialdK (n := 16) eX6_keepAct_26 rfl (by decide) hc6 (j := (Int32.toNatClampNeg x1)) rfl (aw_iastK (n := 112) eX6_keepAct_27 rfl (by decide) hc7 (j := (Int32.toNatClampNeg (((8 : Int32) * (w.1 6 0 11)) + x1))) rfl (aw_wn ew8 (aw_iincY (iinc_k k_iconst_1 ex1_9) eX6_keepAct_28 rfl (by decide) rfl (ls' := [some (aR 6 0), some (aI x1_9)]) rfl (aw_goto eX6_keepAct_31 ?_)))))))))))))))
      exact ih h
def D_X6_keepAct (w : Wd) : Option (Wd) := D_X6_keepAct_2 fuelZ 0 w
set_option maxHeartbeats 4000000 in
set_option maxRecDepth 100000 in
theorem A_X6_keepAct {X : XS} {w : Wd} {r : Wd} (h : D_X6_keepAct w = some r) : AW 0 X mX6_keepAct 0 (entA 2 [aR 6 0]) [] w (PV r) := by
  show AW _ _ _ _ [some (aR 6 0), none] _ _ _
  unfold D_X6_keepAct at h
  refine aw_iconst eX6_keepAct_0 k_iconst_0 (aw_istore_nY rfl eX6_keepAct_1 (by decide) rfl (ls' := [some (aR 6 0), some (aI 0)]) rfl ?_)
  exact A_X6_keepAct_2 fuelZ h
def D_X6_wed (w : Wd) (x1 : Int32) : Option (Int32 × Wd) := (D_X6_isWedding w x1).bind fun q1 => if q1 = 0 then (some ((-1), w)) else ((D_X6_beginsNow w 0 x1).bind fun q3 => if q3 = ((-9)) then (some ((-3), w)) else ((D_X6_keepAct w).bind fun q5 => (D_X6_wedOn q5 0 x1).bind fun q6 => some (q6.2.1 25 0 0, q6.2)))
set_option maxHeartbeats 4000000 in
set_option maxRecDepth 100000 in
theorem A_X6_wed {X : XS} {w : Wd} {x1 : Int32} {r : Int32 × Wd} (h : D_X6_wed w x1 = some r) : AW 4 X mX6_wed 0 (entA 2 [aR 6 0, aI x1]) [] w (PI r.1 r.2) := by
  show AW _ _ _ _ [some (aR 6 0), some (aI x1)] _ _ _
  unfold D_X6_wed at h
  obtain ⟨q1, hq1, h⟩ := bd h
  refine aw_aload_n eX6_wed_0 rfl (aw_iload_n eX6_wed_1 rfl (aw_callVI (N := mX6_isWedding) [aI x1] eX6_wed_2 tw_2_143 miX6_isWedding (by decide) (by decide) (by decide) rfl rfl (Nat.le_of_ble_eq_true rfl) (A_X6_isWedding hq1) (aw_if_ne eX6_wed_5 (fun c2 => ?_) (fun c2 => ?_))))
  · have h := iq c2 h
    obtain ⟨q3, hq3, h⟩ := bd h
    refine aw_aload_n eX6_wed_10 rfl (aw_iconst eX6_wed_11 k_iconst_0 (aw_iload_n eX6_wed_12 rfl (aw_callVI (N := mX6_beginsNow) [aI 0, aI x1] eX6_wed_13 tw_2_147 miX6_beginsNow (by decide) (by decide) (by decide) rfl rfl (Nat.le_of_ble_eq_true rfl) (A_X6_beginsNow hq3) (aw_bipush eX6_wed_16 k_bipush_m9 (aw_icmp_ne eX6_wed_18 (fun c4 => ?_) (fun c4 => ?_))))))
    · have h := iq c4 h
      obtain ⟨q5, hq5, h⟩ := bd h
      obtain ⟨q6, hq6, h⟩ := bd h
      exact aw_aload_n eX6_wed_24 rfl (aw_callVV (N := mX6_keepAct) [] eX6_wed_25 tw_2_182 miX6_keepAct (by decide) (by decide) (by decide) rfl rfl (Nat.le_of_ble_eq_true rfl) (A_X6_keepAct hq5) (aw_aload_n eX6_wed_28 rfl (aw_iconst eX6_wed_29 k_iconst_0 (aw_iload_n eX6_wed_30 rfl (aw_callVI (N := mX6_wedOn) [aI 0, aI x1] eX6_wed_31 tw_2_186 miX6_wedOn (by decide) (by decide) (by decide) rfl rfl (Nat.le_of_ble_eq_true rfl) (A_X6_wedOn hq6) (aw_popI eX6_wed_34 (aw_aload_n eX6_wed_35 rfl (aw_getf (k := 6) (f := 7) eX6_wed_36 tw_2_54 ⟨by decide, by decide⟩ (by decide) (v := aR 25 0) rfl (aw_iconst eX6_wed_39 k_iconst_0 (aw_ialdK (n := 16) eX6_wed_40 rfl (by decide) (by decide) (j := 0) (by decide) (aw_iret eX6_wed_41 rfl (pI_i h))))))))))))
    · have h := ip c4 h
      exact aw_bipush eX6_wed_21 k_bipush_m3 (aw_iret eX6_wed_23 rfl (pI_i h))
  · have h := ip c2 h
    exact aw_iconst eX6_wed_8 k_iconst_m1 (aw_iret eX6_wed_9 rfl (pI_i h))
def D_X6_carry (w : Wd) (x1 : Int32) : Option (Int32 × Wd) := (D_X6_isChurch x1).bind fun q1 => if q1 = 0 then (some ((-1), w)) else (if (w.1 25 0 1) = x1 then (some ((-3), w)) else ((D_X6_keepAct w).bind fun q4 => (D_X6_wayOn q4 0 (q4.1 25 0 1) x1).bind fun q5 => lt (wS q4 25 0 0 ((q4.1 25 0 0) + q5)) fun w6 => lt (wS w6 25 0 1 x1) fun w7 => some (w7.1 25 0 0, w7)))
set_option maxHeartbeats 4000000 in
set_option maxRecDepth 100000 in
theorem A_X6_carry {X : XS} {w : Wd} {x1 : Int32} {r : Int32 × Wd} (h : D_X6_carry w x1 = some r) : AW 2 X mX6_carry 0 (entA 2 [aR 6 0, aI x1]) [] w (PI r.1 r.2) := by
  show AW _ _ _ _ [some (aR 6 0), some (aI x1)] _ _ _
  unfold D_X6_carry at h
  obtain ⟨q1, hq1, h⟩ := bd h
  refine aw_iload_n eX6_carry_0 rfl (aw_callSI (N := mX6_isChurch) [aI x1] eX6_carry_1 tw_2_175 msX6_isChurch (by decide) rfl rfl (Nat.le_of_ble_eq_true rfl) (A_X6_isChurch hq1) (aw_if_ne eX6_carry_4 (fun c2 => ?_) (fun c2 => ?_)))
  · have h := iq c2 h
    refine aw_aload_n eX6_carry_9 rfl (aw_getf (k := 6) (f := 7) eX6_carry_10 tw_2_54 ⟨by decide, by decide⟩ (by decide) (v := aR 25 0) rfl (aw_iconst eX6_carry_13 k_iconst_1 (aw_ialdK (n := 16) eX6_carry_14 rfl (by decide) (by decide) (j := 1) (by decide) (aw_iload_n eX6_carry_15 rfl (aw_icmp_ne eX6_carry_16 (fun c3 => ?_) (fun c3 => ?_))))))
    · have h := iq c3 h
      obtain ⟨q4, hq4, h⟩ := bd h
      obtain ⟨q5, hq5, h⟩ := bd h
      obtain ⟨w6, ew6, h⟩ := lt_e h
      obtain ⟨w7, ew7, h⟩ := lt_e h
      exact aw_aload_n eX6_carry_22 rfl (aw_callVV (N := mX6_keepAct) [] eX6_carry_23 tw_2_182 miX6_keepAct (by decide) (by decide) (by decide) rfl rfl (Nat.le_of_ble_eq_true rfl) (A_X6_keepAct hq4) (aw_aload_n eX6_carry_26 rfl (aw_getf (k := 6) (f := 7) eX6_carry_27 tw_2_54 ⟨by decide, by decide⟩ (by decide) (v := aR 25 0) rfl (aw_iconst eX6_carry_30 k_iconst_0 (aw_dup2 eX6_carry_31 (aw_ialdK (n := 16) eX6_carry_32 rfl (by decide) (by decide) (j := 0) (by decide) (aw_aload_n eX6_carry_33 rfl (aw_iconst eX6_carry_34 k_iconst_0 (aw_aload_n eX6_carry_35 rfl (aw_getf (k := 6) (f := 7) eX6_carry_36 tw_2_54 ⟨by decide, by decide⟩ (by decide) (v := aR 25 0) rfl (aw_iconst eX6_carry_39 k_iconst_1 (aw_ialdK (n := 16) eX6_carry_40 rfl (by decide) (by decide) (j := 1) (by decide) (aw_iload_n eX6_carry_41 rfl (aw_callVI (N := mX6_wayOn) [aI 0, aI (q4.1 25 0 1), aI x1] eX6_carry_42 tw_2_158 miX6_wayOn (by decide) (by decide) (by decide) rfl rfl (Nat.le_of_ble_eq_true rfl) (A_X6_wayOn hq5) (aw_iadd eX6_carry_45 (aw_iastK (n := 16) eX6_carry_46 rfl (by decide) (by decide) (j := 0) (by decide) (aw_wn ew6 (aw_aload_n eX6_carry_47 rfl (aw_getf (k := 6) (f := 7) eX6_carry_48 tw_2_54 ⟨by decide, by decide⟩ (by decide) (v := aR 25 0) rfl (aw_iconst eX6_carry_51 k_iconst_1 (aw_iload_n eX6_carry_52 rfl (aw_iastK (n := 16) eX6_carry_53 rfl (by decide) (by decide) (j := 1) (by decide) (aw_wn ew7 (aw_aload_n eX6_carry_54 rfl (aw_getf (k := 6) (f := 7) eX6_carry_55 tw_2_54 ⟨by decide, by decide⟩ (by decide) (v := aR 25 0) rfl (aw_iconst eX6_carry_58 k_iconst_0 (aw_ialdK (n := 16) eX6_carry_59 rfl (by decide) (by decide) (j := 0) (by decide) (aw_iret eX6_carry_60 rfl (pI_i h)))))))))))))))))))))))))))))
    · have h := ip c3 h
      exact aw_bipush eX6_carry_19 k_bipush_m3 (aw_iret eX6_carry_21 rfl (pI_i h))
  · have h := ip c2 h
    exact aw_iconst eX6_carry_7 k_iconst_m1 (aw_iret eX6_carry_8 rfl (pI_i h))
def D_X6_linger (w : Wd) : Option (Int32 × Wd) := (D_X6_keepAct w).bind fun q1 => lt (wS q1 25 0 0 ((q1.1 25 0 0) + (1 : Int32))) fun w2 => some (w2.1 25 0 0, w2)
set_option maxHeartbeats 4000000 in
set_option maxRecDepth 100000 in
theorem A_X6_linger {X : XS} {w : Wd} {r : Int32 × Wd} (h : D_X6_linger w = some r) : AW 1 X mX6_linger 0 (entA 1 [aR 6 0]) [] w (PI r.1 r.2) := by
  show AW _ _ _ _ [some (aR 6 0)] _ _ _
  unfold D_X6_linger at h
  obtain ⟨q1, hq1, h⟩ := bd h
  obtain ⟨w2, ew2, h⟩ := lt_e h
  exact aw_aload_n eX6_linger_0 rfl (aw_callVV (N := mX6_keepAct) [] eX6_linger_1 tw_2_182 miX6_keepAct (by decide) (by decide) (by decide) rfl rfl (Nat.le_of_ble_eq_true rfl) (A_X6_keepAct hq1) (aw_aload_n eX6_linger_4 rfl (aw_getf (k := 6) (f := 7) eX6_linger_5 tw_2_54 ⟨by decide, by decide⟩ (by decide) (v := aR 25 0) rfl (aw_iconst eX6_linger_8 k_iconst_0 (aw_dup2 eX6_linger_9 (aw_ialdK (n := 16) eX6_linger_10 rfl (by decide) (by decide) (j := 0) (by decide) (aw_iconst eX6_linger_11 k_iconst_1 (aw_iadd eX6_linger_12 (aw_iastK (n := 16) eX6_linger_13 rfl (by decide) (by decide) (j := 0) (by decide) (aw_wn ew2 (aw_aload_n eX6_linger_14 rfl (aw_getf (k := 6) (f := 7) eX6_linger_15 tw_2_54 ⟨by decide, by decide⟩ (by decide) (v := aR 25 0) rfl (aw_iconst eX6_linger_18 k_iconst_0 (aw_ialdK (n := 16) eX6_linger_19 rfl (by decide) (by decide) (j := 0) (by decide) (aw_iret eX6_linger_20 rfl (pI_i h))))))))))))))))
def D_X6_mend (w : Wd) (x1 : Int32) : Option (Int32 × Wd) := (D_X6_in (Int32.toInt64 x1) 0 4).bind fun q1 => if q1 = 0 then (some ((-1), w)) else (if inB ((3 : Int32) + x1) 16 then if (w.1 25 0 (Int32.toNatClampNeg ((3 : Int32) + x1))) = 0 then (some ((-3), w)) else ((D_X6_keepAct w).bind fun q5 => if inB ((3 : Int32) + x1) 16 then if inB ((3 : Int32) + x1) 16 then lt (wS q5 25 0 (Int32.toNatClampNeg ((3 : Int32) + x1)) ((q5.1 25 0 (Int32.toNatClampNeg ((3 : Int32) + x1))) - (1 : Int32))) fun w8 => if inB ((3 : Int32) + x1) 16 then some (w8.1 25 0 (Int32.toNatClampNeg ((3 : Int32) + x1)), w8) else none else none else none) else none)
set_option maxHeartbeats 4000000 in
set_option maxRecDepth 100000 in
theorem A_X6_mend {X : XS} {w : Wd} {x1 : Int32} {r : Int32 × Wd} (h : D_X6_mend w x1 = some r) : AW 1 X mX6_mend 0 (entA 2 [aR 6 0, aI x1]) [] w (PI r.1 r.2) := by
  show AW _ _ _ _ [some (aR 6 0), some (aI x1)] _ _ _
  unfold D_X6_mend at h
  obtain ⟨q1, hq1, h⟩ := bd h
  refine aw_iload_n eX6_mend_0 rfl (aw_i2l eX6_mend_1 (aw_lconst eX6_mend_2 k_lconst_0 (aw_ldc2 eX6_mend_3 tw_2_170 (aw_callSI (N := mX6_in) [aL (Int32.toInt64 x1), aL 0, aL 4] eX6_mend_6 tw_2_116 msX6_in (by decide) rfl rfl (Nat.le_of_ble_eq_true rfl) (A_X6_in hq1) (aw_if_ne eX6_mend_9 (fun c2 => ?_) (fun c2 => ?_))))))
  · have h := iq c2 h
    obtain ⟨hc3, h⟩ := ck h
    refine aw_aload_n eX6_mend_14 rfl (aw_getf (k := 6) (f := 7) eX6_mend_15 tw_2_54 ⟨by decide, by decide⟩ (by decide) (v := aR 25 0) rfl (aw_iconst eX6_mend_18 k_iconst_3 (aw_iload_n eX6_mend_19 rfl (aw_iadd eX6_mend_20 (aw_ialdK (n := 16) eX6_mend_21 rfl (by decide) hc3 (j := (Int32.toNatClampNeg ((3 : Int32) + x1))) rfl (aw_if_ne eX6_mend_22 (fun c4 => ?_) (fun c4 => ?_)))))))
    · have h := iq c4 h
      obtain ⟨q5, hq5, h⟩ := bd h
      obtain ⟨hc6, h⟩ := ck h
      obtain ⟨hc7, h⟩ := ck h
      obtain ⟨w8, ew8, h⟩ := lt_e h
      obtain ⟨hc9, h⟩ := ck h
      exact aw_aload_n eX6_mend_28 rfl (aw_callVV (N := mX6_keepAct) [] eX6_mend_29 tw_2_182 miX6_keepAct (by decide) (by decide) (by decide) rfl rfl (Nat.le_of_ble_eq_true rfl) (A_X6_keepAct hq5) (aw_aload_n eX6_mend_32 rfl (aw_getf (k := 6) (f := 7) eX6_mend_33 tw_2_54 ⟨by decide, by decide⟩ (by decide) (v := aR 25 0) rfl (aw_iconst eX6_mend_36 k_iconst_3 (aw_iload_n eX6_mend_37 rfl (aw_iadd eX6_mend_38 (aw_dup2 eX6_mend_39 (aw_ialdK (n := 16) eX6_mend_40 rfl (by decide) hc6 (j := (Int32.toNatClampNeg ((3 : Int32) + x1))) rfl (aw_iconst eX6_mend_41 k_iconst_1 (aw_isub eX6_mend_42 (aw_iastK (n := 16) eX6_mend_43 rfl (by decide) hc7 (j := (Int32.toNatClampNeg ((3 : Int32) + x1))) rfl (aw_wn ew8 (aw_aload_n eX6_mend_44 rfl (aw_getf (k := 6) (f := 7) eX6_mend_45 tw_2_54 ⟨by decide, by decide⟩ (by decide) (v := aR 25 0) rfl (aw_iconst eX6_mend_48 k_iconst_3 (aw_iload_n eX6_mend_49 rfl (aw_iadd eX6_mend_50 (aw_ialdK (n := 16) eX6_mend_51 rfl (by decide) hc9 (j := (Int32.toNatClampNeg ((3 : Int32) + x1))) rfl (aw_iret eX6_mend_52 rfl (pI_i h))))))))))))))))))))
    · have h := ip c4 h
      exact aw_bipush eX6_mend_25 k_bipush_m3 (aw_iret eX6_mend_27 rfl (pI_i h))
  · have h := ip c2 h
    exact aw_iconst eX6_mend_12 k_iconst_m1 (aw_iret eX6_mend_13 rfl (pI_i h))
def D_X6_undo_36 : Nat → Int32 → Wd → Option (Int32 × Wd)
  | 0, _, _ => none
  | n + 1, x1, w => if 8 ≤ x1 then (some (w.1 6 0 10, w)) else (if inB (((8 : Int32) * (w.1 6 0 11)) + x1) 112 then if inB x1 16 then lt (wS w 25 0 (Int32.toNatClampNeg x1) (w.1 27 0 (Int32.toNatClampNeg (((8 : Int32) * (w.1 6 0 11)) + x1)))) fun w7 => lt (x1 + 1) fun x1_8 => D_X6_undo_36 n x1_8 w7 else none else none)
set_option maxHeartbeats 4000000 in
set_option maxRecDepth 100000 in
theorem A_X6_undo_36 {X : XS} : ∀ (nn : Nat) {x1 : Int32} {w : Wd} {r : Int32 × Wd}, D_X6_undo_36 nn x1 w = some r → AW 0 X mX6_undo 36 [some (aR 6 0), some (aI x1)] [] w (PI r.1 r.2) := by
  intro nn
  induction nn with
  | zero => intros; rename_i h; cases h
  | succ n ih =>
    intro x1 w r h
    rw [D_X6_undo_36] at h
    refine aw_iload_n eX6_undo_36 rfl (aw_bipush eX6_undo_37 k_bipush_8 (aw_icmp_ge eX6_undo_39 (fun c4 => ?_) (fun c4 => ?_)))
    · have h := ip c4 h
      exact aw_aload_n eX6_undo_68 rfl (aw_getf (k := 6) (f := 10) eX6_undo_69 tw_2_57 ⟨by decide, by decide⟩ (by decide) (v := aI (w.1 6 0 10)) rfl (aw_iret eX6_undo_72 rfl (pI_i h)))
    · have h := iq c4 h
      obtain ⟨hc5, h⟩ := ck h
      obtain ⟨hc6, h⟩ := ck h
      obtain ⟨w7, ew7, h⟩ := lt_e h
      obtain ⟨x1_8, ex1_8, h⟩ := lt_e h
      refine aw_aload_n eX6_undo_42 rfl (aw_getf (k := 6) (f := 7) eX6_undo_43 tw_2_54 ⟨by decide, by decide⟩ (by decide) (v := aR 25 0) rfl (aw_iload_n eX6_undo_46 rfl (aw_aload_n eX6_undo_47 rfl (aw_getf (k := 6) (f := 12) eX6_undo_48 tw_2_59 ⟨by decide, by decide⟩ (by decide) (v := aR 27 0) rfl (aw_bipush eX6_undo_51 k_bipush_8 (aw_aload_n eX6_undo_53 rfl (aw_getf (k := 6) (f := 11) eX6_undo_54 tw_2_58 ⟨by decide, by decide⟩ (by decide) (v := aI (w.1 6 0 11)) rfl (aw_imul eX6_undo_57 (aw_iload_n eX6_undo_58 rfl (aw_iadd eX6_undo_59 (aw_ialdK (n := 112) eX6_undo_60 rfl (by decide) hc5 (j := (Int32.toNatClampNeg (((8 : Int32) * (w.1 6 0 11)) + x1))) rfl (aw_iastK (n := 16) eX6_undo_61 rfl (by decide) hc6 (j := (Int32.toNatClampNeg x1)) rfl (aw_wn ew7 (aw_iincY (iinc_k k_iconst_1 ex1_8) eX6_undo_62 rfl (by decide) rfl (ls' := [some (aR 6 0), some (aI x1_8)]) rfl (aw_goto eX6_undo_65 ?_)))))))))))))))
      exact ih h
def D_X6_undo (w : Wd) : Option (Int32 × Wd) := if (w.1 6 0 10) = 0 then (some ((-3), w)) else (lt (wS w 6 0 10 ((w.1 6 0 10) - (1 : Int32))) fun w2 => lt (wS w2 6 0 11 (((w2.1 6 0 11) + (13 : Int32)) - ((w2.1 6 0 11) + (13 : Int32)) / (14 : Int32) * (14 : Int32))) fun w3 => D_X6_undo_36 fuelZ 0 w3)
set_option maxHeartbeats 4000000 in
set_option maxRecDepth 100000 in
theorem A_X6_undo {X : XS} {w : Wd} {r : Int32 × Wd} (h : D_X6_undo w = some r) : AW 0 X mX6_undo 0 (entA 2 [aR 6 0]) [] w (PI r.1 r.2) := by
  show AW _ _ _ _ [some (aR 6 0), none] _ _ _
  unfold D_X6_undo at h
  refine aw_aload_n eX6_undo_0 rfl (aw_getf (k := 6) (f := 10) eX6_undo_1 tw_2_57 ⟨by decide, by decide⟩ (by decide) (v := aI (w.1 6 0 10)) rfl (aw_if_ne eX6_undo_4 (fun c1 => ?_) (fun c1 => ?_)))
  · have h := iq c1 h
    obtain ⟨w2, ew2, h⟩ := lt_e h
    obtain ⟨w3, ew3, h⟩ := lt_e h
    refine aw_aload_n eX6_undo_10 rfl (aw_dupR eX6_undo_11 (aw_getf (k := 6) (f := 10) eX6_undo_12 tw_2_57 ⟨by decide, by decide⟩ (by decide) (v := aI (w.1 6 0 10)) rfl (aw_iconst eX6_undo_15 k_iconst_1 (aw_isub eX6_undo_16 (aw_putI (k := 6) (f := 10) eX6_undo_17 tw_2_57 ⟨by decide, by decide⟩ (by decide) ⟨rfl, rfl, rfl, rfl⟩ (aw_wn ew2 (aw_aload_n eX6_undo_20 rfl (aw_aload_n eX6_undo_21 rfl (aw_getf (k := 6) (f := 11) eX6_undo_22 tw_2_58 ⟨by decide, by decide⟩ (by decide) (v := aI (w2.1 6 0 11)) rfl (aw_bipush eX6_undo_25 k_bipush_13 (aw_iadd eX6_undo_27 (aw_bipush eX6_undo_28 k_bipush_14 (aw_irem eX6_undo_30 (by decide) (aw_putI (k := 6) (f := 11) eX6_undo_31 tw_2_58 ⟨by decide, by decide⟩ (by decide) ⟨rfl, rfl, rfl, rfl⟩ (aw_wn ew3 (aw_iconst eX6_undo_34 k_iconst_0 (aw_istore_nY rfl eX6_undo_35 (by decide) rfl (ls' := [some (aR 6 0), some (aI 0)]) rfl ?_)))))))))))))))))
    exact A_X6_undo_36 fuelZ h
  · have h := ip c1 h
    exact aw_bipush eX6_undo_7 k_bipush_m3 (aw_iret eX6_undo_9 rfl (pI_i h))
def D_X6_noteEarlier (w : Wd) (x1 : Int32) (x2 : Int32) (x3 : Int32) : Option (Wd) := if x3 = ((-9)) then (some w) else (lt (((6 : Int32) * (x1 ||| ((1 : Int32) <<< (x2 &&& 31)))) + x2) fun x4_2 => (D_X6_behind w x2 x3).bind fun q3 => if inB x4_2 384 then if (w.1 28 0 (Int32.toNatClampNeg x4_2)) = ((-9)) then (if inB x4_2 384 then lt (wS w 28 0 (Int32.toNatClampNeg x4_2) q3) fun w7 => some w7 else none) else (if inB x4_2 384 then if (w.1 28 0 (Int32.toNatClampNeg x4_2)) ≤ q3 then (if inB x4_2 384 then if inB x4_2 384 then lt (wS w 28 0 (Int32.toNatClampNeg x4_2) (w.1 28 0 (Int32.toNatClampNeg x4_2))) fun w12 => some w12 else none else none) else (if inB x4_2 384 then lt (wS w 28 0 (Int32.toNatClampNeg x4_2) q3) fun w14 => some w14 else none) else none) else none)
set_option maxHeartbeats 4000000 in
set_option maxRecDepth 100000 in
theorem A_X6_noteEarlier {X : XS} {w : Wd} {x1 : Int32} {x2 : Int32} {x3 : Int32} {r : Wd} (h : D_X6_noteEarlier w x1 x2 x3 = some r) : AW 2 X mX6_noteEarlier 0 (entA 6 [aR 6 0, aI x1, aI x2, aI x3]) [] w (PV r) := by
  show AW _ _ _ _ [some (aR 6 0), some (aI x1), some (aI x2), some (aI x3), none, none] _ _ _
  unfold D_X6_noteEarlier at h
  refine aw_iload_n eX6_noteEarlier_0 rfl (aw_bipush eX6_noteEarlier_1 k_bipush_m9 (aw_icmp_eq eX6_noteEarlier_3 (fun c1 => ?_) (fun c1 => ?_)))
  · have h := ip c1 h
    exact aw_vret eX6_noteEarlier_69 rfl (pV_i h)
  · have h := iq c1 h
    obtain ⟨x4_2, ex4_2, h⟩ := lt_e h
    obtain ⟨q3, hq3, h⟩ := bd h
    obtain ⟨hc4, h⟩ := ck h
    refine aw_bipush eX6_noteEarlier_6 k_bipush_6 (aw_iload_n eX6_noteEarlier_8 rfl (aw_iconst eX6_noteEarlier_9 k_iconst_1 (aw_iload_n eX6_noteEarlier_10 rfl (aw_ishl eX6_noteEarlier_11 (aw_ior eX6_noteEarlier_12 (aw_imul eX6_noteEarlier_13 (aw_iload_n eX6_noteEarlier_14 rfl (aw_iadd eX6_noteEarlier_15 (aw_istoreY ex4_2 eX6_noteEarlier_16 (by decide) rfl (ls' := [some (aR 6 0), some (aI x1), some (aI x2), some (aI x3), some (aI x4_2), none]) rfl (aw_aload_n eX6_noteEarlier_18 rfl (aw_iload_n eX6_noteEarlier_19 rfl (aw_iload_n eX6_noteEarlier_20 rfl (aw_callVI (N := mX6_behind) [aI x2, aI x3] eX6_noteEarlier_21 tw_2_190 miX6_behind (by decide) (by decide) (by decide) rfl rfl (Nat.le_of_ble_eq_true rfl) (A_X6_behind hq3) (aw_istoreY rfl eX6_noteEarlier_24 (by decide) rfl (ls' := [some (aR 6 0), some (aI x1), some (aI x2), some (aI x3), some (aI x4_2), some (aI q3)]) rfl (aw_aload_n eX6_noteEarlier_26 rfl (aw_getf (k := 6) (f := 13) eX6_noteEarlier_27 tw_2_60 ⟨by decide, by decide⟩ (by decide) (v := aR 28 0) rfl (aw_iload eX6_noteEarlier_30 rfl (aw_aload_n eX6_noteEarlier_32 rfl (aw_getf (k := 6) (f := 13) eX6_noteEarlier_33 tw_2_60 ⟨by decide, by decide⟩ (by decide) (v := aR 28 0) rfl (aw_iload eX6_noteEarlier_36 rfl (aw_ialdK (n := 384) eX6_noteEarlier_38 rfl (by decide) hc4 (j := (Int32.toNatClampNeg x4_2)) rfl (aw_bipush eX6_noteEarlier_39 k_bipush_m9 (aw_icmp_eq eX6_noteEarlier_41 (fun c5 => ?_) (fun c5 => ?_))))))))))))))))))))))))
    · have h := ip c5 h
      obtain ⟨hc6, h⟩ := ck h
      obtain ⟨w7, ew7, h⟩ := lt_e h
      exact aw_iload eX6_noteEarlier_56 rfl (aw_goto eX6_noteEarlier_58 (aw_iastK (n := 384) eX6_noteEarlier_68 rfl (by decide) hc6 (j := (Int32.toNatClampNeg x4_2)) rfl (aw_wn ew7 (aw_vret eX6_noteEarlier_69 rfl (pV_i h)))))
    · have h := iq c5 h
      obtain ⟨hc8, h⟩ := ck h
      refine aw_iload eX6_noteEarlier_44 rfl (aw_aload_n eX6_noteEarlier_46 rfl (aw_getf (k := 6) (f := 13) eX6_noteEarlier_47 tw_2_60 ⟨by decide, by decide⟩ (by decide) (v := aR 28 0) rfl (aw_iload eX6_noteEarlier_50 rfl (aw_ialdK (n := 384) eX6_noteEarlier_52 rfl (by decide) hc8 (j := (Int32.toNatClampNeg x4_2)) rfl (aw_icmp_ge eX6_noteEarlier_53 (fun c9 => ?_) (fun c9 => ?_))))))
      · have h := ip c9 h
        obtain ⟨hc10, h⟩ := ck h
        obtain ⟨hc11, h⟩ := ck h
        obtain ⟨w12, ew12, h⟩ := lt_e h
        exact aw_aload_n eX6_noteEarlier_61 rfl (aw_getf (k := 6) (f := 13) eX6_noteEarlier_62 tw_2_60 ⟨by decide, by decide⟩ (by decide) (v := aR 28 0) rfl (aw_iload eX6_noteEarlier_65 rfl (aw_ialdK (n := 384) eX6_noteEarlier_67 rfl (by decide) hc10 (j := (Int32.toNatClampNeg x4_2)) rfl (aw_iastK (n := 384) eX6_noteEarlier_68 rfl (by decide) hc11 (j := (Int32.toNatClampNeg x4_2)) rfl (aw_wn ew12 (aw_vret eX6_noteEarlier_69 rfl (pV_i h)))))))
      · have h := iq c9 h
        obtain ⟨hc13, h⟩ := ck h
        obtain ⟨w14, ew14, h⟩ := lt_e h
        exact aw_iload eX6_noteEarlier_56 rfl (aw_goto eX6_noteEarlier_58 (aw_iastK (n := 384) eX6_noteEarlier_68 rfl (by decide) hc13 (j := (Int32.toNatClampNeg x4_2)) rfl (aw_wn ew14 (aw_vret eX6_noteEarlier_69 rfl (pV_i h)))))
