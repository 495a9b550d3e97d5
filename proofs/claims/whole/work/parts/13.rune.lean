def D_X5_isRowOfOpenWeddings_11 (w : Wd) : Nat → Int32 → Int32 → Int32 → Int32 → Option (Int32)
  | 0, _, _, _, _ => none
  | n + 1, x1, x2, x3, x4 => if x1 ≤ x4 then (some (1)) else ((D_X5_weddingInRow w x1 x2 x4).bind fun q3 => (D_X1_has w q3).bind fun q4 => if q4 = 0 then (some (0)) else (if ((x3 >>> (q3 &&& 31)) &&& (1 : Int32)) = 0 then (lt (x3 ||| ((1 : Int32) <<< (q3 &&& 31))) fun x3_7 => lt (x4 + 1) fun x4_8 => D_X5_isRowOfOpenWeddings_11 w n x1 x2 x3_7 x4_8) else (some (0))))
set_option maxHeartbeats 4000000 in
set_option maxRecDepth 100000 in
theorem A_X5_isRowOfOpenWeddings_11 {X : XS} {w : Wd} : ∀ (nn : Nat) {x1 : Int32} {x2 : Int32} {x3 : Int32} {x4 : Int32} {r : Int32}, D_X5_isRowOfOpenWeddings_11 w nn x1 x2 x3 x4 = some r → AW 2 X mX5_isRowOfOpenWeddings 11 [some (aR 5 0), some (aI x1), some (aI x2), some (aI x3), some (aI x4), none] [] w (PI r w) := by
  intro nn
  induction nn with
  | zero => intros; rename_i h; cases h
  | succ n ih =>
    intro x1 x2 x3 x4 r h
    rw [D_X5_isRowOfOpenWeddings_11] at h
    refine aw_iload eX5_isRowOfOpenWeddings_11 rfl (aw_iload_n eX5_isRowOfOpenWeddings_13 rfl (aw_icmp_ge eX5_isRowOfOpenWeddings_14 (fun c2 => ?_) (fun c2 => ?_)))
    · have h := ip c2 h
      exact aw_iconst eX5_isRowOfOpenWeddings_62 k_iconst_1 (aw_zret eX5_isRowOfOpenWeddings_63 rfl (by decide +kernel) (pI_p h))
    · have h := iq c2 h
      obtain ⟨q3, hq3, h⟩ := bd h
      obtain ⟨q4, hq4, h⟩ := bd h
      refine aw_iload_n eX5_isRowOfOpenWeddings_17 rfl (aw_iload_n eX5_isRowOfOpenWeddings_18 rfl (aw_iload eX5_isRowOfOpenWeddings_19 rfl (aw_callSI (N := mX5_weddingInRow) [aI x1, aI x2, aI x4] eX5_isRowOfOpenWeddings_21 tw_1_170 msX5_weddingInRow (by decide) rfl rfl (Nat.le_of_ble_eq_true rfl) (A_X5_weddingInRow hq3) (aw_istoreY rfl eX5_isRowOfOpenWeddings_24 (by decide) rfl (ls' := [some (aR 5 0), some (aI x1), some (aI x2), some (aI x3), some (aI x4), some (aI q3)]) rfl (aw_aload_n eX5_isRowOfOpenWeddings_26 rfl (aw_getf (k := 5) (f := 1) eX5_isRowOfOpenWeddings_27 tw_0_152 ⟨by decide, by decide⟩ (by decide) (v := aR 1 0) rfl (aw_iload eX5_isRowOfOpenWeddings_30 rfl (aw_callVI (N := mX1_has) [aI q3] eX5_isRowOfOpenWeddings_32 tw_1_20 miX1_has (by decide) (by decide) (by decide) rfl rfl (Nat.le_of_ble_eq_true rfl) (A_X1_has hq4) (aw_if_eq eX5_isRowOfOpenWeddings_35 (fun c5 => ?_) (fun c5 => ?_))))))))))
      · have h := ip c5 h
        exact aw_iconst eX5_isRowOfOpenWeddings_47 k_iconst_0 (aw_zret eX5_isRowOfOpenWeddings_48 rfl (by decide +kernel) (pI_p h))
      · have h := iq c5 h
        refine aw_iload_n eX5_isRowOfOpenWeddings_38 rfl (aw_iload eX5_isRowOfOpenWeddings_39 rfl (aw_ishr eX5_isRowOfOpenWeddings_41 (aw_iconst eX5_isRowOfOpenWeddings_42 k_iconst_1 (aw_iand eX5_isRowOfOpenWeddings_43 (aw_if_eq eX5_isRowOfOpenWeddings_44 (fun c6 => ?_) (fun c6 => ?_))))))
        · have h := ip c6 h
          obtain ⟨x3_7, ex3_7, h⟩ := lt_e h
          obtain ⟨x4_8, ex4_8, h⟩ := lt_e h
          refine aw_iload_n eX5_isRowOfOpenWeddings_49 rfl (aw_iconst eX5_isRowOfOpenWeddings_50 k_iconst_1 (aw_iload eX5_isRowOfOpenWeddings_51 rfl (aw_ishl eX5_isRowOfOpenWeddings_53 (aw_ior eX5_isRowOfOpenWeddings_54 (aw_istore_nY ex3_7 eX5_isRowOfOpenWeddings_55 (by decide) rfl (ls' := [some (aR 5 0), some (aI x1), some (aI x2), some (aI x3_7), some (aI x4), some (aI q3)]) rfl (aw_iincY (iinc_k k_iconst_1 ex4_8) eX5_isRowOfOpenWeddings_56 rfl (by decide) rfl (ls' := [some (aR 5 0), some (aI x1), some (aI x2), some (aI x3_7), some (aI x4_8), some (aI q3)]) rfl (aw_goto eX5_isRowOfOpenWeddings_59 ?_)))))))
          exact aw_sub (ls' := [some (aR 5 0), some (aI x1), some (aI x2), some (aI x3_7), some (aI x4_8), none]) ⟨rfl, ⟨rfl, ⟨rfl, ⟨rfl, ⟨rfl, trivial⟩⟩⟩⟩⟩ (ih h)
        · have h := iq c6 h
          exact aw_iconst eX5_isRowOfOpenWeddings_47 k_iconst_0 (aw_zret eX5_isRowOfOpenWeddings_48 rfl (by decide +kernel) (pI_p h))
def D_X5_isRowOfOpenWeddings (w : Wd) (x1 : Int32) (x2 : Int32) : Option (Int32) := lt (w.1 3 0 3) fun x3_1 => D_X5_isRowOfOpenWeddings_11 w fuelZ x1 x2 x3_1 0
set_option maxHeartbeats 4000000 in
set_option maxRecDepth 100000 in
theorem A_X5_isRowOfOpenWeddings {X : XS} {w : Wd} {x1 : Int32} {x2 : Int32} {r : Int32} (h : D_X5_isRowOfOpenWeddings w x1 x2 = some r) : AW 2 X mX5_isRowOfOpenWeddings 0 (entA 6 [aR 5 0, aI x1, aI x2]) [] w (PI r w) := by
  show AW _ _ _ _ [some (aR 5 0), some (aI x1), some (aI x2), none, none, none] _ _ _
  unfold D_X5_isRowOfOpenWeddings at h
  obtain ⟨x3_1, ex3_1, h⟩ := lt_e h
  refine aw_aload_n eX5_isRowOfOpenWeddings_0 rfl (aw_getf (k := 5) (f := 2) eX5_isRowOfOpenWeddings_1 tw_0_153 ⟨by decide, by decide⟩ (by decide) (v := aR 3 0) rfl (aw_getf (k := 3) (f := 3) eX5_isRowOfOpenWeddings_4 tw_0_75 ⟨by decide, by decide⟩ (by decide) (v := aI (w.1 3 0 3)) rfl (aw_istore_nY ex3_1 eX5_isRowOfOpenWeddings_7 (by decide) rfl (ls' := [some (aR 5 0), some (aI x1), some (aI x2), some (aI x3_1), none, none]) rfl (aw_iconst eX5_isRowOfOpenWeddings_8 k_iconst_0 (aw_istoreY rfl eX5_isRowOfOpenWeddings_9 (by decide) rfl (ls' := [some (aR 5 0), some (aI x1), some (aI x2), some (aI x3_1), some (aI 0), none]) rfl ?_)))))
  exact A_X5_isRowOfOpenWeddings_11 fuelZ h
def D_X5_weightOfFalls_53 (w : Wd) (k15 : Int32 → Int32 → Int32 → Int32 → Int32 → Int32 → Int32 → Option (Int32)) (x1 : Int32) (x2 : Int32) (x3 : Int32) (x4 : Int32) (x5 : Int32) (x6 : Int32) (x7 : Int32) (x8 : Int32) (s0 : Int32) : Option (Int32) := (D_X3_hoursBetween w 0 x6 x8).bind fun q6 => if q6 ≤ 0 then (if s0 = 0 then (lt (x5 * (10 : Int32)) fun x5_9 => lt (x7 + 1) fun x7_10 => k15 x1 x2 x3 x4 x5_9 x8 x7_10) else (lt (x5 * (0 : Int32)) fun x5_11 => lt (x7 + 1) fun x7_12 => k15 x1 x2 x3 x4 x5_11 x8 x7_12)) else (if s0 = 0 then (lt (x5 * ((10 : Int32) - x3)) fun x5_14 => lt (x7 + 1) fun x7_15 => k15 x1 x2 x3 x4 x5_14 x8 x7_15) else (lt (x5 * x3) fun x5_16 => lt (x7 + 1) fun x7_17 => k15 x1 x2 x3 x4 x5_16 x8 x7_17))
set_option maxHeartbeats 4000000 in
set_option maxRecDepth 100000 in
theorem A_X5_weightOfFalls_53 {X : XS} {w : Wd} {k15 : Int32 → Int32 → Int32 → Int32 → Int32 → Int32 → Int32 → Option (Int32)} (hk15 : ∀ {x1 : Int32} {x2 : Int32} {x3 : Int32} {x4 : Int32} {x5 : Int32} {x6 : Int32} {x7 : Int32} {r : Int32}, k15 x1 x2 x3 x4 x5 x6 x7 = some r → AW 2 X mX5_weightOfFalls 15 [some (aR 5 0), some (aI x1), some (aI x2), some (aI x3), some (aI x4), some (aI x5), some (aI x6), some (aI x7), none, none] [] w (PI r w)) {x1 : Int32} {x2 : Int32} {x3 : Int32} {x4 : Int32} {x5 : Int32} {x6 : Int32} {x7 : Int32} {x8 : Int32} {s0 : Int32} {r : Int32} (h : D_X5_weightOfFalls_53 w k15 x1 x2 x3 x4 x5 x6 x7 x8 s0 = some r) : AW 2 X mX5_weightOfFalls 53 [some (aR 5 0), some (aI x1), some (aI x2), some (aI x3), some (aI x4), some (aI x5), some (aI x6), some (aI x7), some (aI x8), none] [aI s0] w (PI r w) := by
  unfold D_X5_weightOfFalls_53 at h
  obtain ⟨q6, hq6, h⟩ := bd h
  refine aw_istoreY rfl eX5_weightOfFalls_53 (by decide) rfl (ls' := [some (aR 5 0), some (aI x1), some (aI x2), some (aI x3), some (aI x4), some (aI x5), some (aI x6), some (aI x7), some (aI x8), some (aI s0)]) rfl (aw_aload_n eX5_weightOfFalls_55 rfl (aw_getf (k := 5) (f := 2) eX5_weightOfFalls_56 tw_0_153 ⟨by decide, by decide⟩ (by decide) (v := aR 3 0) rfl (aw_iload eX5_weightOfFalls_59 rfl (aw_iload eX5_weightOfFalls_61 rfl (aw_callVI (N := mX3_hoursBetween) [aI x6, aI x8] eX5_weightOfFalls_63 tw_1_64 miX3_hoursBetween (by decide) (by decide) (by decide) rfl rfl (Nat.le_of_ble_eq_true rfl) (A_X3_hoursBetween hq6) (aw_if_le eX5_weightOfFalls_66 (fun c7 => ?_) (fun c7 => ?_)))))))
  · have h := ip c7 h
    refine aw_iload eX5_weightOfFalls_90 rfl (aw_iload eX5_weightOfFalls_92 rfl (aw_if_eq eX5_weightOfFalls_94 (fun c8 => ?_) (fun c8 => ?_)))
    · have h := ip c8 h
      obtain ⟨x5_9, ex5_9, h⟩ := lt_e h
      obtain ⟨x7_10, ex7_10, h⟩ := lt_e h
      refine aw_bipush eX5_weightOfFalls_101 k_bipush_10 (aw_imul eX5_weightOfFalls_103 (aw_istoreY ex5_9 eX5_weightOfFalls_104 (by decide) rfl (ls' := [some (aR 5 0), some (aI x1), some (aI x2), some (aI x3), some (aI x4), some (aI x5_9), some (aI x6), some (aI x7), some (aI x8), some (aI s0)]) rfl (aw_iload eX5_weightOfFalls_106 rfl (aw_istoreY rfl eX5_weightOfFalls_108 (by decide) rfl (ls' := [some (aR 5 0), some (aI x1), some (aI x2), some (aI x3), some (aI x4), some (aI x5_9), some (aI x8), some (aI x7), some (aI x8), some (aI s0)]) rfl (aw_iincY (iinc_k k_iconst_1 ex7_10) eX5_weightOfFalls_110 rfl (by decide) rfl (ls' := [some (aR 5 0), some (aI x1), some (aI x2), some (aI x3), some (aI x4), some (aI x5_9), some (aI x8), some (aI x7_10), some (aI x8), some (aI s0)]) rfl (aw_goto eX5_weightOfFalls_113 ?_))))))
      exact aw_sub (ls' := [some (aR 5 0), some (aI x1), some (aI x2), some (aI x3), some (aI x4), some (aI x5_9), some (aI x8), some (aI x7_10), none, none]) ⟨rfl, ⟨rfl, ⟨rfl, ⟨rfl, ⟨rfl, ⟨rfl, ⟨rfl, ⟨rfl, trivial⟩⟩⟩⟩⟩⟩⟩⟩ (hk15 h)
    · have h := iq c8 h
      obtain ⟨x5_11, ex5_11, h⟩ := lt_e h
      obtain ⟨x7_12, ex7_12, h⟩ := lt_e h
      refine aw_iconst eX5_weightOfFalls_97 k_iconst_0 (aw_goto eX5_weightOfFalls_98 (aw_imul eX5_weightOfFalls_103 (aw_istoreY ex5_11 eX5_weightOfFalls_104 (by decide) rfl (ls' := [some (aR 5 0), some (aI x1), some (aI x2), some (aI x3), some (aI x4), some (aI x5_11), some (aI x6), some (aI x7), some (aI x8), some (aI s0)]) rfl (aw_iload eX5_weightOfFalls_106 rfl (aw_istoreY rfl eX5_weightOfFalls_108 (by decide) rfl (ls' := [some (aR 5 0), some (aI x1), some (aI x2), some (aI x3), some (aI x4), some (aI x5_11), some (aI x8), some (aI x7), some (aI x8), some (aI s0)]) rfl (aw_iincY (iinc_k k_iconst_1 ex7_12) eX5_weightOfFalls_110 rfl (by decide) rfl (ls' := [some (aR 5 0), some (aI x1), some (aI x2), some (aI x3), some (aI x4), some (aI x5_11), some (aI x8), some (aI x7_12), some (aI x8), some (aI s0)]) rfl (aw_goto eX5_weightOfFalls_113 ?_)))))))
      exact aw_sub (ls' := [some (aR 5 0), some (aI x1), some (aI x2), some (aI x3), some (aI x4), some (aI x5_11), some (aI x8), some (aI x7_12), none, none]) ⟨rfl, ⟨rfl, ⟨rfl, ⟨rfl, ⟨rfl, ⟨rfl, ⟨rfl, ⟨rfl, trivial⟩⟩⟩⟩⟩⟩⟩⟩ (hk15 h)
  · have h := iq c7 h
    refine aw_iload eX5_weightOfFalls_69 rfl (aw_iload eX5_weightOfFalls_71 rfl (aw_if_eq eX5_weightOfFalls_73 (fun c13 => ?_) (fun c13 => ?_)))
    · have h := ip c13 h
      obtain ⟨x5_14, ex5_14, h⟩ := lt_e h
      obtain ⟨x7_15, ex7_15, h⟩ := lt_e h
      refine aw_bipush eX5_weightOfFalls_80 k_bipush_10 (aw_iload_n eX5_weightOfFalls_82 rfl (aw_isub eX5_weightOfFalls_83 (aw_imul eX5_weightOfFalls_84 (aw_istoreY ex5_14 eX5_weightOfFalls_85 (by decide) rfl (ls' := [some (aR 5 0), some (aI x1), some (aI x2), some (aI x3), some (aI x4), some (aI x5_14), some (aI x6), some (aI x7), some (aI x8), some (aI s0)]) rfl (aw_goto eX5_weightOfFalls_87 (aw_iload eX5_weightOfFalls_106 rfl (aw_istoreY rfl eX5_weightOfFalls_108 (by decide) rfl (ls' := [some (aR 5 0), some (aI x1), some (aI x2), some (aI x3), some (aI x4), some (aI x5_14), some (aI x8), some (aI x7), some (aI x8), some (aI s0)]) rfl (aw_iincY (iinc_k k_iconst_1 ex7_15) eX5_weightOfFalls_110 rfl (by decide) rfl (ls' := [some (aR 5 0), some (aI x1), some (aI x2), some (aI x3), some (aI x4), some (aI x5_14), some (aI x8), some (aI x7_15), some (aI x8), some (aI s0)]) rfl (aw_goto eX5_weightOfFalls_113 ?_)))))))))
      exact aw_sub (ls' := [some (aR 5 0), some (aI x1), some (aI x2), some (aI x3), some (aI x4), some (aI x5_14), some (aI x8), some (aI x7_15), none, none]) ⟨rfl, ⟨rfl, ⟨rfl, ⟨rfl, ⟨rfl, ⟨rfl, ⟨rfl, ⟨rfl, trivial⟩⟩⟩⟩⟩⟩⟩⟩ (hk15 h)
    · have h := iq c13 h
      obtain ⟨x5_16, ex5_16, h⟩ := lt_e h
      obtain ⟨x7_17, ex7_17, h⟩ := lt_e h
      refine aw_iload_n eX5_weightOfFalls_76 rfl (aw_goto eX5_weightOfFalls_77 (aw_imul eX5_weightOfFalls_84 (aw_istoreY ex5_16 eX5_weightOfFalls_85 (by decide) rfl (ls' := [some (aR 5 0), some (aI x1), some (aI x2), some (aI x3), some (aI x4), some (aI x5_16), some (aI x6), some (aI x7), some (aI x8), some (aI s0)]) rfl (aw_goto eX5_weightOfFalls_87 (aw_iload eX5_weightOfFalls_106 rfl (aw_istoreY rfl eX5_weightOfFalls_108 (by decide) rfl (ls' := [some (aR 5 0), some (aI x1), some (aI x2), some (aI x3), some (aI x4), some (aI x5_16), some (aI x8), some (aI x7), some (aI x8), some (aI s0)]) rfl (aw_iincY (iinc_k k_iconst_1 ex7_17) eX5_weightOfFalls_110 rfl (by decide) rfl (ls' := [some (aR 5 0), some (aI x1), some (aI x2), some (aI x3), some (aI x4), some (aI x5_16), some (aI x8), some (aI x7_17), some (aI x8), some (aI s0)]) rfl (aw_goto eX5_weightOfFalls_113 ?_))))))))
      exact aw_sub (ls' := [some (aR 5 0), some (aI x1), some (aI x2), some (aI x3), some (aI x4), some (aI x5_16), some (aI x8), some (aI x7_17), none, none]) ⟨rfl, ⟨rfl, ⟨rfl, ⟨rfl, ⟨rfl, ⟨rfl, ⟨rfl, ⟨rfl, trivial⟩⟩⟩⟩⟩⟩⟩⟩ (hk15 h)
def D_X5_weightOfFalls_15 (w : Wd) : Nat → Int32 → Int32 → Int32 → Int32 → Int32 → Int32 → Int32 → Option (Int32)
  | 0, _, _, _, _, _, _, _ => none
  | n + 1, x1, x2, x3, x4, x5, x6, x7 => if x1 ≤ x7 then (some (x5)) else ((D_X5_weddingInRow w x1 x2 x7).bind fun q3 => (D_X1_figure w q3 0).bind fun q4 => if ((x4 >>> (x7 &&& 31)) &&& (1 : Int32)) = 0 then (D_X5_weightOfFalls_53 w (fun y0 y1 y2 y3 y4 y5 y6 => D_X5_weightOfFalls_15 w n y0 y1 y2 y3 y4 y5 y6) x1 x2 x3 x4 x5 x6 x7 q4 0) else (D_X5_weightOfFalls_53 w (fun y0 y1 y2 y3 y4 y5 y6 => D_X5_weightOfFalls_15 w n y0 y1 y2 y3 y4 y5 y6) x1 x2 x3 x4 x5 x6 x7 q4 1))
set_option maxHeartbeats 4000000 in
set_option maxRecDepth 100000 in
theorem A_X5_weightOfFalls_15 {X : XS} {w : Wd} : ∀ (nn : Nat) {x1 : Int32} {x2 : Int32} {x3 : Int32} {x4 : Int32} {x5 : Int32} {x6 : Int32} {x7 : Int32} {r : Int32}, D_X5_weightOfFalls_15 w nn x1 x2 x3 x4 x5 x6 x7 = some r → AW 2 X mX5_weightOfFalls 15 [some (aR 5 0), some (aI x1), some (aI x2), some (aI x3), some (aI x4), some (aI x5), some (aI x6), some (aI x7), none, none] [] w (PI r w) := by
  intro nn
  induction nn with
  | zero => intros; rename_i h; cases h
  | succ n ih =>
    intro x1 x2 x3 x4 x5 x6 x7 r h
    rw [D_X5_weightOfFalls_15] at h
    refine aw_iload eX5_weightOfFalls_15 rfl (aw_iload_n eX5_weightOfFalls_17 rfl (aw_icmp_ge eX5_weightOfFalls_18 (fun c2 => ?_) (fun c2 => ?_)))
    · have h := ip c2 h
      exact aw_iload eX5_weightOfFalls_116 rfl (aw_iret eX5_weightOfFalls_118 rfl (pI_p h))
    · have h := iq c2 h
      obtain ⟨q3, hq3, h⟩ := bd h
      obtain ⟨q4, hq4, h⟩ := bd h
      refine aw_aload_n eX5_weightOfFalls_21 rfl (aw_getf (k := 5) (f := 1) eX5_weightOfFalls_22 tw_0_152 ⟨by decide, by decide⟩ (by decide) (v := aR 1 0) rfl (aw_iload_n eX5_weightOfFalls_25 rfl (aw_iload_n eX5_weightOfFalls_26 rfl (aw_iload eX5_weightOfFalls_27 rfl (aw_callSI (N := mX5_weddingInRow) [aI x1, aI x2, aI x7] eX5_weightOfFalls_29 tw_1_170 msX5_weddingInRow (by decide) rfl rfl (Nat.le_of_ble_eq_true rfl) (A_X5_weddingInRow hq3) (aw_iconst eX5_weightOfFalls_32 k_iconst_0 (aw_callVI (N := mX1_figure) [aI q3, aI 0] eX5_weightOfFalls_33 tw_1_24 miX1_figure (by decide) (by decide) (by decide) rfl rfl (Nat.le_of_ble_eq_true rfl) (A_X1_figure hq4) (aw_istoreY rfl eX5_weightOfFalls_36 (by decide) rfl (ls' := [some (aR 5 0), some (aI x1), some (aI x2), some (aI x3), some (aI x4), some (aI x5), some (aI x6), some (aI x7), some (aI q4), none]) rfl (aw_iload eX5_weightOfFalls_38 rfl (aw_iload eX5_weightOfFalls_40 rfl (aw_ishr eX5_weightOfFalls_42 (aw_iconst eX5_weightOfFalls_43 k_iconst_1 (aw_iand eX5_weightOfFalls_44 (aw_if_eq eX5_weightOfFalls_45 (fun c5 => ?_) (fun c5 => ?_)))))))))))))))
      · have h := ip c5 h
        refine aw_iconst eX5_weightOfFalls_52 k_iconst_0 ?_
        exact A_X5_weightOfFalls_53 (fun h => ih h) h
      · have h := iq c5 h
        refine aw_iconst eX5_weightOfFalls_48 k_iconst_1 (aw_goto eX5_weightOfFalls_49 ?_)
        exact A_X5_weightOfFalls_53 (fun h => ih h) h
def D_X5_weightOfFalls (w : Wd) (x1 : Int32) (x2 : Int32) (x3 : Int32) (x4 : Int32) : Option (Int32) := lt (w.1 3 0 2) fun x6_1 => D_X5_weightOfFalls_15 w fuelZ x1 x2 x3 x4 1 x6_1 0
set_option maxHeartbeats 4000000 in
set_option maxRecDepth 100000 in
theorem A_X5_weightOfFalls {X : XS} {w : Wd} {x1 : Int32} {x2 : Int32} {x3 : Int32} {x4 : Int32} {r : Int32} (h : D_X5_weightOfFalls w x1 x2 x3 x4 = some r) : AW 2 X mX5_weightOfFalls 0 (entA 10 [aR 5 0, aI x1, aI x2, aI x3, aI x4]) [] w (PI r w) := by
  show AW _ _ _ _ [some (aR 5 0), some (aI x1), some (aI x2), some (aI x3), some (aI x4), none, none, none, none, none] _ _ _
  unfold D_X5_weightOfFalls at h
  obtain ⟨x6_1, ex6_1, h⟩ := lt_e h
  refine aw_iconst eX5_weightOfFalls_0 k_iconst_1 (aw_istoreY rfl eX5_weightOfFalls_1 (by decide) rfl (ls' := [some (aR 5 0), some (aI x1), some (aI x2), some (aI x3), some (aI x4), some (aI 1), none, none, none, none]) rfl (aw_aload_n eX5_weightOfFalls_3 rfl (aw_getf (k := 5) (f := 2) eX5_weightOfFalls_4 tw_0_153 ⟨by decide, by decide⟩ (by decide) (v := aR 3 0) rfl (aw_getf (k := 3) (f := 2) eX5_weightOfFalls_7 tw_0_71 ⟨by decide, by decide⟩ (by decide) (v := aI (w.1 3 0 2)) rfl (aw_istoreY ex6_1 eX5_weightOfFalls_10 (by decide) rfl (ls' := [some (aR 5 0), some (aI x1), some (aI x2), some (aI x3), some (aI x4), some (aI 1), some (aI x6_1), none, none, none]) rfl (aw_iconst eX5_weightOfFalls_12 k_iconst_0 (aw_istoreY rfl eX5_weightOfFalls_13 (by decide) rfl (ls' := [some (aR 5 0), some (aI x1), some (aI x2), some (aI x3), some (aI x4), some (aI 1), some (aI x6_1), some (aI 0), none, none]) rfl ?_)))))))
  exact A_X5_weightOfFalls_15 fuelZ h
def D_X5_falls_39 : Nat → Int32 → Int32 → Int32 → Int32 → Int32 → Int32 → Wd → Option (Int32 × Wd)
  | 0, _, _, _, _, _, _, _ => none
  | n + 1, x1, x2, x3, x4, x5, x6, w => if ((1 : Int32) <<< (x1 &&& 31)) ≤ x6 then ((D_X5_at w 40 0 x1).bind fun q8 => (D_X5_fraction x5 q8 x4).bind fun q9 => some (q9, w)) else ((D_X5_weightOfFalls w x1 x2 x3 x6).bind fun q10 => if q10 ≤ 0 then (lt (x6 + 1) fun x6_12 => D_X5_falls_39 n x1 x2 x3 x4 x5 x6_12 w) else ((D_X5_holdsWithFalls w x1 x2 x6).bind fun q13 => if q13.1 = 0 then (lt (x6 + 1) fun x6_15 => D_X5_falls_39 n x1 x2 x3 x4 x5 x6_15 q13.2) else (lt (x5 + q10) fun x5_16 => lt (x6 + 1) fun x6_17 => D_X5_falls_39 n x1 x2 x3 x4 x5_16 x6_17 q13.2)))
set_option maxHeartbeats 4000000 in
set_option maxRecDepth 100000 in
theorem A_X5_falls_39 {X : XS} : ∀ (nn : Nat) {x1 : Int32} {x2 : Int32} {x3 : Int32} {x4 : Int32} {x5 : Int32} {x6 : Int32} {w : Wd} {r : Int32 × Wd}, D_X5_falls_39 nn x1 x2 x3 x4 x5 x6 w = some r → AW 5 X mX5_falls 39 [some (aR 5 0), some (aI x1), some (aI x2), some (aI x3), some (aI x4), some (aI x5), some (aI x6), none] [] w (PI r.1 r.2) := by
  intro nn
  induction nn with
  | zero => intros; rename_i h; cases h
  | succ n ih =>
    intro x1 x2 x3 x4 x5 x6 w r h
    rw [D_X5_falls_39] at h
    refine aw_iload eX5_falls_39 rfl (aw_iconst eX5_falls_41 k_iconst_1 (aw_iload_n eX5_falls_42 rfl (aw_ishl eX5_falls_43 (aw_icmp_ge eX5_falls_44 (fun c7 => ?_) (fun c7 => ?_)))))
    · have h := ip c7 h
      obtain ⟨q8, hq8, h⟩ := bd h
      obtain ⟨q9, hq9, h⟩ := bd h
      exact aw_iload eX5_falls_87 rfl (aw_getsT eX5_falls_89 tw_1_168 (aw_iload_n eX5_falls_92 rfl (aw_callSI (N := mX5_at) [aR 40 0, aI x1] eX5_falls_93 tw_1_56 msX5_at (by decide) rfl rfl (Nat.le_of_ble_eq_true rfl) (A_X5_at hq8) (aw_iload eX5_falls_96 rfl (aw_callSI (N := mX5_fraction) [aI x5, aI q8, aI x4] eX5_falls_98 tw_1_204 msX5_fraction (by decide) rfl rfl (Nat.le_of_ble_eq_true rfl) (A_X5_fraction hq9) (aw_iret eX5_falls_101 rfl (pI_i h)))))))
    · have h := iq c7 h
      obtain ⟨q10, hq10, h⟩ := bd h
      refine aw_aload_n eX5_falls_47 rfl (aw_iload_n eX5_falls_48 rfl (aw_iload_n eX5_falls_49 rfl (aw_iload_n eX5_falls_50 rfl (aw_iload eX5_falls_51 rfl (aw_callVI (N := mX5_weightOfFalls) [aI x1, aI x2, aI x3, aI x6] eX5_falls_53 tw_2_3 miX5_weightOfFalls (by decide) (by decide) (by decide) rfl rfl (Nat.le_of_ble_eq_true rfl) (A_X5_weightOfFalls hq10) (aw_istoreY rfl eX5_falls_56 (by decide) rfl (ls' := [some (aR 5 0), some (aI x1), some (aI x2), some (aI x3), some (aI x4), some (aI x5), some (aI x6), some (aI q10)]) rfl (aw_iload eX5_falls_58 rfl (aw_if_le eX5_falls_60 (fun c11 => ?_) (fun c11 => ?_)))))))))
      · have h := ip c11 h
        obtain ⟨x6_12, ex6_12, h⟩ := lt_e h
        refine aw_iincY (iinc_k k_iconst_1 ex6_12) eX5_falls_81 rfl (by decide) rfl (ls' := [some (aR 5 0), some (aI x1), some (aI x2), some (aI x3), some (aI x4), some (aI x5), some (aI x6_12), some (aI q10)]) rfl (aw_goto eX5_falls_84 ?_)
        exact aw_sub (ls' := [some (aR 5 0), some (aI x1), some (aI x2), some (aI x3), some (aI x4), some (aI x5), some (aI x6_12), none]) ⟨rfl, ⟨rfl, ⟨rfl, ⟨rfl, ⟨rfl, ⟨rfl, ⟨rfl, trivial⟩⟩⟩⟩⟩⟩⟩ (ih h)
      · have h := iq c11 h
        obtain ⟨q13, hq13, h⟩ := bd h
        refine aw_aload_n eX5_falls_63 rfl (aw_iload_n eX5_falls_64 rfl (aw_iload_n eX5_falls_65 rfl (aw_iload eX5_falls_66 rfl (aw_callVI (N := mX5_holdsWithFalls) [aI x1, aI x2, aI x6] eX5_falls_68 tw_2_7 miX5_holdsWithFalls (by decide) (by decide) (by decide) rfl rfl (Nat.le_of_ble_eq_true rfl) (A_X5_holdsWithFalls hq13) (aw_if_eq eX5_falls_71 (fun c14 => ?_) (fun c14 => ?_))))))
        · have h := ip c14 h
          obtain ⟨x6_15, ex6_15, h⟩ := lt_e h
          refine aw_iincY (iinc_k k_iconst_1 ex6_15) eX5_falls_81 rfl (by decide) rfl (ls' := [some (aR 5 0), some (aI x1), some (aI x2), some (aI x3), some (aI x4), some (aI x5), some (aI x6_15), some (aI q10)]) rfl (aw_goto eX5_falls_84 ?_)
          exact aw_sub (ls' := [some (aR 5 0), some (aI x1), some (aI x2), some (aI x3), some (aI x4), some (aI x5), some (aI x6_15), none]) ⟨rfl, ⟨rfl, ⟨rfl, ⟨rfl, ⟨rfl, ⟨rfl, ⟨rfl, trivial⟩⟩⟩⟩⟩⟩⟩ (ih h)
        · have h := iq c14 h
          obtain ⟨x5_16, ex5_16, h⟩ := lt_e h
          obtain ⟨x6_17, ex6_17, h⟩ := lt_e h
          refine aw_iload eX5_falls_74 rfl (aw_iload eX5_falls_76 rfl (aw_iadd eX5_falls_78 (aw_istoreY ex5_16 eX5_falls_79 (by decide) rfl (ls' := [some (aR 5 0), some (aI x1), some (aI x2), some (aI x3), some (aI x4), some (aI x5_16), some (aI x6), some (aI q10)]) rfl (aw_iincY (iinc_k k_iconst_1 ex6_17) eX5_falls_81 rfl (by decide) rfl (ls' := [some (aR 5 0), some (aI x1), some (aI x2), some (aI x3), some (aI x4), some (aI x5_16), some (aI x6_17), some (aI q10)]) rfl (aw_goto eX5_falls_84 ?_)))))
          exact aw_sub (ls' := [some (aR 5 0), some (aI x1), some (aI x2), some (aI x3), some (aI x4), some (aI x5_16), some (aI x6_17), none]) ⟨rfl, ⟨rfl, ⟨rfl, ⟨rfl, ⟨rfl, ⟨rfl, ⟨rfl, trivial⟩⟩⟩⟩⟩⟩⟩ (ih h)
def D_X5_falls (w : Wd) (x1 : Int32) (x2 : Int32) (x3 : Int32) (x4 : Int32) : Option (Int32 × Wd) := (D_X5_isRow w x1 x2).bind fun q1 => if q1 = 0 then (some ((-2), w)) else (if x3 < 0 then (some ((-2), w)) else (if x3 ≤ 10 then ((D_X5_isRowOfOpenWeddings w x1 x2).bind fun q5 => if q5 = 0 then (some ((-3), w)) else (D_X5_falls_39 fuelZ x1 x2 x3 x4 0 0 w)) else (some ((-2), w))))
set_option maxHeartbeats 4000000 in
set_option maxRecDepth 100000 in
theorem A_X5_falls {X : XS} {w : Wd} {x1 : Int32} {x2 : Int32} {x3 : Int32} {x4 : Int32} {r : Int32 × Wd} (h : D_X5_falls w x1 x2 x3 x4 = some r) : AW 5 X mX5_falls 0 (entA 8 [aR 5 0, aI x1, aI x2, aI x3, aI x4]) [] w (PI r.1 r.2) := by
  show AW _ _ _ _ [some (aR 5 0), some (aI x1), some (aI x2), some (aI x3), some (aI x4), none, none, none] _ _ _
  unfold D_X5_falls at h
  obtain ⟨q1, hq1, h⟩ := bd h
  refine aw_iload_n eX5_falls_0 rfl (aw_iload_n eX5_falls_1 rfl (aw_callSI (N := mX5_isRow) [aI x1, aI x2] eX5_falls_2 tw_1_165 msX5_isRow (by decide) rfl rfl (Nat.le_of_ble_eq_true rfl) (A_X5_isRow hq1) (aw_if_eq eX5_falls_5 (fun c2 => ?_) (fun c2 => ?_))))
  · have h := ip c2 h
    exact aw_bipush eX5_falls_18 k_bipush_m2 (aw_iret eX5_falls_20 rfl (pI_i h))
  · have h := iq c2 h
    refine aw_iload_n eX5_falls_8 rfl (aw_if_lt eX5_falls_9 (fun c3 => ?_) (fun c3 => ?_))
    · have h := ip c3 h
      exact aw_bipush eX5_falls_18 k_bipush_m2 (aw_iret eX5_falls_20 rfl (pI_i h))
    · have h := iq c3 h
      refine aw_iload_n eX5_falls_12 rfl (aw_bipush eX5_falls_13 k_bipush_10 (aw_icmp_le eX5_falls_15 (fun c4 => ?_) (fun c4 => ?_)))
      · have h := ip c4 h
        obtain ⟨q5, hq5, h⟩ := bd h
        refine aw_aload_n eX5_falls_21 rfl (aw_iload_n eX5_falls_22 rfl (aw_iload_n eX5_falls_23 rfl (aw_callVI (N := mX5_isRowOfOpenWeddings) [aI x1, aI x2] eX5_falls_24 tw_1_239 miX5_isRowOfOpenWeddings (by decide) (by decide) (by decide) rfl rfl (Nat.le_of_ble_eq_true rfl) (A_X5_isRowOfOpenWeddings hq5) (aw_if_ne eX5_falls_27 (fun c6 => ?_) (fun c6 => ?_)))))
        · have h := iq c6 h
          refine aw_iconst eX5_falls_33 k_iconst_0 (aw_istoreY rfl eX5_falls_34 (by decide) rfl (ls' := [some (aR 5 0), some (aI x1), some (aI x2), some (aI x3), some (aI x4), some (aI 0), none, none]) rfl (aw_iconst eX5_falls_36 k_iconst_0 (aw_istoreY rfl eX5_falls_37 (by decide) rfl (ls' := [some (aR 5 0), some (aI x1), some (aI x2), some (aI x3), some (aI x4), some (aI 0), some (aI 0), none]) rfl ?_)))
          exact A_X5_falls_39 fuelZ h
        · have h := ip c6 h
          exact aw_bipush eX5_falls_30 k_bipush_m3 (aw_iret eX5_falls_32 rfl (pI_i h))
      · have h := iq c4 h
        exact aw_bipush eX5_falls_18 k_bipush_m2 (aw_iret eX5_falls_20 rfl (pI_i h))
def D_X5_seed (w : Wd) (x1 : Int64) : Option (Int64 × Wd) := lt (w.2 5) fun x3_1 => lt (wL w 5 x1) fun w2 => some (x3_1, w2)
set_option maxHeartbeats 4000000 in
set_option maxRecDepth 100000 in
theorem A_X5_seed {X : XS} {w : Wd} {x1 : Int64} {r : Int64 × Wd} (h : D_X5_seed w x1 = some r) : AW 0 X mX5_seed 0 (entA 5 [aR 5 0, aL x1]) [] w (PL r.1 r.2) := by
  show AW _ _ _ _ [some (aR 5 0), some (aL x1), none, none, none] _ _ _
  unfold D_X5_seed at h
  obtain ⟨x3_1, ex3_1, h⟩ := lt_e h
  obtain ⟨w2, ew2, h⟩ := lt_e h
  exact aw_aload_n eX5_seed_0 rfl (aw_getf (k := 5) (f := 12) eX5_seed_1 tw_0_163 ⟨by decide, by decide⟩ (by decide) (v := aL (w.2 5)) rfl (aw_lstore_nY ex3_1 eX5_seed_4 (by decide) rfl (ls' := [some (aR 5 0), some (aL x1), none, some (aL x3_1), none]) rfl (aw_aload_n eX5_seed_5 rfl (aw_lload_n eX5_seed_6 rfl (aw_putL eX5_seed_7 tw_0_163 (k := 5) (f := 12) ⟨by decide, by decide, rfl⟩ putL_5 (aw_wn ew2 (aw_lload_n eX5_seed_10 rfl (aw_lret eX5_seed_11 rfl (pL_i h)))))))))
def D_X5_summers_29 : Nat → Int32 → Int32 → Int32 → Wd → Option (Int32 × Wd)
  | 0, _, _, _, _ => none
  | n + 1, x1, x2, x3, w => if x1 ≤ x3 then (some (x2, w)) else (lt (wL w 5 (((w.2 5) * (6364136223846793005 : Int64)) + (1442695040888963407 : Int64))) fun w5 => lt ((Int64.toInt32 ((Int64.toUInt64 (w5.2 5) >>> (Int64.toUInt64 (Int32.toInt64 (33 : Int32)) &&& Int64.toUInt64 63)).toInt64)) &&& (7 : Int32)) fun x4_6 => if 6 ≤ x4_6 then (if x4_6 = 6 then (lt (wS w5 3 1 1 ((w5.1 3 1 1) + (1 : Int32))) fun w12 => lt (x3 + 1) fun x3_13 => D_X5_summers_29 n x1 x2 x3_13 w12) else (lt (wS w5 3 1 1 0) fun w9 => lt (wS w9 3 1 3 0) fun w10 => lt (x3 + 1) fun x3_11 => D_X5_summers_29 n x1 x2 x3_11 w10)) else ((D_X1_celebrate w5 1 x4_6).bind fun q14 => if q14.1 = 0 then (lt (x2 + (0 : Int32)) fun x2_16 => lt (x3 + 1) fun x3_17 => D_X5_summers_29 n x1 x2_16 x3_17 q14.2) else (lt (x2 + (1 : Int32)) fun x2_18 => lt (x3 + 1) fun x3_19 => D_X5_summers_29 n x1 x2_18 x3_19 q14.2)))
set_option maxHeartbeats 4000000 in
set_option maxRecDepth 100000 in
theorem A_X5_summers_29 {X : XS} : ∀ (nn : Nat) {x1 : Int32} {x2 : Int32} {x3 : Int32} {w : Wd} {r : Int32 × Wd}, D_X5_summers_29 nn x1 x2 x3 w = some r → AW 4 X mX5_summers 29 [some (aR 5 0), some (aI x1), some (aI x2), some (aI x3), none] [] w (PI r.1 r.2) := by
  intro nn
  induction nn with
  | zero => intros; rename_i h; cases h
  | succ n ih =>
    intro x1 x2 x3 w r h
    rw [D_X5_summers_29] at h
    refine aw_iload_n eX5_summers_29 rfl (aw_iload_n eX5_summers_30 rfl (aw_icmp_ge eX5_summers_31 (fun c4 => ?_) (fun c4 => ?_)))
    · have h := ip c4 h
      exact aw_iload_n eX5_summers_142 rfl (aw_iret eX5_summers_143 rfl (pI_i h))
    · have h := iq c4 h
      obtain ⟨w5, ew5, h⟩ := lt_e h
      obtain ⟨x4_6, ex4_6, h⟩ := lt_e h
      refine aw_aload_n eX5_summers_34 rfl (aw_aload_n eX5_summers_35 rfl (aw_getf (k := 5) (f := 12) eX5_summers_36 tw_0_163 ⟨by decide, by decide⟩ (by decide) (v := aL (w.2 5)) rfl (aw_ldc2 eX5_summers_39 tw_2_19 (aw_lmul eX5_summers_42 (aw_ldc2 eX5_summers_43 tw_2_20 (aw_ladd eX5_summers_46 (aw_putL eX5_summers_47 tw_0_163 (k := 5) (f := 12) ⟨by decide, by decide, rfl⟩ putL_5 (aw_wn ew5 (aw_aload_n eX5_summers_50 rfl (aw_getf (k := 5) (f := 12) eX5_summers_51 tw_0_163 ⟨by decide, by decide⟩ (by decide) (v := aL (w5.2 5)) rfl (aw_bipush eX5_summers_54 k_bipush_33 (aw_lushr eX5_summers_56 (aw_l2i eX5_summers_57 (aw_bipush eX5_summers_58 k_bipush_7 (aw_iand eX5_summers_60 (aw_istoreY ex4_6 eX5_summers_61 (by decide) rfl (ls' := [some (aR 5 0), some (aI x1), some (aI x2), some (aI x3), some (aI x4_6)]) rfl (aw_iload eX5_summers_63 rfl (aw_bipush eX5_summers_65 k_bipush_6 (aw_icmp_ge eX5_summers_67 (fun c7 => ?_) (fun c7 => ?_))))))))))))))))))))
      · have h := ip c7 h
        refine aw_iload eX5_summers_97 rfl (aw_bipush eX5_summers_99 k_bipush_6 (aw_icmp_ne eX5_summers_101 (fun c8 => ?_) (fun c8 => ?_)))
        · have h := iq c8 h
          obtain ⟨w9, ew9, h⟩ := lt_e h
          obtain ⟨w10, ew10, h⟩ := lt_e h
          obtain ⟨x3_11, ex3_11, h⟩ := lt_e h
          refine aw_aload_n eX5_summers_120 rfl (aw_getf (k := 5) (f := 3) eX5_summers_121 tw_0_154 ⟨by decide, by decide⟩ (by decide) (v := aR 3 1) rfl (aw_iconst eX5_summers_124 k_iconst_0 (aw_putI (k := 3) (f := 1) eX5_summers_125 tw_0_67 ⟨by decide, by decide⟩ (by decide) ⟨rfl, rfl, rfl, rfl⟩ (aw_wn ew9 (aw_aload_n eX5_summers_128 rfl (aw_getf (k := 5) (f := 3) eX5_summers_129 tw_0_154 ⟨by decide, by decide⟩ (by decide) (v := aR 3 1) rfl (aw_iconst eX5_summers_132 k_iconst_0 (aw_putI (k := 3) (f := 3) eX5_summers_133 tw_0_75 ⟨by decide, by decide⟩ (by decide) ⟨rfl, rfl, rfl, rfl⟩ (aw_wn ew10 (aw_iincY (iinc_k k_iconst_1 ex3_11) eX5_summers_136 rfl (by decide) rfl (ls' := [some (aR 5 0), some (aI x1), some (aI x2), some (aI x3_11), some (aI x4_6)]) rfl (aw_goto eX5_summers_139 ?_)))))))))))
          exact aw_sub (ls' := [some (aR 5 0), some (aI x1), some (aI x2), some (aI x3_11), none]) ⟨rfl, ⟨rfl, ⟨rfl, ⟨rfl, trivial⟩⟩⟩⟩ (ih h)
        · have h := ip c8 h
          obtain ⟨w12, ew12, h⟩ := lt_e h
          obtain ⟨x3_13, ex3_13, h⟩ := lt_e h
          refine aw_aload_n eX5_summers_104 rfl (aw_getf (k := 5) (f := 3) eX5_summers_105 tw_0_154 ⟨by decide, by decide⟩ (by decide) (v := aR 3 1) rfl (aw_dupR eX5_summers_108 (aw_getf (k := 3) (f := 1) eX5_summers_109 tw_0_67 ⟨by decide, by decide⟩ (by decide) (v := aI (w5.1 3 1 1)) rfl (aw_iconst eX5_summers_112 k_iconst_1 (aw_iadd eX5_summers_113 (aw_putI (k := 3) (f := 1) eX5_summers_114 tw_0_67 ⟨by decide, by decide⟩ (by decide) ⟨rfl, rfl, rfl, rfl⟩ (aw_wn ew12 (aw_goto eX5_summers_117 (aw_iincY (iinc_k k_iconst_1 ex3_13) eX5_summers_136 rfl (by decide) rfl (ls' := [some (aR 5 0), some (aI x1), some (aI x2), some (aI x3_13), some (aI x4_6)]) rfl (aw_goto eX5_summers_139 ?_))))))))))
          exact aw_sub (ls' := [some (aR 5 0), some (aI x1), some (aI x2), some (aI x3_13), none]) ⟨rfl, ⟨rfl, ⟨rfl, ⟨rfl, trivial⟩⟩⟩⟩ (ih h)
      · have h := iq c7 h
        obtain ⟨q14, hq14, h⟩ := bd h
        refine aw_iload_n eX5_summers_70 rfl (aw_aload_n eX5_summers_71 rfl (aw_getf (k := 5) (f := 1) eX5_summers_72 tw_0_152 ⟨by decide, by decide⟩ (by decide) (v := aR 1 0) rfl (aw_aload_n eX5_summers_75 rfl (aw_getf (k := 5) (f := 3) eX5_summers_76 tw_0_154 ⟨by decide, by decide⟩ (by decide) (v := aR 3 1) rfl (aw_iload eX5_summers_79 rfl (aw_callVI (N := mX1_celebrate) [aR 3 1, aI x4_6] eX5_summers_81 tw_1_81 miX1_celebrate (by decide) (by decide) (by decide) rfl rfl (Nat.le_of_ble_eq_true rfl) (A_X1_celebrate hq14) (aw_if_eq eX5_summers_84 (fun c15 => ?_) (fun c15 => ?_))))))))
        · have h := ip c15 h
          obtain ⟨x2_16, ex2_16, h⟩ := lt_e h
          obtain ⟨x3_17, ex3_17, h⟩ := lt_e h
          refine aw_iconst eX5_summers_91 k_iconst_0 (aw_iadd eX5_summers_92 (aw_istore_nY ex2_16 eX5_summers_93 (by decide) rfl (ls' := [some (aR 5 0), some (aI x1), some (aI x2_16), some (aI x3), some (aI x4_6)]) rfl (aw_goto eX5_summers_94 (aw_iincY (iinc_k k_iconst_1 ex3_17) eX5_summers_136 rfl (by decide) rfl (ls' := [some (aR 5 0), some (aI x1), some (aI x2_16), some (aI x3_17), some (aI x4_6)]) rfl (aw_goto eX5_summers_139 ?_)))))
          exact aw_sub (ls' := [some (aR 5 0), some (aI x1), some (aI x2_16), some (aI x3_17), none]) ⟨rfl, ⟨rfl, ⟨rfl, ⟨rfl, trivial⟩⟩⟩⟩ (ih h)
        · have h := iq c15 h
          obtain ⟨x2_18, ex2_18, h⟩ := lt_e h
          obtain ⟨x3_19, ex3_19, h⟩ := lt_e h
          refine aw_iconst eX5_summers_87 k_iconst_1 (aw_goto eX5_summers_88 (aw_iadd eX5_summers_92 (aw_istore_nY ex2_18 eX5_summers_93 (by decide) rfl (ls' := [some (aR 5 0), some (aI x1), some (aI x2_18), some (aI x3), some (aI x4_6)]) rfl (aw_goto eX5_summers_94 (aw_iincY (iinc_k k_iconst_1 ex3_19) eX5_summers_136 rfl (by decide) rfl (ls' := [some (aR 5 0), some (aI x1), some (aI x2_18), some (aI x3_19), some (aI x4_6)]) rfl (aw_goto eX5_summers_139 ?_))))))
          exact aw_sub (ls' := [some (aR 5 0), some (aI x1), some (aI x2_18), some (aI x3_19), none]) ⟨rfl, ⟨rfl, ⟨rfl, ⟨rfl, trivial⟩⟩⟩⟩ (ih h)
def D_X5_summers (w : Wd) (x1 : Int32) : Option (Int32 × Wd) := if x1 < 1 then (some ((-2), w)) else (if x1 ≤ 30 then ((D_X3_take w 1 0).bind fun q3 => D_X5_summers_29 fuelZ x1 0 0 q3) else (some ((-2), w)))
set_option maxHeartbeats 4000000 in
set_option maxRecDepth 100000 in
theorem A_X5_summers {X : XS} {w : Wd} {x1 : Int32} {r : Int32 × Wd} (h : D_X5_summers w x1 = some r) : AW 4 X mX5_summers 0 (entA 5 [aR 5 0, aI x1]) [] w (PI r.1 r.2) := by
  show AW _ _ _ _ [some (aR 5 0), some (aI x1), none, none, none] _ _ _
  unfold D_X5_summers at h
  refine aw_iload_n eX5_summers_0 rfl (aw_iconst eX5_summers_1 k_iconst_1 (aw_icmp_lt eX5_summers_2 (fun c1 => ?_) (fun c1 => ?_)))
  · have h := ip c1 h
    exact aw_bipush eX5_summers_11 k_bipush_m2 (aw_iret eX5_summers_13 rfl (pI_i h))
  · have h := iq c1 h
    refine aw_iload_n eX5_summers_5 rfl (aw_bipush eX5_summers_6 k_bipush_30 (aw_icmp_le eX5_summers_8 (fun c2 => ?_) (fun c2 => ?_)))
    · have h := ip c2 h
      obtain ⟨q3, hq3, h⟩ := bd h
      refine aw_aload_n eX5_summers_14 rfl (aw_getf (k := 5) (f := 3) eX5_summers_15 tw_0_154 ⟨by decide, by decide⟩ (by decide) (v := aR 3 1) rfl (aw_aload_n eX5_summers_18 rfl (aw_getf (k := 5) (f := 2) eX5_summers_19 tw_0_153 ⟨by decide, by decide⟩ (by decide) (v := aR 3 0) rfl (aw_callVV (N := mX3_take) [aR 3 0] eX5_summers_22 tw_1_156 miX3_take (by decide) (by decide) (by decide) rfl rfl (Nat.le_of_ble_eq_true rfl) (A_X3_take hq3) (aw_iconst eX5_summers_25 k_iconst_0 (aw_istore_nY rfl eX5_summers_26 (by decide) rfl (ls' := [some (aR 5 0), some (aI x1), some (aI 0), none, none]) rfl (aw_iconst eX5_summers_27 k_iconst_0 (aw_istore_nY rfl eX5_summers_28 (by decide) rfl (ls' := [some (aR 5 0), some (aI x1), some (aI 0), some (aI 0), none]) rfl ?_))))))))
      exact A_X5_summers_29 fuelZ h
    · have h := iq c2 h
      exact aw_bipush eX5_summers_11 k_bipush_m2 (aw_iret eX5_summers_13 rfl (pI_i h))
def D_X5_isSlot (w : Wd) (x1 : Int32) : Option (Int32) := if x1 < 0 then (some (0)) else (if 2 ≤ x1 then (some (0)) else (if 2 ≤ x1 then (some (0)) else (some (1))))
set_option maxHeartbeats 4000000 in
set_option maxRecDepth 100000 in
theorem A_X5_isSlot {X : XS} {w : Wd} {x1 : Int32} {r : Int32} (h : D_X5_isSlot w x1 = some r) : AW 0 X mX5_isSlot 0 (entA 2 [aR 5 0, aI x1]) [] w (PI r w) := by
  show AW _ _ _ _ [some (aR 5 0), some (aI x1)] _ _ _
  unfold D_X5_isSlot at h
  refine aw_iload_n eX5_isSlot_0 rfl (aw_if_lt eX5_isSlot_1 (fun c1 => ?_) (fun c1 => ?_))
  · have h := ip c1 h
    exact aw_iconst eX5_isSlot_26 k_iconst_0 (aw_zret eX5_isSlot_27 rfl (by decide +kernel) (pI_p h))
  · have h := iq c1 h
    refine aw_iload_n eX5_isSlot_4 rfl (aw_aload_n eX5_isSlot_5 rfl (aw_getf (k := 5) (f := 6) eX5_isSlot_6 tw_0_157 ⟨by decide, by decide⟩ (by decide) (v := aR 34 0) rfl (aw_alenR eX5_isSlot_9 (by decide) (v := 2) kl_2 (aw_icmp_ge eX5_isSlot_10 (fun c2 => ?_) (fun c2 => ?_)))))
    · have h := ip c2 h
      exact aw_iconst eX5_isSlot_26 k_iconst_0 (aw_zret eX5_isSlot_27 rfl (by decide +kernel) (pI_p h))
    · have h := iq c2 h
      refine aw_iload_n eX5_isSlot_13 rfl (aw_aload_n eX5_isSlot_14 rfl (aw_getf (k := 5) (f := 7) eX5_isSlot_15 tw_0_158 ⟨by decide, by decide⟩ (by decide) (v := aR 19 0) rfl (aw_alenZ eX5_isSlot_18 rfl (by decide) (v := 2) kl_2 (aw_icmp_ge eX5_isSlot_19 (fun c3 => ?_) (fun c3 => ?_)))))
      · have h := ip c3 h
        exact aw_iconst eX5_isSlot_26 k_iconst_0 (aw_zret eX5_isSlot_27 rfl (by decide +kernel) (pI_p h))
      · have h := iq c3 h
        exact aw_iconst eX5_isSlot_22 k_iconst_1 (aw_goto eX5_isSlot_23 (aw_zret eX5_isSlot_27 rfl (by decide +kernel) (pI_p h)))
def D_X5_keep (w : Wd) (x1 : Int32) : Option (Int32 × Wd) := (D_X5_isSlot w x1).bind fun q1 => if q1 = 0 then (some ((-1), w)) else (if inB x1 2 then if 3 + Int32.toNatClampNeg x1 < 19 then (D_X3_take w (3 + Int32.toNatClampNeg x1) 0).bind fun q5 => if inB x1 2 then lt (wS q5 19 0 (Int32.toNatClampNeg x1) 1) fun w7 => some (w7.1 3 0 1, w7) else none else none else none)
set_option maxHeartbeats 4000000 in
set_option maxRecDepth 100000 in
theorem A_X5_keep {X : XS} {w : Wd} {x1 : Int32} {r : Int32 × Wd} (h : D_X5_keep w x1 = some r) : AW 2 X mX5_keep 0 (entA 3 [aR 5 0, aI x1]) [] w (PI r.1 r.2) := by
  show AW _ _ _ _ [some (aR 5 0), some (aI x1), none] _ _ _
  unfold D_X5_keep at h
  obtain ⟨q1, hq1, h⟩ := bd h
  refine aw_aload_n eX5_keep_0 rfl (aw_iload_n eX5_keep_1 rfl (aw_callVI (N := mX5_isSlot) [aI x1] eX5_keep_2 tw_2_25 miX5_isSlot (by decide) (by decide) (by decide) rfl rfl (Nat.le_of_ble_eq_true rfl) (A_X5_isSlot hq1) (aw_if_ne eX5_keep_5 (fun c2 => ?_) (fun c2 => ?_))))
  · have h := iq c2 h
    obtain ⟨hc3, h⟩ := ck h
    obtain ⟨hv4, h⟩ := ck h
    obtain ⟨q5, hq5, h⟩ := bd h
    obtain ⟨hc6, h⟩ := ck h
    obtain ⟨w7, ew7, h⟩ := lt_e h
    exact aw_aload_n eX5_keep_10 rfl (aw_getf (k := 5) (f := 6) eX5_keep_11 tw_0_157 ⟨by decide, by decide⟩ (by decide) (v := aR 34 0) rfl (aw_iload_n eX5_keep_14 rfl (aw_aald eX5_keep_15 (by decide) hc3 (aw_astore_nY eX5_keep_16 (by decide) rfl (ls' := [some (aR 5 0), some (aI x1), some (aR 3 (3 + Int32.toNatClampNeg x1))]) rfl (aw_aload_n eX5_keep_17 rfl (aw_ifnonnull eX5_keep_18 (aw_aload_n eX5_keep_23 rfl (aw_aload_n eX5_keep_24 rfl (aw_getf (k := 5) (f := 2) eX5_keep_25 tw_0_153 ⟨by decide, by decide⟩ (by decide) (v := aR 3 0) rfl (aw_callVV (N := mX3_take) [aR 3 0] eX5_keep_28 tw_1_156 miX3_take (by decide) hv4 (by decide) rfl rfl (Nat.le_of_ble_eq_true rfl) (A_X3_take hq5) (aw_aload_n eX5_keep_31 rfl (aw_getf (k := 5) (f := 7) eX5_keep_32 tw_0_158 ⟨by decide, by decide⟩ (by decide) (v := aR 19 0) rfl (aw_iload_n eX5_keep_35 rfl (aw_iconst eX5_keep_36 k_iconst_1 (aw_zastK (n := 2) eX5_keep_37 rfl (by decide) hc6 vnar1 (j := (Int32.toNatClampNeg x1)) rfl (aw_wn ew7 (aw_aload_n eX5_keep_38 rfl (aw_getf (k := 5) (f := 2) eX5_keep_39 tw_0_153 ⟨by decide, by decide⟩ (by decide) (v := aR 3 0) rfl (aw_getf (k := 3) (f := 1) eX5_keep_42 tw_0_67 ⟨by decide, by decide⟩ (by decide) (v := aI (w7.1 3 0 1)) rfl (aw_iret eX5_keep_45 rfl (pI_i h)))))))))))))))))))))
  · have h := ip c2 h
    exact aw_iconst eX5_keep_8 k_iconst_m1 (aw_iret eX5_keep_9 rfl (pI_i h))
def D_X5_again (w : Wd) (x1 : Int32) : Option (Int32 × Wd) := (D_X5_isSlot w x1).bind fun q1 => if q1 = 0 then (some ((-1), w)) else (if inB x1 2 then if (w.1 19 0 (Int32.toNatClampNeg x1)) = 0 then (some ((-3), w)) else (if inB x1 2 then (D_X3_take w 0 (3 + Int32.toNatClampNeg x1)).bind fun q6 => (D_X0_clear q6).bind fun q7 => some (q7.1 3 0 1, q7) else none) else none)
set_option maxHeartbeats 4000000 in
set_option maxRecDepth 100000 in
theorem A_X5_again {X : XS} {w : Wd} {x1 : Int32} {r : Int32 × Wd} (h : D_X5_again w x1 = some r) : AW 2 X mX5_again 0 (entA 2 [aR 5 0, aI x1]) [] w (PI r.1 r.2) := by
  show AW _ _ _ _ [some (aR 5 0), some (aI x1)] _ _ _
  unfold D_X5_again at h
  obtain ⟨q1, hq1, h⟩ := bd h
  refine aw_aload_n eX5_again_0 rfl (aw_iload_n eX5_again_1 rfl (aw_callVI (N := mX5_isSlot) [aI x1] eX5_again_2 tw_2_25 miX5_isSlot (by decide) (by decide) (by decide) rfl rfl (Nat.le_of_ble_eq_true rfl) (A_X5_isSlot hq1) (aw_if_ne eX5_again_5 (fun c2 => ?_) (fun c2 => ?_))))
  · have h := iq c2 h
    obtain ⟨hc3, h⟩ := ck h
    refine aw_aload_n eX5_again_10 rfl (aw_getf (k := 5) (f := 7) eX5_again_11 tw_0_158 ⟨by decide, by decide⟩ (by decide) (v := aR 19 0) rfl (aw_iload_n eX5_again_14 rfl (aw_zald eX5_again_15 rfl (by decide) hc3 (aw_if_ne eX5_again_16 (fun c4 => ?_) (fun c4 => ?_)))))
    · have h := iq c4 h
      obtain ⟨hc5, h⟩ := ck h
      obtain ⟨q6, hq6, h⟩ := bd h
      obtain ⟨q7, hq7, h⟩ := bd h
      exact aw_aload_n eX5_again_22 rfl (aw_getf (k := 5) (f := 2) eX5_again_23 tw_0_153 ⟨by decide, by decide⟩ (by decide) (v := aR 3 0) rfl (aw_aload_n eX5_again_26 rfl (aw_getf (k := 5) (f := 6) eX5_again_27 tw_0_157 ⟨by decide, by decide⟩ (by decide) (v := aR 34 0) rfl (aw_iload_n eX5_again_30 rfl (aw_aald eX5_again_31 (by decide) hc5 (aw_callVV (N := mX3_take) [aR 3 (3 + Int32.toNatClampNeg x1)] eX5_again_32 tw_1_156 miX3_take (by decide) (by decide) (by decide) rfl rfl (Nat.le_of_ble_eq_true rfl) (A_X3_take hq6) (aw_aload_n eX5_again_35 rfl (aw_getf (k := 5) (f := 4) eX5_again_36 tw_0_155 ⟨by decide, by decide⟩ (by decide) (v := aR 0 0) rfl (aw_callVV (N := mX0_clear) [] eX5_again_39 tw_1_12 miX0_clear (by decide) (by decide) (by decide) rfl rfl (Nat.le_of_ble_eq_true rfl) (A_X0_clear hq7) (aw_aload_n eX5_again_42 rfl (aw_getf (k := 5) (f := 2) eX5_again_43 tw_0_153 ⟨by decide, by decide⟩ (by decide) (v := aR 3 0) rfl (aw_getf (k := 3) (f := 1) eX5_again_46 tw_0_67 ⟨by decide, by decide⟩ (by decide) (v := aI (q7.1 3 0 1)) rfl (aw_iret eX5_again_49 rfl (pI_i h))))))))))))))
    · have h := ip c4 h
      exact aw_bipush eX5_again_19 k_bipush_m3 (aw_iret eX5_again_21 rfl (pI_i h))
  · have h := ip c2 h
    exact aw_iconst eX5_again_8 k_iconst_m1 (aw_iret eX5_again_9 rfl (pI_i h))
def D_X5_holdingNext_4 (w : Wd) : Nat → Int32 → Int32 → Option (Int32)
  | 0, _, _ => none
  | n + 1, x1, x2 => if (w.1 1 0 2) ≤ x2 then (some (x1)) else ((D_X1_beginOn w 0 x2).bind fun q2 => if q2 = ((-9)) then (lt (x2 + 1) fun x2_4 => D_X5_holdingNext_4 w n x1 x2_4) else (lt (x1 ||| ((1 : Int32) <<< (x2 &&& 31))) fun x1_5 => lt (x2 + 1) fun x2_6 => D_X5_holdingNext_4 w n x1_5 x2_6))
set_option maxHeartbeats 4000000 in
set_option maxRecDepth 100000 in
theorem A_X5_holdingNext_4 {X : XS} {w : Wd} : ∀ (nn : Nat) {x1 : Int32} {x2 : Int32} {r : Int32}, D_X5_holdingNext_4 w nn x1 x2 = some r → AW 3 X mX5_holdingNext 4 [some (aR 5 0), some (aI x1), some (aI x2)] [] w (PI r w) := by
  intro nn
  induction nn with
  | zero => intros; rename_i h; cases h
  | succ n ih =>
    intro x1 x2 r h
    rw [D_X5_holdingNext_4] at h
    refine aw_iload_n eX5_holdingNext_4 rfl (aw_aload_n eX5_holdingNext_5 rfl (aw_getf (k := 5) (f := 1) eX5_holdingNext_6 tw_0_152 ⟨by decide, by decide⟩ (by decide) (v := aR 1 0) rfl (aw_getf (k := 1) (f := 2) eX5_holdingNext_9 tw_0_43 ⟨by decide, by decide⟩ (by decide) (v := aI (w.1 1 0 2)) rfl (aw_icmp_ge eX5_holdingNext_12 (fun c1 => ?_) (fun c1 => ?_)))))
    · have h := ip c1 h
      exact aw_iload_n eX5_holdingNext_44 rfl (aw_iret eX5_holdingNext_45 rfl (pI_p h))
    · have h := iq c1 h
      obtain ⟨q2, hq2, h⟩ := bd h
      refine aw_aload_n eX5_holdingNext_15 rfl (aw_getf (k := 5) (f := 1) eX5_holdingNext_16 tw_0_152 ⟨by decide, by decide⟩ (by decide) (v := aR 1 0) rfl (aw_aload_n eX5_holdingNext_19 rfl (aw_getf (k := 5) (f := 2) eX5_holdingNext_20 tw_0_153 ⟨by decide, by decide⟩ (by decide) (v := aR 3 0) rfl (aw_iload_n eX5_holdingNext_23 rfl (aw_callVI (N := mX1_beginOn) [aR 3 0, aI x2] eX5_holdingNext_24 tw_1_29 miX1_beginOn (by decide) (by decide) (by decide) rfl rfl (Nat.le_of_ble_eq_true rfl) (A_X1_beginOn hq2) (aw_bipush eX5_holdingNext_27 k_bipush_m9 (aw_icmp_eq eX5_holdingNext_29 (fun c3 => ?_) (fun c3 => ?_))))))))
      · have h := ip c3 h
        obtain ⟨x2_4, ex2_4, h⟩ := lt_e h
        refine aw_iincY (iinc_k k_iconst_1 ex2_4) eX5_holdingNext_38 rfl (by decide) rfl (ls' := [some (aR 5 0), some (aI x1), some (aI x2_4)]) rfl (aw_goto eX5_holdingNext_41 ?_)
        exact ih h
      · have h := iq c3 h
        obtain ⟨x1_5, ex1_5, h⟩ := lt_e h
        obtain ⟨x2_6, ex2_6, h⟩ := lt_e h
        refine aw_iload_n eX5_holdingNext_32 rfl (aw_iconst eX5_holdingNext_33 k_iconst_1 (aw_iload_n eX5_holdingNext_34 rfl (aw_ishl eX5_holdingNext_35 (aw_ior eX5_holdingNext_36 (aw_istore_nY ex1_5 eX5_holdingNext_37 (by decide) rfl (ls' := [some (aR 5 0), some (aI x1_5), some (aI x2)]) rfl (aw_iincY (iinc_k k_iconst_1 ex2_6) eX5_holdingNext_38 rfl (by decide) rfl (ls' := [some (aR 5 0), some (aI x1_5), some (aI x2_6)]) rfl (aw_goto eX5_holdingNext_41 ?_)))))))
        exact ih h
def D_X5_holdingNext (w : Wd) : Option (Int32) := D_X5_holdingNext_4 w fuelZ 0 0
set_option maxHeartbeats 4000000 in
set_option maxRecDepth 100000 in
theorem A_X5_holdingNext {X : XS} {w : Wd} {r : Int32} (h : D_X5_holdingNext w = some r) : AW 3 X mX5_holdingNext 0 (entA 3 [aR 5 0]) [] w (PI r w) := by
  show AW _ _ _ _ [some (aR 5 0), none, none] _ _ _
  unfold D_X5_holdingNext at h
  refine aw_iconst eX5_holdingNext_0 k_iconst_0 (aw_istore_nY rfl eX5_holdingNext_1 (by decide) rfl (ls' := [some (aR 5 0), some (aI 0), none]) rfl (aw_iconst eX5_holdingNext_2 k_iconst_0 (aw_istore_nY rfl eX5_holdingNext_3 (by decide) rfl (ls' := [some (aR 5 0), some (aI 0), some (aI 0)]) rfl ?_)))
  exact A_X5_holdingNext_4 fuelZ h
def D_X5_count (w : Wd) (x1 : Int32) : Option (Int32) := if x1 = 0 then (some (w.1 4 0 1)) else (if x1 = 1 then (some (w.1 1 0 2)) else (if x1 = 2 then (some (w.1 1 0 3)) else (if x1 = 3 then (some (w.1 3 0 1)) else (if x1 = 4 then (some (w.1 3 0 2)) else (if x1 = 5 then (some (w.1 3 0 3)) else (if x1 = 6 then ((D_X5_holdingNext w).bind fun q7 => some (q7)) else (if x1 = 7 then (some (w.1 0 0 2)) else (if x1 = 8 then (some (w.1 5 0 11)) else (some ((-2)))))))))))
set_option maxHeartbeats 4000000 in
set_option maxRecDepth 100000 in
theorem A_X5_count {X : XS} {w : Wd} {x1 : Int32} {r : Int32} (h : D_X5_count w x1 = some r) : AW 4 X mX5_count 0 (entA 2 [aR 5 0, aI x1]) [] w (PI r w) := by
  show AW _ _ _ _ [some (aR 5 0), some (aI x1)] _ _ _
  unfold D_X5_count at h
  refine aw_iload_n eX5_count_0 rfl ?_
  by_cases c1 : x1 = 0
  · have h := ip c1 h
    refine aw_tabIn eX5_count_1 (by rw [c1]; decide) (by rw [c1]; decide) (off := 51) (tgt := 52) (by rw [c1]; decide) (by decide) ?_
    exact aw_aload_n eX5_count_52 rfl (aw_getf (k := 5) (f := 0) eX5_count_53 tw_0_151 ⟨by decide, by decide⟩ (by decide) (v := aR 4 0) rfl (aw_getf (k := 4) (f := 1) eX5_count_56 tw_0_27 ⟨by decide, by decide⟩ (by decide) (v := aI (w.1 4 0 1)) rfl (aw_iret eX5_count_59 rfl (pI_p h))))
  · have h := iq c1 h
    by_cases c2 : x1 = 1
    · have h := ip c2 h
      refine aw_tabIn eX5_count_1 (by rw [c2]; decide) (by rw [c2]; decide) (off := 59) (tgt := 60) (by rw [c2]; decide) (by decide) ?_
      exact aw_aload_n eX5_count_60 rfl (aw_getf (k := 5) (f := 1) eX5_count_61 tw_0_152 ⟨by decide, by decide⟩ (by decide) (v := aR 1 0) rfl (aw_getf (k := 1) (f := 2) eX5_count_64 tw_0_43 ⟨by decide, by decide⟩ (by decide) (v := aI (w.1 1 0 2)) rfl (aw_iret eX5_count_67 rfl (pI_p h))))
    · have h := iq c2 h
      by_cases c3 : x1 = 2
      · have h := ip c3 h
        refine aw_tabIn eX5_count_1 (by rw [c3]; decide) (by rw [c3]; decide) (off := 67) (tgt := 68) (by rw [c3]; decide) (by decide) ?_
        exact aw_aload_n eX5_count_68 rfl (aw_getf (k := 5) (f := 1) eX5_count_69 tw_0_152 ⟨by decide, by decide⟩ (by decide) (v := aR 1 0) rfl (aw_getf (k := 1) (f := 3) eX5_count_72 tw_0_46 ⟨by decide, by decide⟩ (by decide) (v := aI (w.1 1 0 3)) rfl (aw_iret eX5_count_75 rfl (pI_p h))))
      · have h := iq c3 h
        by_cases c4 : x1 = 3
        · have h := ip c4 h
          refine aw_tabIn eX5_count_1 (by rw [c4]; decide) (by rw [c4]; decide) (off := 75) (tgt := 76) (by rw [c4]; decide) (by decide) ?_
          exact aw_aload_n eX5_count_76 rfl (aw_getf (k := 5) (f := 2) eX5_count_77 tw_0_153 ⟨by decide, by decide⟩ (by decide) (v := aR 3 0) rfl (aw_getf (k := 3) (f := 1) eX5_count_80 tw_0_67 ⟨by decide, by decide⟩ (by decide) (v := aI (w.1 3 0 1)) rfl (aw_iret eX5_count_83 rfl (pI_p h))))
        · have h := iq c4 h
          by_cases c5 : x1 = 4
          · have h := ip c5 h
            refine aw_tabIn eX5_count_1 (by rw [c5]; decide) (by rw [c5]; decide) (off := 83) (tgt := 84) (by rw [c5]; decide) (by decide) ?_
            exact aw_aload_n eX5_count_84 rfl (aw_getf (k := 5) (f := 2) eX5_count_85 tw_0_153 ⟨by decide, by decide⟩ (by decide) (v := aR 3 0) rfl (aw_getf (k := 3) (f := 2) eX5_count_88 tw_0_71 ⟨by decide, by decide⟩ (by decide) (v := aI (w.1 3 0 2)) rfl (aw_iret eX5_count_91 rfl (pI_p h))))
          · have h := iq c5 h
            by_cases c6 : x1 = 5
            · have h := ip c6 h
              refine aw_tabIn eX5_count_1 (by rw [c6]; decide) (by rw [c6]; decide) (off := 91) (tgt := 92) (by rw [c6]; decide) (by decide) ?_
              exact aw_aload_n eX5_count_92 rfl (aw_getf (k := 5) (f := 2) eX5_count_93 tw_0_153 ⟨by decide, by decide⟩ (by decide) (v := aR 3 0) rfl (aw_getf (k := 3) (f := 3) eX5_count_96 tw_0_75 ⟨by decide, by decide⟩ (by decide) (v := aI (w.1 3 0 3)) rfl (aw_iret eX5_count_99 rfl (pI_p h))))
            · have h := iq c6 h
              by_cases c8 : x1 = 6
              · have h := ip c8 h
                refine aw_tabIn eX5_count_1 (by rw [c8]; decide) (by rw [c8]; decide) (off := 99) (tgt := 100) (by rw [c8]; decide) (by decide) ?_
                obtain ⟨q7, hq7, h⟩ := bd h
                exact aw_aload_n eX5_count_100 rfl (aw_callVI (N := mX5_holdingNext) [] eX5_count_101 tw_2_37 miX5_holdingNext (by decide) (by decide) (by decide) rfl rfl (Nat.le_of_ble_eq_true rfl) (A_X5_holdingNext hq7) (aw_iret eX5_count_104 rfl (pI_p h)))
              · have h := iq c8 h
                by_cases c9 : x1 = 7
                · have h := ip c9 h
                  refine aw_tabIn eX5_count_1 (by rw [c9]; decide) (by rw [c9]; decide) (off := 104) (tgt := 105) (by rw [c9]; decide) (by decide) ?_
                  exact aw_aload_n eX5_count_105 rfl (aw_getf (k := 5) (f := 4) eX5_count_106 tw_0_155 ⟨by decide, by decide⟩ (by decide) (v := aR 0 0) rfl (aw_getf (k := 0) (f := 2) eX5_count_109 tw_0_97 ⟨by decide, by decide⟩ (by decide) (v := aI (w.1 0 0 2)) rfl (aw_iret eX5_count_112 rfl (pI_p h))))
                · have h := iq c9 h
                  by_cases c10 : x1 = 8
                  · have h := ip c10 h
                    refine aw_tabIn eX5_count_1 (by rw [c10]; decide) (by rw [c10]; decide) (off := 112) (tgt := 113) (by rw [c10]; decide) (by decide) ?_
                    exact aw_aload_n eX5_count_113 rfl (aw_getf (k := 5) (f := 11) eX5_count_114 tw_0_162 ⟨by decide, by decide⟩ (by decide) (v := aI (w.1 5 0 11)) rfl (aw_iret eX5_count_117 rfl (pI_p h)))
                  · have h := iq c10 h
                    have hto : x1.toInt < 0 ∨ 8 < x1.toInt := tab_out (fun c h1 h2 => by
                      have hcc : c = 0 ∨ c = 1 ∨ c = 2 ∨ c = 3 ∨ c = 4 ∨ c = 5 ∨ c = 6 ∨ c = 7 ∨ c = 8 := by omega
                      rcases hcc with rfl | rfl | rfl | rfl | rfl | rfl | rfl | rfl | rfl
                      · exact fun z => c1 (z.trans (by decide))
                      · exact fun z => c2 (z.trans (by decide))
                      · exact fun z => c3 (z.trans (by decide))
                      · exact fun z => c4 (z.trans (by decide))
                      · exact fun z => c5 (z.trans (by decide))
                      · exact fun z => c6 (z.trans (by decide))
                      · exact fun z => c8 (z.trans (by decide))
                      · exact fun z => c9 (z.trans (by decide))
                      · exact fun z => c10 (z.trans (by decide)))
                    refine aw_tabOut eX5_count_1 (by exact hto) (tgt := 118) (by decide) ?_
                    exact aw_bipush eX5_count_118 k_bipush_m2 (aw_iret eX5_count_120 rfl (pI_p h))
