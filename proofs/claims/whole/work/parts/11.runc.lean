def D_X5_parish_46 : Nat → Int32 → Wd → Option (Int32 × Wd)
  | 0, _, _ => none
  | n + 1, x1, w => if 2 ≤ x1 then (some (w.1 1 0 2, w)) else (if inB x1 2 then lt (wS w 19 0 (Int32.toNatClampNeg x1) 0) fun w8 => lt (x1 + 1) fun x1_9 => D_X5_parish_46 n x1_9 w8 else none)
set_option maxHeartbeats 4000000 in
set_option maxRecDepth 100000 in
theorem A_X5_parish_46 {X : XS} : ∀ (nn : Nat) {x1 : Int32} {w : Wd} {r : Int32 × Wd}, D_X5_parish_46 nn x1 w = some r → AW 6 X mX5_parish 46 [some (aR 5 0), some (aI x1)] [] w (PI r.1 r.2) := by
  intro nn
  induction nn with
  | zero => intros; rename_i h; cases h
  | succ n ih =>
    intro x1 w r h
    rw [D_X5_parish_46] at h
    refine aw_iload_n eX5_parish_46 rfl (aw_aload_n eX5_parish_47 rfl (aw_getf (k := 5) (f := 7) eX5_parish_48 tw_0_158 ⟨by decide, by decide⟩ (by decide) (v := aR 19 0) rfl (aw_alenZ eX5_parish_51 rfl (by decide) (v := 2) kl_2 (aw_icmp_ge eX5_parish_52 (fun c6 => ?_) (fun c6 => ?_)))))
    · have h := ip c6 h
      exact aw_aload_n eX5_parish_68 rfl (aw_getf (k := 5) (f := 1) eX5_parish_69 tw_0_152 ⟨by decide, by decide⟩ (by decide) (v := aR 1 0) rfl (aw_getf (k := 1) (f := 2) eX5_parish_72 tw_0_43 ⟨by decide, by decide⟩ (by decide) (v := aI (w.1 1 0 2)) rfl (aw_iret eX5_parish_75 rfl (pI_i h))))
    · have h := iq c6 h
      obtain ⟨hc7, h⟩ := ck h
      obtain ⟨w8, ew8, h⟩ := lt_e h
      obtain ⟨x1_9, ex1_9, h⟩ := lt_e h
      refine aw_aload_n eX5_parish_55 rfl (aw_getf (k := 5) (f := 7) eX5_parish_56 tw_0_158 ⟨by decide, by decide⟩ (by decide) (v := aR 19 0) rfl (aw_iload_n eX5_parish_59 rfl (aw_iconst eX5_parish_60 k_iconst_0 (aw_zastK (n := 2) eX5_parish_61 rfl (by decide) hc7 vnar0 (j := (Int32.toNatClampNeg x1)) rfl (aw_wn ew8 (aw_iincY (iinc_k k_iconst_1 ex1_9) eX5_parish_62 rfl (by decide) rfl (ls' := [some (aR 5 0), some (aI x1_9)]) rfl (aw_goto eX5_parish_65 ?_)))))))
      exact ih h
def D_X5_parish (w : Wd) : Option (Int32 × Wd) := (D_X4_firstFault w).bind fun q1 => if q1 = ((-9)) then ((D_X1_readFrom w).bind fun q3 => (D_X3_readFrom q3 0).bind fun q4 => (D_X0_clear q4).bind fun q5 => D_X5_parish_46 fuelZ 0 q5) else (some ((-3), w))
set_option maxHeartbeats 4000000 in
set_option maxRecDepth 100000 in
theorem A_X5_parish {X : XS} {w : Wd} {r : Int32 × Wd} (h : D_X5_parish w = some r) : AW 6 X mX5_parish 0 (entA 2 [aR 5 0]) [] w (PI r.1 r.2) := by
  show AW _ _ _ _ [some (aR 5 0), none] _ _ _
  unfold D_X5_parish at h
  obtain ⟨q1, hq1, h⟩ := bd h
  refine aw_aload_n eX5_parish_0 rfl (aw_getf (k := 5) (f := 0) eX5_parish_1 tw_0_151 ⟨by decide, by decide⟩ (by decide) (v := aR 4 0) rfl (aw_callVI (N := mX4_firstFault) [] eX5_parish_4 tw_0_208 miX4_firstFault (by decide) (by decide) (by decide) rfl rfl (Nat.le_of_ble_eq_true rfl) (A_X4_firstFault hq1) (aw_bipush eX5_parish_7 k_bipush_m9 (aw_icmp_eq eX5_parish_9 (fun c2 => ?_) (fun c2 => ?_)))))
  · have h := ip c2 h
    obtain ⟨q3, hq3, h⟩ := bd h
    obtain ⟨q4, hq4, h⟩ := bd h
    obtain ⟨q5, hq5, h⟩ := bd h
    refine aw_aload_n eX5_parish_15 rfl (aw_getf (k := 5) (f := 1) eX5_parish_16 tw_0_152 ⟨by decide, by decide⟩ (by decide) (v := aR 1 0) rfl (aw_aload_n eX5_parish_19 rfl (aw_getf (k := 5) (f := 0) eX5_parish_20 tw_0_151 ⟨by decide, by decide⟩ (by decide) (v := aR 4 0) rfl (aw_callVV (N := mX1_readFrom) [aR 4 0] eX5_parish_23 tw_0_235 miX1_readFrom (by decide) (by decide) (by decide) rfl rfl (Nat.le_of_ble_eq_true rfl) (A_X1_readFrom hq3) (aw_aload_n eX5_parish_26 rfl (aw_getf (k := 5) (f := 2) eX5_parish_27 tw_0_153 ⟨by decide, by decide⟩ (by decide) (v := aR 3 0) rfl (aw_aload_n eX5_parish_30 rfl (aw_getf (k := 5) (f := 0) eX5_parish_31 tw_0_151 ⟨by decide, by decide⟩ (by decide) (v := aR 4 0) rfl (aw_callVV (N := mX3_readFrom) [aR 4 0] eX5_parish_34 tw_1_7 miX3_readFrom (by decide) (by decide) (by decide) rfl rfl (Nat.le_of_ble_eq_true rfl) (A_X3_readFrom hq4) (aw_aload_n eX5_parish_37 rfl (aw_getf (k := 5) (f := 4) eX5_parish_38 tw_0_155 ⟨by decide, by decide⟩ (by decide) (v := aR 0 0) rfl (aw_callVV (N := mX0_clear) [] eX5_parish_41 tw_1_12 miX0_clear (by decide) (by decide) (by decide) rfl rfl (Nat.le_of_ble_eq_true rfl) (A_X0_clear hq5) (aw_iconst eX5_parish_44 k_iconst_0 (aw_istore_nY rfl eX5_parish_45 (by decide) rfl (ls' := [some (aR 5 0), some (aI 0)]) rfl ?_))))))))))))))
    exact A_X5_parish_46 fuelZ h
  · have h := iq c2 h
    exact aw_bipush eX5_parish_12 k_bipush_m3 (aw_iret eX5_parish_14 rfl (pI_i h))
def D_X5_wedding (w : Wd) (x1 : Int32) (x2 : Int32) : Option (Int32) := (D_X1_has w x1).bind fun q1 => if q1 = 0 then (some ((-1))) else (if x2 < 0 then (some ((-2))) else (if x2 ≤ 6 then (if 5 ≤ x2 then (if x2 = 5 then ((D_X3_isWed w 0 x1).bind fun q8 => if q8 = 0 then (some (0)) else (some (1))) else ((D_X1_beginOn w 0 x1).bind fun q7 => some (q7))) else ((D_X1_figure w x1 x2).bind fun q10 => some (q10))) else (some ((-2)))))
set_option maxHeartbeats 4000000 in
set_option maxRecDepth 100000 in
theorem A_X5_wedding {X : XS} {w : Wd} {x1 : Int32} {x2 : Int32} {r : Int32} (h : D_X5_wedding w x1 x2 = some r) : AW 3 X mX5_wedding 0 (entA 3 [aR 5 0, aI x1, aI x2]) [] w (PI r w) := by
  show AW _ _ _ _ [some (aR 5 0), some (aI x1), some (aI x2)] _ _ _
  unfold D_X5_wedding at h
  obtain ⟨q1, hq1, h⟩ := bd h
  refine aw_aload_n eX5_wedding_0 rfl (aw_getf (k := 5) (f := 1) eX5_wedding_1 tw_0_152 ⟨by decide, by decide⟩ (by decide) (v := aR 1 0) rfl (aw_iload_n eX5_wedding_4 rfl (aw_callVI (N := mX1_has) [aI x1] eX5_wedding_5 tw_1_20 miX1_has (by decide) (by decide) (by decide) rfl rfl (Nat.le_of_ble_eq_true rfl) (A_X1_has hq1) (aw_if_ne eX5_wedding_8 (fun c2 => ?_) (fun c2 => ?_)))))
  · have h := iq c2 h
    refine aw_iload_n eX5_wedding_13 rfl (aw_if_lt eX5_wedding_14 (fun c3 => ?_) (fun c3 => ?_))
    · have h := ip c3 h
      exact aw_bipush eX5_wedding_23 k_bipush_m2 (aw_iret eX5_wedding_25 rfl (pI_p h))
    · have h := iq c3 h
      refine aw_iload_n eX5_wedding_17 rfl (aw_bipush eX5_wedding_18 k_bipush_6 (aw_icmp_le eX5_wedding_20 (fun c4 => ?_) (fun c4 => ?_)))
      · have h := ip c4 h
        refine aw_iload_n eX5_wedding_26 rfl (aw_iconst eX5_wedding_27 k_iconst_5 (aw_icmp_ge eX5_wedding_28 (fun c5 => ?_) (fun c5 => ?_)))
        · have h := ip c5 h
          refine aw_iload_n eX5_wedding_41 rfl (aw_iconst eX5_wedding_42 k_iconst_5 (aw_icmp_ne eX5_wedding_43 (fun c6 => ?_) (fun c6 => ?_)))
          · have h := iq c6 h
            obtain ⟨q7, hq7, h⟩ := bd h
            exact aw_aload_n eX5_wedding_63 rfl (aw_getf (k := 5) (f := 1) eX5_wedding_64 tw_0_152 ⟨by decide, by decide⟩ (by decide) (v := aR 1 0) rfl (aw_aload_n eX5_wedding_67 rfl (aw_getf (k := 5) (f := 2) eX5_wedding_68 tw_0_153 ⟨by decide, by decide⟩ (by decide) (v := aR 3 0) rfl (aw_iload_n eX5_wedding_71 rfl (aw_callVI (N := mX1_beginOn) [aR 3 0, aI x1] eX5_wedding_72 tw_1_29 miX1_beginOn (by decide) (by decide) (by decide) rfl rfl (Nat.le_of_ble_eq_true rfl) (A_X1_beginOn hq7) (aw_iret eX5_wedding_75 rfl (pI_p h)))))))
          · have h := ip c6 h
            obtain ⟨q8, hq8, h⟩ := bd h
            refine aw_aload_n eX5_wedding_46 rfl (aw_getf (k := 5) (f := 2) eX5_wedding_47 tw_0_153 ⟨by decide, by decide⟩ (by decide) (v := aR 3 0) rfl (aw_iload_n eX5_wedding_50 rfl (aw_callVI (N := mX3_isWed) [aI x1] eX5_wedding_51 tw_1_25 miX3_isWed (by decide) (by decide) (by decide) rfl rfl (Nat.le_of_ble_eq_true rfl) (A_X3_isWed hq8) (aw_if_eq eX5_wedding_54 (fun c9 => ?_) (fun c9 => ?_)))))
            · have h := ip c9 h
              exact aw_iconst eX5_wedding_61 k_iconst_0 (aw_iret eX5_wedding_62 rfl (pI_p h))
            · have h := iq c9 h
              exact aw_iconst eX5_wedding_57 k_iconst_1 (aw_goto eX5_wedding_58 (aw_iret eX5_wedding_62 rfl (pI_p h)))
        · have h := iq c5 h
          obtain ⟨q10, hq10, h⟩ := bd h
          exact aw_aload_n eX5_wedding_31 rfl (aw_getf (k := 5) (f := 1) eX5_wedding_32 tw_0_152 ⟨by decide, by decide⟩ (by decide) (v := aR 1 0) rfl (aw_iload_n eX5_wedding_35 rfl (aw_iload_n eX5_wedding_36 rfl (aw_callVI (N := mX1_figure) [aI x1, aI x2] eX5_wedding_37 tw_1_24 miX1_figure (by decide) (by decide) (by decide) rfl rfl (Nat.le_of_ble_eq_true rfl) (A_X1_figure hq10) (aw_iret eX5_wedding_40 rfl (pI_p h))))))
      · have h := iq c4 h
        exact aw_bipush eX5_wedding_23 k_bipush_m2 (aw_iret eX5_wedding_25 rfl (pI_p h))
  · have h := ip c2 h
    exact aw_iconst eX5_wedding_11 k_iconst_m1 (aw_iret eX5_wedding_12 rfl (pI_p h))
def D_X5_isRoad (x0 : Int32) : Option (Int32) := if x0 < 0 then (some (0)) else (if 5 ≤ x0 then (some (0)) else (some (1)))
set_option maxHeartbeats 4000000 in
set_option maxRecDepth 100000 in
theorem A_X5_isRoad {X : XS} {w : Wd} {x0 : Int32} {r : Int32} (h : D_X5_isRoad x0 = some r) : AW 0 X mX5_isRoad 0 (entA 1 [aI x0]) [] w (PI r w) := by
  show AW _ _ _ _ [some (aI x0)] _ _ _
  unfold D_X5_isRoad at h
  refine aw_iload_n eX5_isRoad_0 rfl (aw_if_lt eX5_isRoad_1 (fun c1 => ?_) (fun c1 => ?_))
  · have h := ip c1 h
    exact aw_iconst eX5_isRoad_13 k_iconst_0 (aw_zret eX5_isRoad_14 rfl (by decide +kernel) (pI_p h))
  · have h := iq c1 h
    refine aw_iload_n eX5_isRoad_4 rfl (aw_iconst eX5_isRoad_5 k_iconst_5 (aw_icmp_ge eX5_isRoad_6 (fun c2 => ?_) (fun c2 => ?_)))
    · have h := ip c2 h
      exact aw_iconst eX5_isRoad_13 k_iconst_0 (aw_zret eX5_isRoad_14 rfl (by decide +kernel) (pI_p h))
    · have h := iq c2 h
      exact aw_iconst eX5_isRoad_9 k_iconst_1 (aw_goto eX5_isRoad_10 (aw_zret eX5_isRoad_14 rfl (by decide +kernel) (pI_p h)))
def D_X5_road (w : Wd) (x1 : Int32) : Option (Int32) := (D_X5_isRoad x1).bind fun q1 => if q1 = 0 then (some ((-1))) else ((D_X5_at w 15 0 x1).bind fun q3 => some (q3))
set_option maxHeartbeats 4000000 in
set_option maxRecDepth 100000 in
theorem A_X5_road {X : XS} {w : Wd} {x1 : Int32} {r : Int32} (h : D_X5_road w x1 = some r) : AW 1 X mX5_road 0 (entA 2 [aR 5 0, aI x1]) [] w (PI r w) := by
  show AW _ _ _ _ [some (aR 5 0), some (aI x1)] _ _ _
  unfold D_X5_road at h
  obtain ⟨q1, hq1, h⟩ := bd h
  refine aw_iload_n eX5_road_0 rfl (aw_callSI (N := mX5_isRoad) [aI x1] eX5_road_1 tw_1_53 msX5_isRoad (by decide) rfl rfl (Nat.le_of_ble_eq_true rfl) (A_X5_isRoad hq1) (aw_if_eq eX5_road_4 (fun c2 => ?_) (fun c2 => ?_)))
  · have h := ip c2 h
    exact aw_iconst eX5_road_21 k_iconst_m1 (aw_iret eX5_road_22 rfl (pI_p h))
  · have h := iq c2 h
    obtain ⟨q3, hq3, h⟩ := bd h
    exact aw_aload_n eX5_road_7 rfl (aw_getf (k := 5) (f := 2) eX5_road_8 tw_0_153 ⟨by decide, by decide⟩ (by decide) (v := aR 3 0) rfl (aw_getf (k := 3) (f := 0) eX5_road_11 tw_0_63 ⟨by decide, by decide⟩ (by decide) (v := aR 15 0) rfl (aw_iload_n eX5_road_14 rfl (aw_callSI (N := mX5_at) [aR 15 0, aI x1] eX5_road_15 tw_1_56 msX5_at (by decide) rfl rfl (Nat.le_of_ble_eq_true rfl) (A_X5_at hq3) (aw_goto eX5_road_18 (aw_iret eX5_road_22 rfl (pI_p h)))))))
def D_X5_isChurch (x0 : Int32) : Option (Int32) := if x0 < 0 then (some (0)) else (if 6 ≤ x0 then (some (0)) else (some (1)))
set_option maxHeartbeats 4000000 in
set_option maxRecDepth 100000 in
theorem A_X5_isChurch {X : XS} {w : Wd} {x0 : Int32} {r : Int32} (h : D_X5_isChurch x0 = some r) : AW 0 X mX5_isChurch 0 (entA 1 [aI x0]) [] w (PI r w) := by
  show AW _ _ _ _ [some (aI x0)] _ _ _
  unfold D_X5_isChurch at h
  refine aw_iload_n eX5_isChurch_0 rfl (aw_if_lt eX5_isChurch_1 (fun c1 => ?_) (fun c1 => ?_))
  · have h := ip c1 h
    exact aw_iconst eX5_isChurch_14 k_iconst_0 (aw_zret eX5_isChurch_15 rfl (by decide +kernel) (pI_p h))
  · have h := iq c1 h
    refine aw_iload_n eX5_isChurch_4 rfl (aw_bipush eX5_isChurch_5 k_bipush_6 (aw_icmp_ge eX5_isChurch_7 (fun c2 => ?_) (fun c2 => ?_)))
    · have h := ip c2 h
      exact aw_iconst eX5_isChurch_14 k_iconst_0 (aw_zret eX5_isChurch_15 rfl (by decide +kernel) (pI_p h))
    · have h := iq c2 h
      exact aw_iconst eX5_isChurch_10 k_iconst_1 (aw_goto eX5_isChurch_11 (aw_zret eX5_isChurch_15 rfl (by decide +kernel) (pI_p h)))
def D_X5_way (w : Wd) (x1 : Int32) (x2 : Int32) : Option (Int32) := (D_X5_isChurch x1).bind fun q1 => if q1 = 0 then (some ((-1))) else ((D_X5_isChurch x2).bind fun q3 => if q3 = 0 then (some ((-1))) else ((D_X3_hoursBetween w 0 x1 x2).bind fun q5 => some (q5)))
set_option maxHeartbeats 4000000 in
set_option maxRecDepth 100000 in
theorem A_X5_way {X : XS} {w : Wd} {x1 : Int32} {x2 : Int32} {r : Int32} (h : D_X5_way w x1 x2 = some r) : AW 2 X mX5_way 0 (entA 3 [aR 5 0, aI x1, aI x2]) [] w (PI r w) := by
  show AW _ _ _ _ [some (aR 5 0), some (aI x1), some (aI x2)] _ _ _
  unfold D_X5_way at h
  obtain ⟨q1, hq1, h⟩ := bd h
  refine aw_iload_n eX5_way_0 rfl (aw_callSI (N := mX5_isChurch) [aI x1] eX5_way_1 tw_1_61 msX5_isChurch (by decide) rfl rfl (Nat.le_of_ble_eq_true rfl) (A_X5_isChurch hq1) (aw_if_eq eX5_way_4 (fun c2 => ?_) (fun c2 => ?_)))
  · have h := ip c2 h
    exact aw_iconst eX5_way_14 k_iconst_m1 (aw_iret eX5_way_15 rfl (pI_p h))
  · have h := iq c2 h
    obtain ⟨q3, hq3, h⟩ := bd h
    refine aw_iload_n eX5_way_7 rfl (aw_callSI (N := mX5_isChurch) [aI x2] eX5_way_8 tw_1_61 msX5_isChurch (by decide) rfl rfl (Nat.le_of_ble_eq_true rfl) (A_X5_isChurch hq3) (aw_if_ne eX5_way_11 (fun c4 => ?_) (fun c4 => ?_)))
    · have h := iq c4 h
      obtain ⟨q5, hq5, h⟩ := bd h
      exact aw_aload_n eX5_way_16 rfl (aw_getf (k := 5) (f := 2) eX5_way_17 tw_0_153 ⟨by decide, by decide⟩ (by decide) (v := aR 3 0) rfl (aw_iload_n eX5_way_20 rfl (aw_iload_n eX5_way_21 rfl (aw_callVI (N := mX3_hoursBetween) [aI x1, aI x2] eX5_way_22 tw_1_64 miX3_hoursBetween (by decide) (by decide) (by decide) rfl rfl (Nat.le_of_ble_eq_true rfl) (A_X3_hoursBetween hq5) (aw_iret eX5_way_25 rfl (pI_p h))))))
    · have h := ip c4 h
      exact aw_iconst eX5_way_14 k_iconst_m1 (aw_iret eX5_way_15 rfl (pI_p h))
def D_X5_wed (w : Wd) (x1 : Int32) : Option (Int32 × Wd) := (D_X1_has w x1).bind fun q1 => if q1 = 0 then (some ((-1), w)) else ((D_X1_beginOn w 0 x1).bind fun q3 => if q3 = ((-9)) then (some ((-3), w)) else ((D_X0_remember w 0).bind fun q5 => (D_X1_celebrate q5 0 x1).bind fun q6 => some (q6.2.1 3 0 1, q6.2)))
set_option maxHeartbeats 4000000 in
set_option maxRecDepth 100000 in
theorem A_X5_wed {X : XS} {w : Wd} {x1 : Int32} {r : Int32 × Wd} (h : D_X5_wed w x1 = some r) : AW 4 X mX5_wed 0 (entA 2 [aR 5 0, aI x1]) [] w (PI r.1 r.2) := by
  show AW _ _ _ _ [some (aR 5 0), some (aI x1)] _ _ _
  unfold D_X5_wed at h
  obtain ⟨q1, hq1, h⟩ := bd h
  refine aw_aload_n eX5_wed_0 rfl (aw_getf (k := 5) (f := 1) eX5_wed_1 tw_0_152 ⟨by decide, by decide⟩ (by decide) (v := aR 1 0) rfl (aw_iload_n eX5_wed_4 rfl (aw_callVI (N := mX1_has) [aI x1] eX5_wed_5 tw_1_20 miX1_has (by decide) (by decide) (by decide) rfl rfl (Nat.le_of_ble_eq_true rfl) (A_X1_has hq1) (aw_if_ne eX5_wed_8 (fun c2 => ?_) (fun c2 => ?_)))))
  · have h := iq c2 h
    obtain ⟨q3, hq3, h⟩ := bd h
    refine aw_aload_n eX5_wed_13 rfl (aw_getf (k := 5) (f := 1) eX5_wed_14 tw_0_152 ⟨by decide, by decide⟩ (by decide) (v := aR 1 0) rfl (aw_aload_n eX5_wed_17 rfl (aw_getf (k := 5) (f := 2) eX5_wed_18 tw_0_153 ⟨by decide, by decide⟩ (by decide) (v := aR 3 0) rfl (aw_iload_n eX5_wed_21 rfl (aw_callVI (N := mX1_beginOn) [aR 3 0, aI x1] eX5_wed_22 tw_1_29 miX1_beginOn (by decide) (by decide) (by decide) rfl rfl (Nat.le_of_ble_eq_true rfl) (A_X1_beginOn hq3) (aw_bipush eX5_wed_25 k_bipush_m9 (aw_icmp_ne eX5_wed_27 (fun c4 => ?_) (fun c4 => ?_))))))))
    · have h := iq c4 h
      obtain ⟨q5, hq5, h⟩ := bd h
      obtain ⟨q6, hq6, h⟩ := bd h
      exact aw_aload_n eX5_wed_33 rfl (aw_getf (k := 5) (f := 4) eX5_wed_34 tw_0_155 ⟨by decide, by decide⟩ (by decide) (v := aR 0 0) rfl (aw_aload_n eX5_wed_37 rfl (aw_getf (k := 5) (f := 2) eX5_wed_38 tw_0_153 ⟨by decide, by decide⟩ (by decide) (v := aR 3 0) rfl (aw_callVV (N := mX0_remember) [aR 3 0] eX5_wed_41 tw_1_69 miX0_remember (by decide) (by decide) (by decide) rfl rfl (Nat.le_of_ble_eq_true rfl) (A_X0_remember hq5) (aw_aload_n eX5_wed_44 rfl (aw_getf (k := 5) (f := 1) eX5_wed_45 tw_0_152 ⟨by decide, by decide⟩ (by decide) (v := aR 1 0) rfl (aw_aload_n eX5_wed_48 rfl (aw_getf (k := 5) (f := 2) eX5_wed_49 tw_0_153 ⟨by decide, by decide⟩ (by decide) (v := aR 3 0) rfl (aw_iload_n eX5_wed_52 rfl (aw_callVI (N := mX1_celebrate) [aR 3 0, aI x1] eX5_wed_53 tw_1_81 miX1_celebrate (by decide) (by decide) (by decide) rfl rfl (Nat.le_of_ble_eq_true rfl) (A_X1_celebrate hq6) (aw_popI eX5_wed_56 (aw_aload_n eX5_wed_57 rfl (aw_getf (k := 5) (f := 2) eX5_wed_58 tw_0_153 ⟨by decide, by decide⟩ (by decide) (v := aR 3 0) rfl (aw_getf (k := 3) (f := 1) eX5_wed_61 tw_0_67 ⟨by decide, by decide⟩ (by decide) (v := aI (q6.2.1 3 0 1)) rfl (aw_iret eX5_wed_64 rfl (pI_i h))))))))))))))))
    · have h := ip c4 h
      exact aw_bipush eX5_wed_30 k_bipush_m3 (aw_iret eX5_wed_32 rfl (pI_i h))
  · have h := ip c2 h
    exact aw_iconst eX5_wed_11 k_iconst_m1 (aw_iret eX5_wed_12 rfl (pI_i h))
def D_X5_carry (w : Wd) (x1 : Int32) : Option (Int32 × Wd) := (D_X5_isChurch x1).bind fun q1 => if q1 = 0 then (some ((-1), w)) else (if x1 = (w.1 3 0 2) then (some ((-3), w)) else ((D_X0_remember w 0).bind fun q4 => (D_X3_hoursBetween q4 0 (q4.1 3 0 2) x1).bind fun q5 => lt (wS q4 3 0 1 ((q4.1 3 0 1) + q5)) fun w6 => lt (wS w6 3 0 2 x1) fun w7 => some (w7.1 3 0 1, w7)))
set_option maxHeartbeats 4000000 in
set_option maxRecDepth 100000 in
theorem A_X5_carry {X : XS} {w : Wd} {x1 : Int32} {r : Int32 × Wd} (h : D_X5_carry w x1 = some r) : AW 3 X mX5_carry 0 (entA 2 [aR 5 0, aI x1]) [] w (PI r.1 r.2) := by
  show AW _ _ _ _ [some (aR 5 0), some (aI x1)] _ _ _
  unfold D_X5_carry at h
  obtain ⟨q1, hq1, h⟩ := bd h
  refine aw_iload_n eX5_carry_0 rfl (aw_callSI (N := mX5_isChurch) [aI x1] eX5_carry_1 tw_1_61 msX5_isChurch (by decide) rfl rfl (Nat.le_of_ble_eq_true rfl) (A_X5_isChurch hq1) (aw_if_ne eX5_carry_4 (fun c2 => ?_) (fun c2 => ?_)))
  · have h := iq c2 h
    refine aw_iload_n eX5_carry_9 rfl (aw_aload_n eX5_carry_10 rfl (aw_getf (k := 5) (f := 2) eX5_carry_11 tw_0_153 ⟨by decide, by decide⟩ (by decide) (v := aR 3 0) rfl (aw_getf (k := 3) (f := 2) eX5_carry_14 tw_0_71 ⟨by decide, by decide⟩ (by decide) (v := aI (w.1 3 0 2)) rfl (aw_icmp_ne eX5_carry_17 (fun c3 => ?_) (fun c3 => ?_)))))
    · have h := iq c3 h
      obtain ⟨q4, hq4, h⟩ := bd h
      obtain ⟨q5, hq5, h⟩ := bd h
      obtain ⟨w6, ew6, h⟩ := lt_e h
      obtain ⟨w7, ew7, h⟩ := lt_e h
      exact aw_aload_n eX5_carry_23 rfl (aw_getf (k := 5) (f := 4) eX5_carry_24 tw_0_155 ⟨by decide, by decide⟩ (by decide) (v := aR 0 0) rfl (aw_aload_n eX5_carry_27 rfl (aw_getf (k := 5) (f := 2) eX5_carry_28 tw_0_153 ⟨by decide, by decide⟩ (by decide) (v := aR 3 0) rfl (aw_callVV (N := mX0_remember) [aR 3 0] eX5_carry_31 tw_1_69 miX0_remember (by decide) (by decide) (by decide) rfl rfl (Nat.le_of_ble_eq_true rfl) (A_X0_remember hq4) (aw_aload_n eX5_carry_34 rfl (aw_getf (k := 5) (f := 2) eX5_carry_35 tw_0_153 ⟨by decide, by decide⟩ (by decide) (v := aR 3 0) rfl (aw_dupR eX5_carry_38 (aw_getf (k := 3) (f := 1) eX5_carry_39 tw_0_67 ⟨by decide, by decide⟩ (by decide) (v := aI (q4.1 3 0 1)) rfl (aw_aload_n eX5_carry_42 rfl (aw_getf (k := 5) (f := 2) eX5_carry_43 tw_0_153 ⟨by decide, by decide⟩ (by decide) (v := aR 3 0) rfl (aw_aload_n eX5_carry_46 rfl (aw_getf (k := 5) (f := 2) eX5_carry_47 tw_0_153 ⟨by decide, by decide⟩ (by decide) (v := aR 3 0) rfl (aw_getf (k := 3) (f := 2) eX5_carry_50 tw_0_71 ⟨by decide, by decide⟩ (by decide) (v := aI (q4.1 3 0 2)) rfl (aw_iload_n eX5_carry_53 rfl (aw_callVI (N := mX3_hoursBetween) [aI (q4.1 3 0 2), aI x1] eX5_carry_54 tw_1_64 miX3_hoursBetween (by decide) (by decide) (by decide) rfl rfl (Nat.le_of_ble_eq_true rfl) (A_X3_hoursBetween hq5) (aw_iadd eX5_carry_57 (aw_putI (k := 3) (f := 1) eX5_carry_58 tw_0_67 ⟨by decide, by decide⟩ (by decide) ⟨rfl, rfl, rfl, rfl⟩ (aw_wn ew6 (aw_aload_n eX5_carry_61 rfl (aw_getf (k := 5) (f := 2) eX5_carry_62 tw_0_153 ⟨by decide, by decide⟩ (by decide) (v := aR 3 0) rfl (aw_iload_n eX5_carry_65 rfl (aw_putI (k := 3) (f := 2) eX5_carry_66 tw_0_71 ⟨by decide, by decide⟩ (by decide) ⟨rfl, rfl, rfl, rfl⟩ (aw_wn ew7 (aw_aload_n eX5_carry_69 rfl (aw_getf (k := 5) (f := 2) eX5_carry_70 tw_0_153 ⟨by decide, by decide⟩ (by decide) (v := aR 3 0) rfl (aw_getf (k := 3) (f := 1) eX5_carry_73 tw_0_67 ⟨by decide, by decide⟩ (by decide) (v := aI (w7.1 3 0 1)) rfl (aw_iret eX5_carry_76 rfl (pI_i h))))))))))))))))))))))))))))
    · have h := ip c3 h
      exact aw_bipush eX5_carry_20 k_bipush_m3 (aw_iret eX5_carry_22 rfl (pI_i h))
  · have h := ip c2 h
    exact aw_iconst eX5_carry_7 k_iconst_m1 (aw_iret eX5_carry_8 rfl (pI_i h))
def D_X5_linger (w : Wd) : Option (Int32 × Wd) := (D_X0_remember w 0).bind fun q1 => lt (wS q1 3 0 1 ((q1.1 3 0 1) + (1 : Int32))) fun w2 => some (w2.1 3 0 1, w2)
set_option maxHeartbeats 4000000 in
set_option maxRecDepth 100000 in
theorem A_X5_linger {X : XS} {w : Wd} {r : Int32 × Wd} (h : D_X5_linger w = some r) : AW 3 X mX5_linger 0 (entA 1 [aR 5 0]) [] w (PI r.1 r.2) := by
  show AW _ _ _ _ [some (aR 5 0)] _ _ _
  unfold D_X5_linger at h
  obtain ⟨q1, hq1, h⟩ := bd h
  obtain ⟨w2, ew2, h⟩ := lt_e h
  exact aw_aload_n eX5_linger_0 rfl (aw_getf (k := 5) (f := 4) eX5_linger_1 tw_0_155 ⟨by decide, by decide⟩ (by decide) (v := aR 0 0) rfl (aw_aload_n eX5_linger_4 rfl (aw_getf (k := 5) (f := 2) eX5_linger_5 tw_0_153 ⟨by decide, by decide⟩ (by decide) (v := aR 3 0) rfl (aw_callVV (N := mX0_remember) [aR 3 0] eX5_linger_8 tw_1_69 miX0_remember (by decide) (by decide) (by decide) rfl rfl (Nat.le_of_ble_eq_true rfl) (A_X0_remember hq1) (aw_aload_n eX5_linger_11 rfl (aw_getf (k := 5) (f := 2) eX5_linger_12 tw_0_153 ⟨by decide, by decide⟩ (by decide) (v := aR 3 0) rfl (aw_dupR eX5_linger_15 (aw_getf (k := 3) (f := 1) eX5_linger_16 tw_0_67 ⟨by decide, by decide⟩ (by decide) (v := aI (q1.1 3 0 1)) rfl (aw_iconst eX5_linger_19 k_iconst_1 (aw_iadd eX5_linger_20 (aw_putI (k := 3) (f := 1) eX5_linger_21 tw_0_67 ⟨by decide, by decide⟩ (by decide) ⟨rfl, rfl, rfl, rfl⟩ (aw_wn ew2 (aw_aload_n eX5_linger_24 rfl (aw_getf (k := 5) (f := 2) eX5_linger_25 tw_0_153 ⟨by decide, by decide⟩ (by decide) (v := aR 3 0) rfl (aw_getf (k := 3) (f := 1) eX5_linger_28 tw_0_67 ⟨by decide, by decide⟩ (by decide) (v := aI (w2.1 3 0 1)) rfl (aw_iret eX5_linger_31 rfl (pI_i h)))))))))))))))))
def D_X5_mend (w : Wd) (x1 : Int32) : Option (Int32 × Wd) := (D_X5_isRoad x1).bind fun q1 => if q1 = 0 then (some ((-1), w)) else ((D_X5_at w 15 0 x1).bind fun q3 => if 0 < q3 then ((D_X0_remember w 0).bind fun q5 => (D_X3_shorten q5 0 x1).bind fun q6 => (D_X5_at q6 15 0 x1).bind fun q7 => some (q7, q6)) else (some ((-3), w)))
set_option maxHeartbeats 4000000 in
set_option maxRecDepth 100000 in
theorem A_X5_mend {X : XS} {w : Wd} {x1 : Int32} {r : Int32 × Wd} (h : D_X5_mend w x1 = some r) : AW 3 X mX5_mend 0 (entA 2 [aR 5 0, aI x1]) [] w (PI r.1 r.2) := by
  show AW _ _ _ _ [some (aR 5 0), some (aI x1)] _ _ _
  unfold D_X5_mend at h
  obtain ⟨q1, hq1, h⟩ := bd h
  refine aw_iload_n eX5_mend_0 rfl (aw_callSI (N := mX5_isRoad) [aI x1] eX5_mend_1 tw_1_53 msX5_isRoad (by decide) rfl rfl (Nat.le_of_ble_eq_true rfl) (A_X5_isRoad hq1) (aw_if_ne eX5_mend_4 (fun c2 => ?_) (fun c2 => ?_)))
  · have h := iq c2 h
    obtain ⟨q3, hq3, h⟩ := bd h
    refine aw_aload_n eX5_mend_9 rfl (aw_getf (k := 5) (f := 2) eX5_mend_10 tw_0_153 ⟨by decide, by decide⟩ (by decide) (v := aR 3 0) rfl (aw_getf (k := 3) (f := 0) eX5_mend_13 tw_0_63 ⟨by decide, by decide⟩ (by decide) (v := aR 15 0) rfl (aw_iload_n eX5_mend_16 rfl (aw_callSI (N := mX5_at) [aR 15 0, aI x1] eX5_mend_17 tw_1_56 msX5_at (by decide) rfl rfl (Nat.le_of_ble_eq_true rfl) (A_X5_at hq3) (aw_if_gt eX5_mend_20 (fun c4 => ?_) (fun c4 => ?_))))))
    · have h := ip c4 h
      obtain ⟨q5, hq5, h⟩ := bd h
      obtain ⟨q6, hq6, h⟩ := bd h
      obtain ⟨q7, hq7, h⟩ := bd h
      exact aw_aload_n eX5_mend_26 rfl (aw_getf (k := 5) (f := 4) eX5_mend_27 tw_0_155 ⟨by decide, by decide⟩ (by decide) (v := aR 0 0) rfl (aw_aload_n eX5_mend_30 rfl (aw_getf (k := 5) (f := 2) eX5_mend_31 tw_0_153 ⟨by decide, by decide⟩ (by decide) (v := aR 3 0) rfl (aw_callVV (N := mX0_remember) [aR 3 0] eX5_mend_34 tw_1_69 miX0_remember (by decide) (by decide) (by decide) rfl rfl (Nat.le_of_ble_eq_true rfl) (A_X0_remember hq5) (aw_aload_n eX5_mend_37 rfl (aw_getf (k := 5) (f := 2) eX5_mend_38 tw_0_153 ⟨by decide, by decide⟩ (by decide) (v := aR 3 0) rfl (aw_iload_n eX5_mend_41 rfl (aw_callVV (N := mX3_shorten) [aI x1] eX5_mend_42 tw_1_102 miX3_shorten (by decide) (by decide) (by decide) rfl rfl (Nat.le_of_ble_eq_true rfl) (A_X3_shorten hq6) (aw_aload_n eX5_mend_45 rfl (aw_getf (k := 5) (f := 2) eX5_mend_46 tw_0_153 ⟨by decide, by decide⟩ (by decide) (v := aR 3 0) rfl (aw_getf (k := 3) (f := 0) eX5_mend_49 tw_0_63 ⟨by decide, by decide⟩ (by decide) (v := aR 15 0) rfl (aw_iload_n eX5_mend_52 rfl (aw_callSI (N := mX5_at) [aR 15 0, aI x1] eX5_mend_53 tw_1_56 msX5_at (by decide) rfl rfl (Nat.le_of_ble_eq_true rfl) (A_X5_at hq7) (aw_iret eX5_mend_56 rfl (pI_i h)))))))))))))))
    · have h := iq c4 h
      exact aw_bipush eX5_mend_23 k_bipush_m3 (aw_iret eX5_mend_25 rfl (pI_i h))
  · have h := ip c2 h
    exact aw_iconst eX5_mend_7 k_iconst_m1 (aw_iret eX5_mend_8 rfl (pI_i h))
def D_X5_undo (w : Wd) : Option (Int32 × Wd) := (D_X0_takeBack w 0).bind fun q1 => if q1.1 = 0 then (some ((-3), q1.2)) else (some (q1.2.1 0 0 2, q1.2))
set_option maxHeartbeats 4000000 in
set_option maxRecDepth 100000 in
theorem A_X5_undo {X : XS} {w : Wd} {r : Int32 × Wd} (h : D_X5_undo w = some r) : AW 3 X mX5_undo 0 (entA 1 [aR 5 0]) [] w (PI r.1 r.2) := by
  show AW _ _ _ _ [some (aR 5 0)] _ _ _
  unfold D_X5_undo at h
  obtain ⟨q1, hq1, h⟩ := bd h
  refine aw_aload_n eX5_undo_0 rfl (aw_getf (k := 5) (f := 4) eX5_undo_1 tw_0_155 ⟨by decide, by decide⟩ (by decide) (v := aR 0 0) rfl (aw_aload_n eX5_undo_4 rfl (aw_getf (k := 5) (f := 2) eX5_undo_5 tw_0_153 ⟨by decide, by decide⟩ (by decide) (v := aR 3 0) rfl (aw_callVI (N := mX0_takeBack) [aR 3 0] eX5_undo_8 tw_1_110 miX0_takeBack (by decide) (by decide) (by decide) rfl rfl (Nat.le_of_ble_eq_true rfl) (A_X0_takeBack hq1) (aw_if_eq eX5_undo_11 (fun c2 => ?_) (fun c2 => ?_))))))
  · have h := ip c2 h
    exact aw_bipush eX5_undo_24 k_bipush_m3 (aw_iret eX5_undo_26 rfl (pI_i h))
  · have h := iq c2 h
    exact aw_aload_n eX5_undo_14 rfl (aw_getf (k := 5) (f := 4) eX5_undo_15 tw_0_155 ⟨by decide, by decide⟩ (by decide) (v := aR 0 0) rfl (aw_getf (k := 0) (f := 2) eX5_undo_18 tw_0_97 ⟨by decide, by decide⟩ (by decide) (v := aI (q1.2.1 0 0 2)) rfl (aw_goto eX5_undo_21 (aw_iret eX5_undo_26 rfl (pI_i h)))))
def D_X5_most (w : Wd) (x1 : Int32) : Option (Int32 × Wd) := if x1 < 0 then (some ((-2), w)) else (if x1 ≤ 2 then ((D_X2_runFrom w 0).bind fun q3 => if x1 = 0 then (some (q3.1 2 0 4, q3)) else (if x1 = 1 then (some (q3.1 2 0 5, q3)) else (some (q3.1 2 0 6, q3)))) else (some ((-2), w)))
set_option maxHeartbeats 4000000 in
set_option maxRecDepth 100000 in
theorem A_X5_most {X : XS} {w : Wd} {x1 : Int32} {r : Int32 × Wd} (h : D_X5_most w x1 = some r) : AW 13 X mX5_most 0 (entA 2 [aR 5 0, aI x1]) [] w (PI r.1 r.2) := by
  show AW _ _ _ _ [some (aR 5 0), some (aI x1)] _ _ _
  unfold D_X5_most at h
  refine aw_iload_n eX5_most_0 rfl (aw_if_lt eX5_most_1 (fun c1 => ?_) (fun c1 => ?_))
  · have h := ip c1 h
    exact aw_bipush eX5_most_9 k_bipush_m2 (aw_iret eX5_most_11 rfl (pI_i h))
  · have h := iq c1 h
    refine aw_iload_n eX5_most_4 rfl (aw_iconst eX5_most_5 k_iconst_2 (aw_icmp_le eX5_most_6 (fun c2 => ?_) (fun c2 => ?_)))
    · have h := ip c2 h
      obtain ⟨q3, hq3, h⟩ := bd h
      refine aw_aload_n eX5_most_12 rfl (aw_getf (k := 5) (f := 5) eX5_most_13 tw_0_156 ⟨by decide, by decide⟩ (by decide) (v := aR 2 0) rfl (aw_aload_n eX5_most_16 rfl (aw_getf (k := 5) (f := 1) eX5_most_17 tw_0_152 ⟨by decide, by decide⟩ (by decide) (v := aR 1 0) rfl (aw_aload_n eX5_most_20 rfl (aw_getf (k := 5) (f := 2) eX5_most_21 tw_0_153 ⟨by decide, by decide⟩ (by decide) (v := aR 3 0) rfl (aw_callVV (N := mX2_runFrom) [aR 1 0, aR 3 0] eX5_most_24 tw_1_118 miX2_runFrom (by decide) (by decide) (by decide) rfl rfl (Nat.le_of_ble_eq_true rfl) (A_X2_runFrom hq3) (aw_iload_n eX5_most_27 rfl (aw_if_ne eX5_most_28 (fun c4 => ?_) (fun c4 => ?_)))))))))
      · have h := iq c4 h
        refine aw_iload_n eX5_most_39 rfl (aw_iconst eX5_most_40 k_iconst_1 (aw_icmp_ne eX5_most_41 (fun c5 => ?_) (fun c5 => ?_)))
        · have h := iq c5 h
          exact aw_aload_n eX5_most_54 rfl (aw_getf (k := 5) (f := 5) eX5_most_55 tw_0_156 ⟨by decide, by decide⟩ (by decide) (v := aR 2 0) rfl (aw_getf (k := 2) (f := 6) eX5_most_58 tw_0_123 ⟨by decide, by decide⟩ (by decide) (v := aI (q3.1 2 0 6)) rfl (aw_iret eX5_most_61 rfl (pI_i h))))
        · have h := ip c5 h
          exact aw_aload_n eX5_most_44 rfl (aw_getf (k := 5) (f := 5) eX5_most_45 tw_0_156 ⟨by decide, by decide⟩ (by decide) (v := aR 2 0) rfl (aw_getf (k := 2) (f := 5) eX5_most_48 tw_0_121 ⟨by decide, by decide⟩ (by decide) (v := aI (q3.1 2 0 5)) rfl (aw_goto eX5_most_51 (aw_iret eX5_most_61 rfl (pI_i h)))))
      · have h := ip c4 h
        exact aw_aload_n eX5_most_31 rfl (aw_getf (k := 5) (f := 5) eX5_most_32 tw_0_156 ⟨by decide, by decide⟩ (by decide) (v := aR 2 0) rfl (aw_getf (k := 2) (f := 4) eX5_most_35 tw_0_119 ⟨by decide, by decide⟩ (by decide) (v := aI (q3.1 2 0 4)) rfl (aw_iret eX5_most_38 rfl (pI_i h))))
    · have h := iq c2 h
      exact aw_bipush eX5_most_9 k_bipush_m2 (aw_iret eX5_most_11 rfl (pI_i h))
def D_X5_mostFrom (w : Wd) (i1 : Nat) : Option (Int32 × Wd) := if i1 < 19 then (D_X2_runFrom w i1).bind fun q1 => some (q1.1 2 0 4, q1) else none
set_option maxHeartbeats 4000000 in
set_option maxRecDepth 100000 in
theorem A_X5_mostFrom {X : XS} {w : Wd} {i1 : Nat} {r : Int32 × Wd} (h : D_X5_mostFrom w i1 = some r) : AW 13 X mX5_mostFrom 0 (entA 2 [aR 5 0, aR 3 i1]) [] w (PI r.1 r.2) := by
  show AW _ _ _ _ [some (aR 5 0), some (aR 3 i1)] _ _ _
  unfold D_X5_mostFrom at h
  obtain ⟨hi1, h⟩ := ck h
  obtain ⟨q1, hq1, h⟩ := bd h
  exact aw_aload_n eX5_mostFrom_0 rfl (aw_getf (k := 5) (f := 5) eX5_mostFrom_1 tw_0_156 ⟨by decide, by decide⟩ (by decide) (v := aR 2 0) rfl (aw_aload_n eX5_mostFrom_4 rfl (aw_getf (k := 5) (f := 1) eX5_mostFrom_5 tw_0_152 ⟨by decide, by decide⟩ (by decide) (v := aR 1 0) rfl (aw_aload_n eX5_mostFrom_8 rfl (aw_callVV (N := mX2_runFrom) [aR 1 0, aR 3 i1] eX5_mostFrom_9 tw_1_118 miX2_runFrom (by decide) (by decide) (by decide) rfl rfl (Nat.le_of_ble_eq_true rfl) (A_X2_runFrom hq1) (aw_aload_n eX5_mostFrom_12 rfl (aw_getf (k := 5) (f := 5) eX5_mostFrom_13 tw_0_156 ⟨by decide, by decide⟩ (by decide) (v := aR 2 0) rfl (aw_getf (k := 2) (f := 4) eX5_mostFrom_16 tw_0_119 ⟨by decide, by decide⟩ (by decide) (v := aI (q1.1 2 0 4)) rfl (aw_iret eX5_mostFrom_19 rfl (pI_i h))))))))))
def D_X5_slack_22 : Nat → Int32 → Int32 → Wd → Option (Int32 × Wd)
  | 0, _, _, _ => none
  | n + 1, x1, x2, w => if 9 ≤ x2 then (some (9, w)) else (lt (wS w 3 1 1 ((w.1 3 1 1) + (1 : Int32))) fun w5 => (D_X5_mostFrom w5 1).bind fun q6 => if q6.1 = x1 then (lt (x2 + 1) fun x2_8 => D_X5_slack_22 n x1 x2_8 q6.2) else (some (x2, q6.2)))
set_option maxHeartbeats 4000000 in
set_option maxRecDepth 100000 in
theorem A_X5_slack_22 {X : XS} : ∀ (nn : Nat) {x1 : Int32} {x2 : Int32} {w : Wd} {r : Int32 × Wd}, D_X5_slack_22 nn x1 x2 w = some r → AW 14 X mX5_slack 22 [some (aR 5 0), some (aI x1), some (aI x2)] [] w (PI r.1 r.2) := by
  intro nn
  induction nn with
  | zero => intros; rename_i h; cases h
  | succ n ih =>
    intro x1 x2 w r h
    rw [D_X5_slack_22] at h
    refine aw_iload_n eX5_slack_22 rfl (aw_bipush eX5_slack_23 k_bipush_9 (aw_icmp_ge eX5_slack_25 (fun c4 => ?_) (fun c4 => ?_)))
    · have h := ip c4 h
      exact aw_bipush eX5_slack_61 k_bipush_9 (aw_iret eX5_slack_63 rfl (pI_i h))
    · have h := iq c4 h
      obtain ⟨w5, ew5, h⟩ := lt_e h
      obtain ⟨q6, hq6, h⟩ := bd h
      refine aw_aload_n eX5_slack_28 rfl (aw_getf (k := 5) (f := 3) eX5_slack_29 tw_0_154 ⟨by decide, by decide⟩ (by decide) (v := aR 3 1) rfl (aw_dupR eX5_slack_32 (aw_getf (k := 3) (f := 1) eX5_slack_33 tw_0_67 ⟨by decide, by decide⟩ (by decide) (v := aI (w.1 3 1 1)) rfl (aw_iconst eX5_slack_36 k_iconst_1 (aw_iadd eX5_slack_37 (aw_putI (k := 3) (f := 1) eX5_slack_38 tw_0_67 ⟨by decide, by decide⟩ (by decide) ⟨rfl, rfl, rfl, rfl⟩ (aw_wn ew5 (aw_aload_n eX5_slack_41 rfl (aw_aload_n eX5_slack_42 rfl (aw_getf (k := 5) (f := 3) eX5_slack_43 tw_0_154 ⟨by decide, by decide⟩ (by decide) (v := aR 3 1) rfl (aw_callVI (N := mX5_mostFrom) [aR 3 1] eX5_slack_46 tw_1_152 miX5_mostFrom (by decide) (by decide) (by decide) rfl rfl (Nat.le_of_ble_eq_true rfl) (A_X5_mostFrom hq6) (aw_iload_n eX5_slack_49 rfl (aw_icmp_eq eX5_slack_50 (fun c7 => ?_) (fun c7 => ?_))))))))))))))
      · have h := ip c7 h
        obtain ⟨x2_8, ex2_8, h⟩ := lt_e h
        refine aw_iincY (iinc_k k_iconst_1 ex2_8) eX5_slack_55 rfl (by decide) rfl (ls' := [some (aR 5 0), some (aI x1), some (aI x2_8)]) rfl (aw_goto eX5_slack_58 ?_)
        exact ih h
      · have h := iq c7 h
        exact aw_iload_n eX5_slack_53 rfl (aw_iret eX5_slack_54 rfl (pI_i h))
def D_X5_slack (w : Wd) : Option (Int32 × Wd) := (D_X5_mostFrom w 0).bind fun q1 => lt (q1.1) fun x1_2 => (D_X3_take q1.2 1 0).bind fun q3 => D_X5_slack_22 fuelZ x1_2 0 q3
set_option maxHeartbeats 4000000 in
set_option maxRecDepth 100000 in
theorem A_X5_slack {X : XS} {w : Wd} {r : Int32 × Wd} (h : D_X5_slack w = some r) : AW 14 X mX5_slack 0 (entA 3 [aR 5 0]) [] w (PI r.1 r.2) := by
  show AW _ _ _ _ [some (aR 5 0), none, none] _ _ _
  unfold D_X5_slack at h
  obtain ⟨q1, hq1, h⟩ := bd h
  obtain ⟨x1_2, ex1_2, h⟩ := lt_e h
  obtain ⟨q3, hq3, h⟩ := bd h
  refine aw_aload_n eX5_slack_0 rfl (aw_aload_n eX5_slack_1 rfl (aw_getf (k := 5) (f := 2) eX5_slack_2 tw_0_153 ⟨by decide, by decide⟩ (by decide) (v := aR 3 0) rfl (aw_callVI (N := mX5_mostFrom) [aR 3 0] eX5_slack_5 tw_1_152 miX5_mostFrom (by decide) (by decide) (by decide) rfl rfl (Nat.le_of_ble_eq_true rfl) (A_X5_mostFrom hq1) (aw_istore_nY ex1_2 eX5_slack_8 (by decide) rfl (ls' := [some (aR 5 0), some (aI x1_2), none]) rfl (aw_aload_n eX5_slack_9 rfl (aw_getf (k := 5) (f := 3) eX5_slack_10 tw_0_154 ⟨by decide, by decide⟩ (by decide) (v := aR 3 1) rfl (aw_aload_n eX5_slack_13 rfl (aw_getf (k := 5) (f := 2) eX5_slack_14 tw_0_153 ⟨by decide, by decide⟩ (by decide) (v := aR 3 0) rfl (aw_callVV (N := mX3_take) [aR 3 0] eX5_slack_17 tw_1_156 miX3_take (by decide) (by decide) (by decide) rfl rfl (Nat.le_of_ble_eq_true rfl) (A_X3_take hq3) (aw_iconst eX5_slack_20 k_iconst_0 (aw_istore_nY rfl eX5_slack_21 (by decide) rfl (ls' := [some (aR 5 0), some (aI x1_2), some (aI 0)]) rfl ?_)))))))))))
  exact A_X5_slack_22 fuelZ h
def D_X5_mending_9 : Nat → Int32 → Int32 → Int32 → Int32 → Wd → Option (Int32 × Wd)
  | 0, _, _, _, _, _ => none
  | n + 1, x1, x2, x3, x4, w => if 5 ≤ x4 then (if x1 = 0 then (some (x3, w)) else (some (x2, w))) else ((D_X5_at w 15 0 x4).bind fun q3 => if q3 ≤ 0 then (lt (x4 + 1) fun x4_5 => D_X5_mending_9 n x1 x2 x3 x4_5 w) else ((D_X3_take w 1 0).bind fun q6 => (D_X3_shorten q6 1 x4).bind fun q7 => (D_X5_mostFrom q7 1).bind fun q8 => lt (q8.1) fun x5_9 => if x5_9 ≤ x2 then (lt (x4 + 1) fun x4_11 => D_X5_mending_9 n x1 x2 x3 x4_11 q8.2) else (lt (x4 + 1) fun x4_12 => D_X5_mending_9 n x1 x5_9 x4 x4_12 q8.2)))
set_option maxHeartbeats 4000000 in
set_option maxRecDepth 100000 in
theorem A_X5_mending_9 {X : XS} : ∀ (nn : Nat) {x1 : Int32} {x2 : Int32} {x3 : Int32} {x4 : Int32} {w : Wd} {r : Int32 × Wd}, D_X5_mending_9 nn x1 x2 x3 x4 w = some r → AW 14 X mX5_mending 9 [some (aR 5 0), some (aI x1), some (aI x2), some (aI x3), some (aI x4), none] [] w (PI r.1 r.2) := by
  intro nn
  induction nn with
  | zero => intros; rename_i h; cases h
  | succ n ih =>
    intro x1 x2 x3 x4 w r h
    rw [D_X5_mending_9] at h
    refine aw_iload eX5_mending_9 rfl (aw_iconst eX5_mending_11 k_iconst_5 (aw_icmp_ge eX5_mending_12 (fun c1 => ?_) (fun c1 => ?_)))
    · have h := ip c1 h
      refine aw_iload_n eX5_mending_78 rfl (aw_if_eq eX5_mending_79 (fun c2 => ?_) (fun c2 => ?_))
      · have h := ip c2 h
        exact aw_iload_n eX5_mending_86 rfl (aw_iret eX5_mending_87 rfl (pI_i h))
      · have h := iq c2 h
        exact aw_iload_n eX5_mending_82 rfl (aw_goto eX5_mending_83 (aw_iret eX5_mending_87 rfl (pI_i h)))
    · have h := iq c1 h
      obtain ⟨q3, hq3, h⟩ := bd h
      refine aw_aload_n eX5_mending_15 rfl (aw_getf (k := 5) (f := 2) eX5_mending_16 tw_0_153 ⟨by decide, by decide⟩ (by decide) (v := aR 3 0) rfl (aw_getf (k := 3) (f := 0) eX5_mending_19 tw_0_63 ⟨by decide, by decide⟩ (by decide) (v := aR 15 0) rfl (aw_iload eX5_mending_22 rfl (aw_callSI (N := mX5_at) [aR 15 0, aI x4] eX5_mending_24 tw_1_56 msX5_at (by decide) rfl rfl (Nat.le_of_ble_eq_true rfl) (A_X5_at hq3) (aw_if_le eX5_mending_27 (fun c4 => ?_) (fun c4 => ?_))))))
      · have h := ip c4 h
        obtain ⟨x4_5, ex4_5, h⟩ := lt_e h
        refine aw_iincY (iinc_k k_iconst_1 ex4_5) eX5_mending_72 rfl (by decide) rfl (ls' := [some (aR 5 0), some (aI x1), some (aI x2), some (aI x3), some (aI x4_5), none]) rfl (aw_goto eX5_mending_75 ?_)
        exact ih h
      · have h := iq c4 h
        obtain ⟨q6, hq6, h⟩ := bd h
        obtain ⟨q7, hq7, h⟩ := bd h
        obtain ⟨q8, hq8, h⟩ := bd h
        obtain ⟨x5_9, ex5_9, h⟩ := lt_e h
        refine aw_aload_n eX5_mending_30 rfl (aw_getf (k := 5) (f := 3) eX5_mending_31 tw_0_154 ⟨by decide, by decide⟩ (by decide) (v := aR 3 1) rfl (aw_aload_n eX5_mending_34 rfl (aw_getf (k := 5) (f := 2) eX5_mending_35 tw_0_153 ⟨by decide, by decide⟩ (by decide) (v := aR 3 0) rfl (aw_callVV (N := mX3_take) [aR 3 0] eX5_mending_38 tw_1_156 miX3_take (by decide) (by decide) (by decide) rfl rfl (Nat.le_of_ble_eq_true rfl) (A_X3_take hq6) (aw_aload_n eX5_mending_41 rfl (aw_getf (k := 5) (f := 3) eX5_mending_42 tw_0_154 ⟨by decide, by decide⟩ (by decide) (v := aR 3 1) rfl (aw_iload eX5_mending_45 rfl (aw_callVV (N := mX3_shorten) [aI x4] eX5_mending_47 tw_1_102 miX3_shorten (by decide) (by decide) (by decide) rfl rfl (Nat.le_of_ble_eq_true rfl) (A_X3_shorten hq7) (aw_aload_n eX5_mending_50 rfl (aw_aload_n eX5_mending_51 rfl (aw_getf (k := 5) (f := 3) eX5_mending_52 tw_0_154 ⟨by decide, by decide⟩ (by decide) (v := aR 3 1) rfl (aw_callVI (N := mX5_mostFrom) [aR 3 1] eX5_mending_55 tw_1_152 miX5_mostFrom (by decide) (by decide) (by decide) rfl rfl (Nat.le_of_ble_eq_true rfl) (A_X5_mostFrom hq8) (aw_istoreY ex5_9 eX5_mending_58 (by decide) rfl (ls' := [some (aR 5 0), some (aI x1), some (aI x2), some (aI x3), some (aI x4), some (aI x5_9)]) rfl (aw_iload eX5_mending_60 rfl (aw_iload_n eX5_mending_62 rfl (aw_icmp_le eX5_mending_63 (fun c10 => ?_) (fun c10 => ?_)))))))))))))))))
        · have h := ip c10 h
          obtain ⟨x4_11, ex4_11, h⟩ := lt_e h
          refine aw_iincY (iinc_k k_iconst_1 ex4_11) eX5_mending_72 rfl (by decide) rfl (ls' := [some (aR 5 0), some (aI x1), some (aI x2), some (aI x3), some (aI x4_11), some (aI x5_9)]) rfl (aw_goto eX5_mending_75 ?_)
          exact aw_sub (ls' := [some (aR 5 0), some (aI x1), some (aI x2), some (aI x3), some (aI x4_11), none]) ⟨rfl, ⟨rfl, ⟨rfl, ⟨rfl, ⟨rfl, trivial⟩⟩⟩⟩⟩ (ih h)
        · have h := iq c10 h
          obtain ⟨x4_12, ex4_12, h⟩ := lt_e h
          refine aw_iload eX5_mending_66 rfl (aw_istore_nY rfl eX5_mending_68 (by decide) rfl (ls' := [some (aR 5 0), some (aI x1), some (aI x5_9), some (aI x3), some (aI x4), some (aI x5_9)]) rfl (aw_iload eX5_mending_69 rfl (aw_istore_nY rfl eX5_mending_71 (by decide) rfl (ls' := [some (aR 5 0), some (aI x1), some (aI x5_9), some (aI x4), some (aI x4), some (aI x5_9)]) rfl (aw_iincY (iinc_k k_iconst_1 ex4_12) eX5_mending_72 rfl (by decide) rfl (ls' := [some (aR 5 0), some (aI x1), some (aI x5_9), some (aI x4), some (aI x4_12), some (aI x5_9)]) rfl (aw_goto eX5_mending_75 ?_)))))
          exact aw_sub (ls' := [some (aR 5 0), some (aI x1), some (aI x5_9), some (aI x4), some (aI x4_12), none]) ⟨rfl, ⟨rfl, ⟨rfl, ⟨rfl, ⟨rfl, trivial⟩⟩⟩⟩⟩ (ih h)
def D_X5_mending (w : Wd) (x1 : Int32) : Option (Int32 × Wd) := D_X5_mending_9 fuelZ x1 ((-9)) ((-9)) 0 w
set_option maxHeartbeats 4000000 in
set_option maxRecDepth 100000 in
theorem A_X5_mending {X : XS} {w : Wd} {x1 : Int32} {r : Int32 × Wd} (h : D_X5_mending w x1 = some r) : AW 14 X mX5_mending 0 (entA 6 [aR 5 0, aI x1]) [] w (PI r.1 r.2) := by
  show AW _ _ _ _ [some (aR 5 0), some (aI x1), none, none, none, none] _ _ _
  unfold D_X5_mending at h
  refine aw_bipush eX5_mending_0 k_bipush_m9 (aw_istore_nY rfl eX5_mending_2 (by decide) rfl (ls' := [some (aR 5 0), some (aI x1), some (aI ((-9))), none, none, none]) rfl (aw_bipush eX5_mending_3 k_bipush_m9 (aw_istore_nY rfl eX5_mending_5 (by decide) rfl (ls' := [some (aR 5 0), some (aI x1), some (aI ((-9))), some (aI ((-9))), none, none]) rfl (aw_iconst eX5_mending_6 k_iconst_0 (aw_istoreY rfl eX5_mending_7 (by decide) rfl (ls' := [some (aR 5 0), some (aI x1), some (aI ((-9))), some (aI ((-9))), some (aI 0), none]) rfl ?_)))))
  exact A_X5_mending_9 fuelZ h
def D_X5_isRow (w : Wd) (x0 : Int32) (x1 : Int32) : Option (Int32) := if x0 < 1 then (some (0)) else (if 6 < x0 then (some (0)) else (if x1 < 0 then (some (0)) else ((D_X5_at w 40 0 x0).bind fun q4 => if q4 ≤ x1 then (some (0)) else (some (1)))))
set_option maxHeartbeats 4000000 in
set_option maxRecDepth 100000 in
theorem A_X5_isRow {X : XS} {w : Wd} {x0 : Int32} {x1 : Int32} {r : Int32} (h : D_X5_isRow w x0 x1 = some r) : AW 1 X mX5_isRow 0 (entA 2 [aI x0, aI x1]) [] w (PI r w) := by
  show AW _ _ _ _ [some (aI x0), some (aI x1)] _ _ _
  unfold D_X5_isRow at h
  refine aw_iload_n eX5_isRow_0 rfl (aw_iconst eX5_isRow_1 k_iconst_1 (aw_icmp_lt eX5_isRow_2 (fun c1 => ?_) (fun c1 => ?_)))
  · have h := ip c1 h
    exact aw_iconst eX5_isRow_30 k_iconst_0 (aw_zret eX5_isRow_31 rfl (by decide +kernel) (pI_p h))
  · have h := iq c1 h
    refine aw_iload_n eX5_isRow_5 rfl (aw_bipush eX5_isRow_6 k_bipush_6 (aw_icmp_gt eX5_isRow_8 (fun c2 => ?_) (fun c2 => ?_)))
    · have h := ip c2 h
      exact aw_iconst eX5_isRow_30 k_iconst_0 (aw_zret eX5_isRow_31 rfl (by decide +kernel) (pI_p h))
    · have h := iq c2 h
      refine aw_iload_n eX5_isRow_11 rfl (aw_if_lt eX5_isRow_12 (fun c3 => ?_) (fun c3 => ?_))
      · have h := ip c3 h
        exact aw_iconst eX5_isRow_30 k_iconst_0 (aw_zret eX5_isRow_31 rfl (by decide +kernel) (pI_p h))
      · have h := iq c3 h
        obtain ⟨q4, hq4, h⟩ := bd h
        refine aw_iload_n eX5_isRow_15 rfl (aw_getsT eX5_isRow_16 tw_1_168 (aw_iload_n eX5_isRow_19 rfl (aw_callSI (N := mX5_at) [aR 40 0, aI x0] eX5_isRow_20 tw_1_56 msX5_at (by decide) rfl rfl (Nat.le_of_ble_eq_true rfl) (A_X5_at hq4) (aw_icmp_ge eX5_isRow_23 (fun c5 => ?_) (fun c5 => ?_)))))
        · have h := ip c5 h
          exact aw_iconst eX5_isRow_30 k_iconst_0 (aw_zret eX5_isRow_31 rfl (by decide +kernel) (pI_p h))
        · have h := iq c5 h
          exact aw_iconst eX5_isRow_26 k_iconst_1 (aw_goto eX5_isRow_27 (aw_zret eX5_isRow_31 rfl (by decide +kernel) (pI_p h)))
def D_X5_weddingInRow (w : Wd) (x0 : Int32) (x1 : Int32) (x2 : Int32) : Option (Int32) := (D_X5_at w 40 0 ((x0 - (1 : Int32)) - x2)).bind fun q1 => if q1 ≤ 0 then (some ((-1))) else (if ¬ q1 = 0 then some (((x1 / q1) - (x1 / q1) / (10 : Int32) * (10 : Int32)) - (1 : Int32)) else none)
set_option maxHeartbeats 4000000 in
set_option maxRecDepth 100000 in
theorem A_X5_weddingInRow {X : XS} {w : Wd} {x0 : Int32} {x1 : Int32} {x2 : Int32} {r : Int32} (h : D_X5_weddingInRow w x0 x1 x2 = some r) : AW 1 X mX5_weddingInRow 0 (entA 4 [aI x0, aI x1, aI x2]) [] w (PI r w) := by
  show AW _ _ _ _ [some (aI x0), some (aI x1), some (aI x2), none] _ _ _
  unfold D_X5_weddingInRow at h
  obtain ⟨q1, hq1, h⟩ := bd h
  refine aw_getsT eX5_weddingInRow_0 tw_1_168 (aw_iload_n eX5_weddingInRow_3 rfl (aw_iconst eX5_weddingInRow_4 k_iconst_1 (aw_isub eX5_weddingInRow_5 (aw_iload_n eX5_weddingInRow_6 rfl (aw_isub eX5_weddingInRow_7 (aw_callSI (N := mX5_at) [aR 40 0, aI ((x0 - (1 : Int32)) - x2)] eX5_weddingInRow_8 tw_1_56 msX5_at (by decide) rfl rfl (Nat.le_of_ble_eq_true rfl) (A_X5_at hq1) (aw_istore_nY rfl eX5_weddingInRow_11 (by decide) rfl (ls' := [some (aI x0), some (aI x1), some (aI x2), some (aI q1)]) rfl (aw_iload_n eX5_weddingInRow_12 rfl (aw_if_le eX5_weddingInRow_13 (fun c2 => ?_) (fun c2 => ?_))))))))))
  · have h := ip c2 h
    exact aw_iconst eX5_weddingInRow_27 k_iconst_m1 (aw_iret eX5_weddingInRow_28 rfl (pI_p h))
  · have h := iq c2 h
    obtain ⟨hc3, h⟩ := ck h
    exact aw_iload_n eX5_weddingInRow_16 rfl (aw_iload_n eX5_weddingInRow_17 rfl (aw_idiv eX5_weddingInRow_18 hc3 (aw_bipush eX5_weddingInRow_19 k_bipush_10 (aw_irem eX5_weddingInRow_21 (by decide) (aw_iconst eX5_weddingInRow_22 k_iconst_1 (aw_isub eX5_weddingInRow_23 (aw_goto eX5_weddingInRow_24 (aw_iret eX5_weddingInRow_28 rfl (pI_p h)))))))))
def D_X5_judge_24 : Nat → Int32 → Int32 → Int32 → Wd → Option (Int32 × Wd)
  | 0, _, _, _, _ => none
  | n + 1, x1, x2, x3, w => if x1 ≤ x3 then (some ((-9), w)) else ((D_X5_weddingInRow w x1 x2 x3).bind fun q5 => (D_X1_celebrate w 1 q5).bind fun q6 => if q6.1 = 0 then (some (x3, q6.2)) else (lt (x3 + 1) fun x3_8 => D_X5_judge_24 n x1 x2 x3_8 q6.2))
set_option maxHeartbeats 4000000 in
set_option maxRecDepth 100000 in
theorem A_X5_judge_24 {X : XS} : ∀ (nn : Nat) {x1 : Int32} {x2 : Int32} {x3 : Int32} {w : Wd} {r : Int32 × Wd}, D_X5_judge_24 nn x1 x2 x3 w = some r → AW 4 X mX5_judge 24 [some (aR 5 0), some (aI x1), some (aI x2), some (aI x3)] [] w (PI r.1 r.2) := by
  intro nn
  induction nn with
  | zero => intros; rename_i h; cases h
  | succ n ih =>
    intro x1 x2 x3 w r h
    rw [D_X5_judge_24] at h
    refine aw_iload_n eX5_judge_24 rfl (aw_iload_n eX5_judge_25 rfl (aw_icmp_ge eX5_judge_26 (fun c4 => ?_) (fun c4 => ?_)))
    · have h := ip c4 h
      exact aw_bipush eX5_judge_57 k_bipush_m9 (aw_iret eX5_judge_59 rfl (pI_i h))
    · have h := iq c4 h
      obtain ⟨q5, hq5, h⟩ := bd h
      obtain ⟨q6, hq6, h⟩ := bd h
      refine aw_aload_n eX5_judge_29 rfl (aw_getf (k := 5) (f := 1) eX5_judge_30 tw_0_152 ⟨by decide, by decide⟩ (by decide) (v := aR 1 0) rfl (aw_aload_n eX5_judge_33 rfl (aw_getf (k := 5) (f := 3) eX5_judge_34 tw_0_154 ⟨by decide, by decide⟩ (by decide) (v := aR 3 1) rfl (aw_iload_n eX5_judge_37 rfl (aw_iload_n eX5_judge_38 rfl (aw_iload_n eX5_judge_39 rfl (aw_callSI (N := mX5_weddingInRow) [aI x1, aI x2, aI x3] eX5_judge_40 tw_1_170 msX5_weddingInRow (by decide) rfl rfl (Nat.le_of_ble_eq_true rfl) (A_X5_weddingInRow hq5) (aw_callVI (N := mX1_celebrate) [aR 3 1, aI q5] eX5_judge_43 tw_1_81 miX1_celebrate (by decide) (by decide) (by decide) rfl rfl (Nat.le_of_ble_eq_true rfl) (A_X1_celebrate hq6) (aw_if_ne eX5_judge_46 (fun c7 => ?_) (fun c7 => ?_))))))))))
      · have h := iq c7 h
        obtain ⟨x3_8, ex3_8, h⟩ := lt_e h
        refine aw_iincY (iinc_k k_iconst_1 ex3_8) eX5_judge_51 rfl (by decide) rfl (ls' := [some (aR 5 0), some (aI x1), some (aI x2), some (aI x3_8)]) rfl (aw_goto eX5_judge_54 ?_)
        exact ih h
      · have h := ip c7 h
        exact aw_iload_n eX5_judge_49 rfl (aw_iret eX5_judge_50 rfl (pI_i h))
def D_X5_judge (w : Wd) (x1 : Int32) (x2 : Int32) : Option (Int32 × Wd) := (D_X5_isRow w x1 x2).bind fun q1 => if q1 = 0 then (some ((-2), w)) else ((D_X3_take w 1 0).bind fun q3 => D_X5_judge_24 fuelZ x1 x2 0 q3)
set_option maxHeartbeats 4000000 in
set_option maxRecDepth 100000 in
theorem A_X5_judge {X : XS} {w : Wd} {x1 : Int32} {x2 : Int32} {r : Int32 × Wd} (h : D_X5_judge w x1 x2 = some r) : AW 4 X mX5_judge 0 (entA 4 [aR 5 0, aI x1, aI x2]) [] w (PI r.1 r.2) := by
  show AW _ _ _ _ [some (aR 5 0), some (aI x1), some (aI x2), none] _ _ _
  unfold D_X5_judge at h
  obtain ⟨q1, hq1, h⟩ := bd h
  refine aw_iload_n eX5_judge_0 rfl (aw_iload_n eX5_judge_1 rfl (aw_callSI (N := mX5_isRow) [aI x1, aI x2] eX5_judge_2 tw_1_165 msX5_isRow (by decide) rfl rfl (Nat.le_of_ble_eq_true rfl) (A_X5_isRow hq1) (aw_if_ne eX5_judge_5 (fun c2 => ?_) (fun c2 => ?_))))
  · have h := iq c2 h
    obtain ⟨q3, hq3, h⟩ := bd h
    refine aw_aload_n eX5_judge_11 rfl (aw_getf (k := 5) (f := 3) eX5_judge_12 tw_0_154 ⟨by decide, by decide⟩ (by decide) (v := aR 3 1) rfl (aw_aload_n eX5_judge_15 rfl (aw_getf (k := 5) (f := 2) eX5_judge_16 tw_0_153 ⟨by decide, by decide⟩ (by decide) (v := aR 3 0) rfl (aw_callVV (N := mX3_take) [aR 3 0] eX5_judge_19 tw_1_156 miX3_take (by decide) (by decide) (by decide) rfl rfl (Nat.le_of_ble_eq_true rfl) (A_X3_take hq3) (aw_iconst eX5_judge_22 k_iconst_0 (aw_istore_nY rfl eX5_judge_23 (by decide) rfl (ls' := [some (aR 5 0), some (aI x1), some (aI x2), some (aI 0)]) rfl ?_))))))
    exact A_X5_judge_24 fuelZ h
  · have h := ip c2 h
    exact aw_bipush eX5_judge_8 k_bipush_m2 (aw_iret eX5_judge_10 rfl (pI_i h))
def D_X5_later_54 (w : Wd) : Nat → Int32 → Int32 → Int32 → Option (Int32)
  | 0, _, _, _ => none
  | n + 1, x1, x2, x3 => if x3 < 0 then (some ((-9))) else ((D_X1_begin w x1 x3 x2).bind fun q8 => if q8 = ((-9)) then (lt (x3 + (-1)) fun x3_10 => D_X5_later_54 w n x1 x2 x3_10) else (some (x3)))
set_option maxHeartbeats 4000000 in
set_option maxRecDepth 100000 in
theorem A_X5_later_54 {X : XS} {w : Wd} : ∀ (nn : Nat) {x1 : Int32} {x2 : Int32} {x3 : Int32} {r : Int32}, D_X5_later_54 w nn x1 x2 x3 = some r → AW 2 X mX5_later 54 [some (aR 5 0), some (aI x1), some (aI x2), some (aI x3)] [] w (PI r w) := by
  intro nn
  induction nn with
  | zero => intros; rename_i h; cases h
  | succ n ih =>
    intro x1 x2 x3 r h
    rw [D_X5_later_54] at h
    refine aw_iload_n eX5_later_54 rfl (aw_if_lt eX5_later_55 (fun c7 => ?_) (fun c7 => ?_))
    · have h := ip c7 h
      exact aw_bipush eX5_later_81 k_bipush_m9 (aw_iret eX5_later_83 rfl (pI_p h))
    · have h := iq c7 h
      obtain ⟨q8, hq8, h⟩ := bd h
      refine aw_aload_n eX5_later_58 rfl (aw_getf (k := 5) (f := 1) eX5_later_59 tw_0_152 ⟨by decide, by decide⟩ (by decide) (v := aR 1 0) rfl (aw_iload_n eX5_later_62 rfl (aw_iload_n eX5_later_63 rfl (aw_iload_n eX5_later_64 rfl (aw_callVI (N := mX1_begin) [aI x1, aI x3, aI x2] eX5_later_65 tw_1_177 miX1_begin (by decide) (by decide) (by decide) rfl rfl (Nat.le_of_ble_eq_true rfl) (A_X1_begin hq8) (aw_bipush eX5_later_68 k_bipush_m9 (aw_icmp_eq eX5_later_70 (fun c9 => ?_) (fun c9 => ?_))))))))
      · have h := ip c9 h
        obtain ⟨x3_10, ex3_10, h⟩ := lt_e h
        refine aw_iincY (iinc_k k_iconst_m1 ex3_10) eX5_later_75 rfl (by decide) rfl (ls' := [some (aR 5 0), some (aI x1), some (aI x2), some (aI x3_10)]) rfl (aw_goto eX5_later_78 ?_)
        exact ih h
      · have h := iq c9 h
        exact aw_iload_n eX5_later_73 rfl (aw_iret eX5_later_74 rfl (pI_p h))
def D_X5_later (w : Wd) (x1 : Int32) : Option (Int32) := (D_X1_has w x1).bind fun q1 => if q1 = 0 then (some ((-1))) else ((D_X3_isWed w 0 x1).bind fun q3 => if q3 = 0 then ((D_X1_figure w x1 0).bind fun q5 => (D_X3_hoursBetween w 0 (w.1 3 0 2) q5).bind fun q6 => D_X5_later_54 w fuelZ x1 q6 9) else (some ((-3))))
set_option maxHeartbeats 4000000 in
set_option maxRecDepth 100000 in
theorem A_X5_later {X : XS} {w : Wd} {x1 : Int32} {r : Int32} (h : D_X5_later w x1 = some r) : AW 2 X mX5_later 0 (entA 4 [aR 5 0, aI x1]) [] w (PI r w) := by
  show AW _ _ _ _ [some (aR 5 0), some (aI x1), none, none] _ _ _
  unfold D_X5_later at h
  obtain ⟨q1, hq1, h⟩ := bd h
  refine aw_aload_n eX5_later_0 rfl (aw_getf (k := 5) (f := 1) eX5_later_1 tw_0_152 ⟨by decide, by decide⟩ (by decide) (v := aR 1 0) rfl (aw_iload_n eX5_later_4 rfl (aw_callVI (N := mX1_has) [aI x1] eX5_later_5 tw_1_20 miX1_has (by decide) (by decide) (by decide) rfl rfl (Nat.le_of_ble_eq_true rfl) (A_X1_has hq1) (aw_if_ne eX5_later_8 (fun c2 => ?_) (fun c2 => ?_)))))
  · have h := iq c2 h
    obtain ⟨q3, hq3, h⟩ := bd h
    refine aw_aload_n eX5_later_13 rfl (aw_getf (k := 5) (f := 2) eX5_later_14 tw_0_153 ⟨by decide, by decide⟩ (by decide) (v := aR 3 0) rfl (aw_iload_n eX5_later_17 rfl (aw_callVI (N := mX3_isWed) [aI x1] eX5_later_18 tw_1_25 miX3_isWed (by decide) (by decide) (by decide) rfl rfl (Nat.le_of_ble_eq_true rfl) (A_X3_isWed hq3) (aw_if_eq eX5_later_21 (fun c4 => ?_) (fun c4 => ?_)))))
    · have h := ip c4 h
      obtain ⟨q5, hq5, h⟩ := bd h
      obtain ⟨q6, hq6, h⟩ := bd h
      refine aw_aload_n eX5_later_27 rfl (aw_getf (k := 5) (f := 2) eX5_later_28 tw_0_153 ⟨by decide, by decide⟩ (by decide) (v := aR 3 0) rfl (aw_aload_n eX5_later_31 rfl (aw_getf (k := 5) (f := 2) eX5_later_32 tw_0_153 ⟨by decide, by decide⟩ (by decide) (v := aR 3 0) rfl (aw_getf (k := 3) (f := 2) eX5_later_35 tw_0_71 ⟨by decide, by decide⟩ (by decide) (v := aI (w.1 3 0 2)) rfl (aw_aload_n eX5_later_38 rfl (aw_getf (k := 5) (f := 1) eX5_later_39 tw_0_152 ⟨by decide, by decide⟩ (by decide) (v := aR 1 0) rfl (aw_iload_n eX5_later_42 rfl (aw_iconst eX5_later_43 k_iconst_0 (aw_callVI (N := mX1_figure) [aI x1, aI 0] eX5_later_44 tw_1_24 miX1_figure (by decide) (by decide) (by decide) rfl rfl (Nat.le_of_ble_eq_true rfl) (A_X1_figure hq5) (aw_callVI (N := mX3_hoursBetween) [aI (w.1 3 0 2), aI q5] eX5_later_47 tw_1_64 miX3_hoursBetween (by decide) (by decide) (by decide) rfl rfl (Nat.le_of_ble_eq_true rfl) (A_X3_hoursBetween hq6) (aw_istore_nY rfl eX5_later_50 (by decide) rfl (ls' := [some (aR 5 0), some (aI x1), some (aI q6), none]) rfl (aw_bipush eX5_later_51 k_bipush_9 (aw_istore_nY rfl eX5_later_53 (by decide) rfl (ls' := [some (aR 5 0), some (aI x1), some (aI q6), some (aI 9)]) rfl ?_)))))))))))))
      exact A_X5_later_54 fuelZ h
    · have h := iq c4 h
      exact aw_bipush eX5_later_24 k_bipush_m3 (aw_iret eX5_later_26 rfl (pI_p h))
  · have h := ip c2 h
    exact aw_iconst eX5_later_11 k_iconst_m1 (aw_iret eX5_later_12 rfl (pI_p h))
def D_X5_see (w : Wd) (x1 : Int32) (x2 : Int32) : Option (Int32 × Wd) := (D_X5_isChurch x2).bind fun q1 => if q1 = 0 then (some ((-1), w)) else (if x1 < 0 then (some ((-2), w)) else (if x1 ≤ 6 then (if (w.1 5 0 11) < 0 then (some ((-4), w)) else (if 6 ≤ (w.1 5 0 11) then (some ((-4), w)) else (if (w.1 5 0 11) < 6 then (if inB (w.1 5 0 11) 6 then lt (wS w 16 0 (Int32.toNatClampNeg (w.1 5 0 11)) x1) fun w9 => if inB (w9.1 5 0 11) 6 then lt (wS w9 17 0 (Int32.toNatClampNeg (w9.1 5 0 11)) x2) fun w11 => lt (wS w11 5 0 11 ((w11.1 5 0 11) + (1 : Int32))) fun w12 => some (w12.1 5 0 11, w12) else none else none) else (some ((-4), w))))) else (some ((-2), w))))
set_option maxHeartbeats 4000000 in
set_option maxRecDepth 100000 in
theorem A_X5_see {X : XS} {w : Wd} {x1 : Int32} {x2 : Int32} {r : Int32 × Wd} (h : D_X5_see w x1 x2 = some r) : AW 1 X mX5_see 0 (entA 3 [aR 5 0, aI x1, aI x2]) [] w (PI r.1 r.2) := by
  show AW _ _ _ _ [some (aR 5 0), some (aI x1), some (aI x2)] _ _ _
  unfold D_X5_see at h
  obtain ⟨q1, hq1, h⟩ := bd h
  refine aw_iload_n eX5_see_0 rfl (aw_callSI (N := mX5_isChurch) [aI x2] eX5_see_1 tw_1_61 msX5_isChurch (by decide) rfl rfl (Nat.le_of_ble_eq_true rfl) (A_X5_isChurch hq1) (aw_if_ne eX5_see_4 (fun c2 => ?_) (fun c2 => ?_)))
  · have h := iq c2 h
    refine aw_iload_n eX5_see_9 rfl (aw_if_lt eX5_see_10 (fun c3 => ?_) (fun c3 => ?_))
    · have h := ip c3 h
      exact aw_bipush eX5_see_19 k_bipush_m2 (aw_iret eX5_see_21 rfl (pI_i h))
    · have h := iq c3 h
      refine aw_iload_n eX5_see_13 rfl (aw_bipush eX5_see_14 k_bipush_6 (aw_icmp_le eX5_see_16 (fun c4 => ?_) (fun c4 => ?_)))
      · have h := ip c4 h
        refine aw_aload_n eX5_see_22 rfl (aw_getf (k := 5) (f := 11) eX5_see_23 tw_0_162 ⟨by decide, by decide⟩ (by decide) (v := aI (w.1 5 0 11)) rfl (aw_if_lt eX5_see_26 (fun c5 => ?_) (fun c5 => ?_)))
        · have h := ip c5 h
          exact aw_bipush eX5_see_53 k_bipush_m4 (aw_iret eX5_see_55 rfl (pI_i h))
        · have h := iq c5 h
          refine aw_aload_n eX5_see_29 rfl (aw_getf (k := 5) (f := 11) eX5_see_30 tw_0_162 ⟨by decide, by decide⟩ (by decide) (v := aI (w.1 5 0 11)) rfl (aw_aload_n eX5_see_33 rfl (aw_getf (k := 5) (f := 8) eX5_see_34 tw_0_159 ⟨by decide, by decide⟩ (by decide) (v := aR 16 0) rfl (aw_alenK eX5_see_37 rfl (by decide) (v := 6) kl_6 (aw_icmp_ge eX5_see_38 (fun c6 => ?_) (fun c6 => ?_))))))
          · have h := ip c6 h
            exact aw_bipush eX5_see_53 k_bipush_m4 (aw_iret eX5_see_55 rfl (pI_i h))
          · have h := iq c6 h
            refine aw_aload_n eX5_see_41 rfl (aw_getf (k := 5) (f := 11) eX5_see_42 tw_0_162 ⟨by decide, by decide⟩ (by decide) (v := aI (w.1 5 0 11)) rfl (aw_aload_n eX5_see_45 rfl (aw_getf (k := 5) (f := 9) eX5_see_46 tw_0_160 ⟨by decide, by decide⟩ (by decide) (v := aR 17 0) rfl (aw_alenK eX5_see_49 rfl (by decide) (v := 6) kl_6 (aw_icmp_lt eX5_see_50 (fun c7 => ?_) (fun c7 => ?_))))))
            · have h := ip c7 h
              obtain ⟨hc8, h⟩ := ck h
              obtain ⟨w9, ew9, h⟩ := lt_e h
              obtain ⟨hc10, h⟩ := ck h
              obtain ⟨w11, ew11, h⟩ := lt_e h
              obtain ⟨w12, ew12, h⟩ := lt_e h
              exact aw_aload_n eX5_see_56 rfl (aw_getf (k := 5) (f := 8) eX5_see_57 tw_0_159 ⟨by decide, by decide⟩ (by decide) (v := aR 16 0) rfl (aw_aload_n eX5_see_60 rfl (aw_getf (k := 5) (f := 11) eX5_see_61 tw_0_162 ⟨by decide, by decide⟩ (by decide) (v := aI (w.1 5 0 11)) rfl (aw_iload_n eX5_see_64 rfl (aw_iastK (n := 6) eX5_see_65 rfl (by decide) hc8 (j := (Int32.toNatClampNeg (w.1 5 0 11))) rfl (aw_wn ew9 (aw_aload_n eX5_see_66 rfl (aw_getf (k := 5) (f := 9) eX5_see_67 tw_0_160 ⟨by decide, by decide⟩ (by decide) (v := aR 17 0) rfl (aw_aload_n eX5_see_70 rfl (aw_getf (k := 5) (f := 11) eX5_see_71 tw_0_162 ⟨by decide, by decide⟩ (by decide) (v := aI (w9.1 5 0 11)) rfl (aw_iload_n eX5_see_74 rfl (aw_iastK (n := 6) eX5_see_75 rfl (by decide) hc10 (j := (Int32.toNatClampNeg (w9.1 5 0 11))) rfl (aw_wn ew11 (aw_aload_n eX5_see_76 rfl (aw_dupR eX5_see_77 (aw_getf (k := 5) (f := 11) eX5_see_78 tw_0_162 ⟨by decide, by decide⟩ (by decide) (v := aI (w11.1 5 0 11)) rfl (aw_iconst eX5_see_81 k_iconst_1 (aw_iadd eX5_see_82 (aw_putI (k := 5) (f := 11) eX5_see_83 tw_0_162 ⟨by decide, by decide⟩ (by decide) ⟨rfl, rfl, rfl, rfl⟩ (aw_wn ew12 (aw_aload_n eX5_see_86 rfl (aw_getf (k := 5) (f := 11) eX5_see_87 tw_0_162 ⟨by decide, by decide⟩ (by decide) (v := aI (w12.1 5 0 11)) rfl (aw_iret eX5_see_90 rfl (pI_i h))))))))))))))))))))))))
            · have h := iq c7 h
              exact aw_bipush eX5_see_53 k_bipush_m4 (aw_iret eX5_see_55 rfl (pI_i h))
      · have h := iq c4 h
        exact aw_bipush eX5_see_19 k_bipush_m2 (aw_iret eX5_see_21 rfl (pI_i h))
  · have h := ip c2 h
    exact aw_iconst eX5_see_7 k_iconst_m1 (aw_iret eX5_see_8 rfl (pI_i h))
def D_X5_unsee (w : Wd) : Option (Int32 × Wd) := lt (w.1 5 0 11) fun x1_1 => lt (wS w 5 0 11 0) fun w2 => some (x1_1, w2)
set_option maxHeartbeats 4000000 in
set_option maxRecDepth 100000 in
theorem A_X5_unsee {X : XS} {w : Wd} {r : Int32 × Wd} (h : D_X5_unsee w = some r) : AW 0 X mX5_unsee 0 (entA 2 [aR 5 0]) [] w (PI r.1 r.2) := by
  show AW _ _ _ _ [some (aR 5 0), none] _ _ _
  unfold D_X5_unsee at h
  obtain ⟨x1_1, ex1_1, h⟩ := lt_e h
  obtain ⟨w2, ew2, h⟩ := lt_e h
  exact aw_aload_n eX5_unsee_0 rfl (aw_getf (k := 5) (f := 11) eX5_unsee_1 tw_0_162 ⟨by decide, by decide⟩ (by decide) (v := aI (w.1 5 0 11)) rfl (aw_istore_nY ex1_1 eX5_unsee_4 (by decide) rfl (ls' := [some (aR 5 0), some (aI x1_1)]) rfl (aw_aload_n eX5_unsee_5 rfl (aw_iconst eX5_unsee_6 k_iconst_0 (aw_putI (k := 5) (f := 11) eX5_unsee_7 tw_0_162 ⟨by decide, by decide⟩ (by decide) ⟨rfl, rfl, rfl, rfl⟩ (aw_wn ew2 (aw_iload_n eX5_unsee_10 rfl (aw_iret eX5_unsee_11 rfl (pI_i h)))))))))
