def D_X0_clear (w : Wd) : Option (Wd) := lt (wS w 0 0 1 0) fun w1 => lt (wS w1 0 0 2 0) fun w2 => some w2
set_option maxHeartbeats 4000000 in
set_option maxRecDepth 100000 in
theorem A_X0_clear {X : XS} {w : Wd} {r : Wd} (h : D_X0_clear w = some r) : AW 0 X mX0_clear 0 (entA 1 [aR 0 0]) [] w (PV r) := by
  show AW _ _ _ _ [some (aR 0 0)] _ _ _
  unfold D_X0_clear at h
  obtain ⟨w1, ew1, h⟩ := lt_e h
  obtain ⟨w2, ew2, h⟩ := lt_e h
  exact aw_aload_n eX0_clear_0 rfl (aw_iconst eX0_clear_1 k_iconst_0 (aw_putI (k := 0) (f := 1) eX0_clear_2 tw_0_95 ⟨by decide, by decide⟩ (by decide) ⟨rfl, rfl, rfl, rfl⟩ (aw_wn ew1 (aw_aload_n eX0_clear_5 rfl (aw_iconst eX0_clear_6 k_iconst_0 (aw_putI (k := 0) (f := 2) eX0_clear_7 tw_0_96 ⟨by decide, by decide⟩ (by decide) ⟨rfl, rfl, rfl, rfl⟩ (aw_wn ew2 (aw_vret eX0_clear_10 rfl (pV_i h)))))))))
def D_X0_standAt (w : Wd) (x1 : Int32) : Option (Nat) := lt (((w.1 0 0 1) + x1) - ((w.1 0 0 1) + x1) / (14 : Int32) * (14 : Int32)) fun x2_1 => if x2_1 < 0 then (none) else (if 14 ≤ x2_1 then (none) else (if inB x2_1 14 then some (5 + Int32.toNatClampNeg x2_1) else none))
set_option maxHeartbeats 4000000 in
set_option maxRecDepth 100000 in
theorem A_X0_standAt {X : XS} {w : Wd} {x1 : Int32} {r : Nat} (h : D_X0_standAt w x1 = some r) : AW 0 X mX0_standAt 0 (entA 3 [aR 0 0, aI x1]) [] w (PR r w) := by
  show AW _ _ _ _ [some (aR 0 0), some (aI x1), none] _ _ _
  unfold D_X0_standAt at h
  obtain ⟨x2_1, ex2_1, h⟩ := lt_e h
  refine aw_aload_n eX0_standAt_0 rfl (aw_getf (k := 0) (f := 1) eX0_standAt_1 tw_0_95 ⟨by decide, by decide⟩ (by decide) (v := aI (w.1 0 0 1)) rfl (aw_iload_n eX0_standAt_4 rfl (aw_iadd eX0_standAt_5 (aw_bipush eX0_standAt_6 k_bipush_14 (aw_irem eX0_standAt_8 (by decide) (aw_istore_nY ex2_1 eX0_standAt_9 (by decide) rfl (ls' := [some (aR 0 0), some (aI x1), some (aI x2_1)]) rfl (aw_iload_n eX0_standAt_10 rfl (aw_if_lt eX0_standAt_11 (fun c2 => ?_) (fun c2 => ?_)))))))))
  · have h := ip c2 h
    cases h
  · have h := iq c2 h
    refine aw_iload_n eX0_standAt_14 rfl (aw_aload_n eX0_standAt_15 rfl (aw_getf (k := 0) (f := 0) eX0_standAt_16 tw_0_94 ⟨by decide, by decide⟩ (by decide) (v := aR 35 0) rfl (aw_alenR eX0_standAt_19 (by decide) (v := 14) kl_14 (aw_icmp_ge eX0_standAt_20 (fun c3 => ?_) (fun c3 => ?_)))))
    · have h := ip c3 h
      cases h
    · have h := iq c3 h
      obtain ⟨hc4, h⟩ := ck h
      exact aw_aload_n eX0_standAt_23 rfl (aw_getf (k := 0) (f := 0) eX0_standAt_24 tw_0_94 ⟨by decide, by decide⟩ (by decide) (v := aR 35 0) rfl (aw_iload_n eX0_standAt_27 rfl (aw_aald eX0_standAt_28 (by decide) hc4 (aw_goto eX0_standAt_29 (aw_aret eX0_standAt_33 rfl (pR_p h))))))
def D_X5_at (w : Wd) (k0 : Nat) (i0 : Nat) (x1 : Int32) : Option (Int32) := if arrZ k0 i0 = true then if x1 < 0 then (some (0)) else (if (Int32.ofNat (lenZ k0)) ≤ x1 then (some (0)) else (if inB x1 (lenZ k0) then some (rdZ w k0 i0 x1.toNatClampNeg) else none)) else none
set_option maxHeartbeats 4000000 in
set_option maxRecDepth 100000 in
theorem A_X5_at {X : XS} {w : Wd} {k0 : Nat} {i0 : Nat} {x1 : Int32} {r : Int32} (h : D_X5_at w k0 i0 x1 = some r) : AW 0 X mX5_at 0 (entA 2 [aR k0 i0, aI x1]) [] w (PI r w) := by
  show AW _ _ _ _ [some (aR k0 i0), some (aI x1)] _ _ _
  unfold D_X5_at at h
  obtain ⟨hk0, h⟩ := ck h
  refine aw_aload_n eX5_at_0 rfl (aw_ifnull eX5_at_1 (aw_iload_n eX5_at_4 rfl (aw_if_lt eX5_at_5 (fun c1 => ?_) (fun c1 => ?_))))
  · have h := ip c1 h
    exact aw_iconst eX5_at_20 k_iconst_0 (aw_iret eX5_at_21 rfl (pI_p h))
  · have h := iq c1 h
    refine aw_iload_n eX5_at_8 rfl (aw_aload_n eX5_at_9 rfl (aw_alenZ2 eX5_at_10 hk0 (aw_icmp_ge eX5_at_11 (fun c2 => ?_) (fun c2 => ?_))))
    · have h := ip c2 h
      exact aw_iconst eX5_at_20 k_iconst_0 (aw_iret eX5_at_21 rfl (pI_p h))
    · have h := iq c2 h
      obtain ⟨hc3, h⟩ := ck h
      exact aw_aload_n eX5_at_14 rfl (aw_iload_n eX5_at_15 rfl (aw_ialdZ eX5_at_16 hk0 hc3 (aw_goto eX5_at_17 (aw_iret eX5_at_21 rfl (pI_p h)))))
def D_X3_take_31 (i0 : Nat) (i1 : Nat) : Nat → Int32 → Wd → Option (Wd)
  | 0, _, _ => none
  | n + 1, x2, w => if 5 ≤ x2 then (some w) else ((D_X5_at w 15 i1 x2).bind fun q5 => if inB x2 5 then lt (wS w 15 i0 (Int32.toNatClampNeg x2) q5) fun w7 => lt (x2 + 1) fun x2_8 => D_X3_take_31 i0 i1 n x2_8 w7 else none)
set_option maxHeartbeats 4000000 in
set_option maxRecDepth 100000 in
theorem A_X3_take_31 {X : XS} {i0 : Nat} {i1 : Nat} (hi0 : i0 < 19) (hi1 : i1 < 19) : ∀ (nn : Nat) {x2 : Int32} {w : Wd} {r : Wd}, D_X3_take_31 i0 i1 nn x2 w = some r → AW 1 X mX3_take 31 [some (aR 3 i0), some (aR 3 i1), some (aI x2)] [] w (PV r) := by
  intro nn
  induction nn with
  | zero => intros; rename_i h; cases h
  | succ n ih =>
    intro x2 w r h
    rw [D_X3_take_31] at h
    refine aw_iload_n eX3_take_31 rfl (aw_aload_n eX3_take_32 rfl (aw_getf (k := 3) (f := 0) eX3_take_33 tw_0_62 ⟨by decide, by decide⟩ hi0 (v := aR 15 i0) rfl (aw_alenK eX3_take_36 rfl hi0 (v := 5) kl_5 (aw_icmp_ge eX3_take_37 (fun c4 => ?_) (fun c4 => ?_)))))
    · have h := ip c4 h
      exact aw_vret eX3_take_60 rfl (pV_i h)
    · have h := iq c4 h
      obtain ⟨q5, hq5, h⟩ := bd h
      obtain ⟨hc6, h⟩ := ck h
      obtain ⟨w7, ew7, h⟩ := lt_e h
      obtain ⟨x2_8, ex2_8, h⟩ := lt_e h
      refine aw_aload_n eX3_take_40 rfl (aw_getf (k := 3) (f := 0) eX3_take_41 tw_0_62 ⟨by decide, by decide⟩ hi0 (v := aR 15 i0) rfl (aw_iload_n eX3_take_44 rfl (aw_aload_n eX3_take_45 rfl (aw_getf (k := 3) (f := 0) eX3_take_46 tw_0_62 ⟨by decide, by decide⟩ hi1 (v := aR 15 i1) rfl (aw_iload_n eX3_take_49 rfl (aw_callNI (N := mX5_at) [aR 15 i1, aI x2] eX3_take_50 (by simp only [nestsA]; decide +kernel) msX5_at (by decide) rfl rfl (Nat.le_of_ble_eq_true rfl) (A_X5_at hq5) (aw_iastK (n := 5) eX3_take_53 rfl hi0 hc6 (j := (Int32.toNatClampNeg x2)) rfl (aw_wn ew7 (aw_iincY (iinc_k k_iconst_1 ex2_8) eX3_take_54 rfl (by decide) rfl (ls' := [some (aR 3 i0), some (aR 3 i1), some (aI x2_8)]) rfl (aw_goto eX3_take_57 ?_))))))))))
      exact ih h
def D_X3_take (w : Wd) (i0 : Nat) (i1 : Nat) : Option (Wd) := if i0 < 19 then if i1 < 19 then lt (wS w 3 i0 1 (w.1 3 i1 1)) fun w1 => lt (wS w1 3 i0 2 (w1.1 3 i1 2)) fun w2 => lt (wS w2 3 i0 3 (w2.1 3 i1 3)) fun w3 => D_X3_take_31 i0 i1 fuelZ 0 w3 else none else none
set_option maxHeartbeats 4000000 in
set_option maxRecDepth 100000 in
theorem A_X3_take {X : XS} {w : Wd} {i0 : Nat} {i1 : Nat} {r : Wd} (h : D_X3_take w i0 i1 = some r) : AW 1 X mX3_take 0 (entA 3 [aR 3 i0, aR 3 i1]) [] w (PV r) := by
  show AW _ _ _ _ [some (aR 3 i0), some (aR 3 i1), none] _ _ _
  unfold D_X3_take at h
  obtain ⟨hi0, h⟩ := ck h
  obtain ⟨hi1, h⟩ := ck h
  obtain ⟨w1, ew1, h⟩ := lt_e h
  obtain ⟨w2, ew2, h⟩ := lt_e h
  obtain ⟨w3, ew3, h⟩ := lt_e h
  refine aw_aload_n eX3_take_0 rfl (aw_ifnonnull eX3_take_1 (aw_aload_n eX3_take_5 rfl (aw_aload_n eX3_take_6 rfl (aw_getf (k := 3) (f := 1) eX3_take_7 tw_0_64 ⟨by decide, by decide⟩ hi1 (v := aI (w.1 3 i1 1)) rfl (aw_putI (k := 3) (f := 1) eX3_take_10 tw_0_64 ⟨by decide, by decide⟩ hi0 ⟨rfl, rfl, rfl, rfl⟩ (aw_wn ew1 (aw_aload_n eX3_take_13 rfl (aw_aload_n eX3_take_14 rfl (aw_getf (k := 3) (f := 2) eX3_take_15 tw_0_68 ⟨by decide, by decide⟩ hi1 (v := aI (w1.1 3 i1 2)) rfl (aw_putI (k := 3) (f := 2) eX3_take_18 tw_0_68 ⟨by decide, by decide⟩ hi0 ⟨rfl, rfl, rfl, rfl⟩ (aw_wn ew2 (aw_aload_n eX3_take_21 rfl (aw_aload_n eX3_take_22 rfl (aw_getf (k := 3) (f := 3) eX3_take_23 tw_0_72 ⟨by decide, by decide⟩ hi1 (v := aI (w2.1 3 i1 3)) rfl (aw_putI (k := 3) (f := 3) eX3_take_26 tw_0_72 ⟨by decide, by decide⟩ hi0 ⟨rfl, rfl, rfl, rfl⟩ (aw_wn ew3 (aw_iconst eX3_take_29 k_iconst_0 (aw_istore_nY rfl eX3_take_30 (by decide) rfl (ls' := [some (aR 3 i0), some (aR 3 i1), some (aI 0)]) rfl ?_))))))))))))))))))
  exact A_X3_take_31 hi0 hi1 fuelZ h
def D_X0_remember (w : Wd) (i1 : Nat) : Option (Wd) := if i1 < 19 then (D_X0_standAt w (w.1 0 0 2)).bind fun q1 => if q1 < 19 then (D_X3_take w q1 i1).bind fun q3 => if 14 ≤ (q3.1 0 0 2) then (lt (wS q3 0 0 1 (((q3.1 0 0 1) + (1 : Int32)) - ((q3.1 0 0 1) + (1 : Int32)) / (14 : Int32) * (14 : Int32))) fun w5 => some w5) else (lt (wS q3 0 0 2 ((q3.1 0 0 2) + (1 : Int32))) fun w6 => some w6) else none else none
set_option maxHeartbeats 4000000 in
set_option maxRecDepth 100000 in
theorem A_X0_remember {X : XS} {w : Wd} {i1 : Nat} {r : Wd} (h : D_X0_remember w i1 = some r) : AW 2 X mX0_remember 0 (entA 3 [aR 0 0, aR 3 i1]) [] w (PV r) := by
  show AW _ _ _ _ [some (aR 0 0), some (aR 3 i1), none] _ _ _
  unfold D_X0_remember at h
  obtain ⟨hi1, h⟩ := ck h
  obtain ⟨q1, hq1, h⟩ := bd h
  obtain ⟨hv2, h⟩ := ck h
  obtain ⟨q3, hq3, h⟩ := bd h
  refine aw_aload_n eX0_remember_0 rfl (aw_aload_n eX0_remember_1 rfl (aw_getf (k := 0) (f := 2) eX0_remember_2 tw_0_96 ⟨by decide, by decide⟩ (by decide) (v := aI (w.1 0 0 2)) rfl (aw_callVR (N := mX0_standAt) [aI (w.1 0 0 2)] eX0_remember_5 tw_1_73 miX0_standAt (by decide) (by decide) (by decide) rfl rfl (Nat.le_of_ble_eq_true rfl) (A_X0_standAt hq1) (aw_astore_nY eX0_remember_8 (by decide) rfl (ls' := [some (aR 0 0), some (aR 3 i1), some (aR 3 q1)]) rfl (aw_aload_n eX0_remember_9 rfl (aw_ifnonnull eX0_remember_10 (aw_aload_n eX0_remember_14 rfl (aw_aload_n eX0_remember_15 rfl (aw_callVV (N := mX3_take) [aR 3 i1] eX0_remember_16 tw_1_77 miX3_take (by decide) hv2 (by decide) rfl rfl (Nat.le_of_ble_eq_true rfl) (A_X3_take hq3) (aw_aload_n eX0_remember_19 rfl (aw_getf (k := 0) (f := 2) eX0_remember_20 tw_0_96 ⟨by decide, by decide⟩ (by decide) (v := aI (q3.1 0 0 2)) rfl (aw_bipush eX0_remember_23 k_bipush_14 (aw_icmp_ge eX0_remember_25 (fun c4 => ?_) (fun c4 => ?_))))))))))))))
  · have h := ip c4 h
    obtain ⟨w5, ew5, h⟩ := lt_e h
    exact aw_aload_n eX0_remember_41 rfl (aw_aload_n eX0_remember_42 rfl (aw_getf (k := 0) (f := 1) eX0_remember_43 tw_0_95 ⟨by decide, by decide⟩ (by decide) (v := aI (q3.1 0 0 1)) rfl (aw_iconst eX0_remember_46 k_iconst_1 (aw_iadd eX0_remember_47 (aw_bipush eX0_remember_48 k_bipush_14 (aw_irem eX0_remember_50 (by decide) (aw_putI (k := 0) (f := 1) eX0_remember_51 tw_0_95 ⟨by decide, by decide⟩ (by decide) ⟨rfl, rfl, rfl, rfl⟩ (aw_wn ew5 (aw_vret eX0_remember_54 rfl (pV_i h))))))))))
  · have h := iq c4 h
    obtain ⟨w6, ew6, h⟩ := lt_e h
    exact aw_aload_n eX0_remember_28 rfl (aw_dupR eX0_remember_29 (aw_getf (k := 0) (f := 2) eX0_remember_30 tw_0_96 ⟨by decide, by decide⟩ (by decide) (v := aI (q3.1 0 0 2)) rfl (aw_iconst eX0_remember_33 k_iconst_1 (aw_iadd eX0_remember_34 (aw_putI (k := 0) (f := 2) eX0_remember_35 tw_0_96 ⟨by decide, by decide⟩ (by decide) ⟨rfl, rfl, rfl, rfl⟩ (aw_wn ew6 (aw_goto eX0_remember_38 (aw_vret eX0_remember_54 rfl (pV_i h)))))))))
def D_X0_takeBack (w : Wd) (i1 : Nat) : Option (Int32 × Wd) := if i1 < 19 then if 0 < (w.1 0 0 2) then (lt (wS w 0 0 2 ((w.1 0 0 2) - (1 : Int32))) fun w2 => (D_X0_standAt w2 (w2.1 0 0 2)).bind fun q3 => (D_X3_take w2 i1 q3).bind fun q4 => some (1, q4)) else (some (0, w)) else none
set_option maxHeartbeats 4000000 in
set_option maxRecDepth 100000 in
theorem A_X0_takeBack {X : XS} {w : Wd} {i1 : Nat} {r : Int32 × Wd} (h : D_X0_takeBack w i1 = some r) : AW 2 X mX0_takeBack 0 (entA 2 [aR 0 0, aR 3 i1]) [] w (PI r.1 r.2) := by
  show AW _ _ _ _ [some (aR 0 0), some (aR 3 i1)] _ _ _
  unfold D_X0_takeBack at h
  obtain ⟨hi1, h⟩ := ck h
  refine aw_aload_n eX0_takeBack_0 rfl (aw_getf (k := 0) (f := 2) eX0_takeBack_1 tw_0_96 ⟨by decide, by decide⟩ (by decide) (v := aI (w.1 0 0 2)) rfl (aw_if_gt eX0_takeBack_4 (fun c1 => ?_) (fun c1 => ?_)))
  · have h := ip c1 h
    obtain ⟨w2, ew2, h⟩ := lt_e h
    obtain ⟨q3, hq3, h⟩ := bd h
    obtain ⟨q4, hq4, h⟩ := bd h
    exact aw_aload_n eX0_takeBack_9 rfl (aw_dupR eX0_takeBack_10 (aw_getf (k := 0) (f := 2) eX0_takeBack_11 tw_0_96 ⟨by decide, by decide⟩ (by decide) (v := aI (w.1 0 0 2)) rfl (aw_iconst eX0_takeBack_14 k_iconst_1 (aw_isub eX0_takeBack_15 (aw_putI (k := 0) (f := 2) eX0_takeBack_16 tw_0_96 ⟨by decide, by decide⟩ (by decide) ⟨rfl, rfl, rfl, rfl⟩ (aw_wn ew2 (aw_aload_n eX0_takeBack_19 rfl (aw_aload_n eX0_takeBack_20 rfl (aw_aload_n eX0_takeBack_21 rfl (aw_getf (k := 0) (f := 2) eX0_takeBack_22 tw_0_96 ⟨by decide, by decide⟩ (by decide) (v := aI (w2.1 0 0 2)) rfl (aw_callVR (N := mX0_standAt) [aI (w2.1 0 0 2)] eX0_takeBack_25 tw_1_73 miX0_standAt (by decide) (by decide) (by decide) rfl rfl (Nat.le_of_ble_eq_true rfl) (A_X0_standAt hq3) (aw_callVV (N := mX3_take) [aR 3 q3] eX0_takeBack_28 tw_1_77 miX3_take (by decide) hi1 (by decide) rfl rfl (Nat.le_of_ble_eq_true rfl) (A_X3_take hq4) (aw_iconst eX0_takeBack_31 k_iconst_1 (aw_zret eX0_takeBack_32 rfl (by decide +kernel) (pI_i h)))))))))))))))
  · have h := iq c1 h
    exact aw_iconst eX0_takeBack_7 k_iconst_0 (aw_zret eX0_takeBack_8 rfl (by decide +kernel) (pI_i h))
def D_X1_figure (w : Wd) (x1 : Int32) (x2 : Int32) : Option (Int32) := lt ((x1 * (5 : Int32)) + x2) fun x3_1 => if x3_1 < 0 then (some (0)) else (if 30 ≤ x3_1 then (some (0)) else (if inB x3_1 30 then some (w.1 11 0 (Int32.toNatClampNeg x3_1)) else none))
set_option maxHeartbeats 4000000 in
set_option maxRecDepth 100000 in
theorem A_X1_figure {X : XS} {w : Wd} {x1 : Int32} {x2 : Int32} {r : Int32} (h : D_X1_figure w x1 x2 = some r) : AW 0 X mX1_figure 0 (entA 4 [aR 1 0, aI x1, aI x2]) [] w (PI r w) := by
  show AW _ _ _ _ [some (aR 1 0), some (aI x1), some (aI x2), none] _ _ _
  unfold D_X1_figure at h
  obtain ⟨x3_1, ex3_1, h⟩ := lt_e h
  refine aw_iload_n eX1_figure_0 rfl (aw_iconst eX1_figure_1 k_iconst_5 (aw_imul eX1_figure_2 (aw_iload_n eX1_figure_3 rfl (aw_iadd eX1_figure_4 (aw_istore_nY ex3_1 eX1_figure_5 (by decide) rfl (ls' := [some (aR 1 0), some (aI x1), some (aI x2), some (aI x3_1)]) rfl (aw_iload_n eX1_figure_6 rfl (aw_if_lt eX1_figure_7 (fun c2 => ?_) (fun c2 => ?_))))))))
  · have h := ip c2 h
    exact aw_iconst eX1_figure_28 k_iconst_0 (aw_iret eX1_figure_29 rfl (pI_p h))
  · have h := iq c2 h
    refine aw_iload_n eX1_figure_10 rfl (aw_aload_n eX1_figure_11 rfl (aw_getf (k := 1) (f := 0) eX1_figure_12 tw_0_40 ⟨by decide, by decide⟩ (by decide) (v := aR 11 0) rfl (aw_alenK eX1_figure_15 rfl (by decide) (v := 30) kl_30 (aw_icmp_ge eX1_figure_16 (fun c3 => ?_) (fun c3 => ?_)))))
    · have h := ip c3 h
      exact aw_iconst eX1_figure_28 k_iconst_0 (aw_iret eX1_figure_29 rfl (pI_p h))
    · have h := iq c3 h
      obtain ⟨hc4, h⟩ := ck h
      exact aw_aload_n eX1_figure_19 rfl (aw_getf (k := 1) (f := 0) eX1_figure_20 tw_0_40 ⟨by decide, by decide⟩ (by decide) (v := aR 11 0) rfl (aw_iload_n eX1_figure_23 rfl (aw_ialdK (n := 30) eX1_figure_24 rfl (by decide) hc4 (j := (Int32.toNatClampNeg x3_1)) rfl (aw_goto eX1_figure_25 (aw_iret eX1_figure_29 rfl (pI_p h))))))
def D_X4_figure (w : Wd) (x1 : Int32) : Option (Int32) := (D_X5_at w 10 0 x1).bind fun q1 => some (q1 - (48 : Int32))
set_option maxHeartbeats 4000000 in
set_option maxRecDepth 100000 in
theorem A_X4_figure {X : XS} {w : Wd} {x1 : Int32} {r : Int32} (h : D_X4_figure w x1 = some r) : AW 1 X mX4_figure 0 (entA 2 [aR 4 0, aI x1]) [] w (PI r w) := by
  show AW _ _ _ _ [some (aR 4 0), some (aI x1)] _ _ _
  unfold D_X4_figure at h
  obtain ⟨q1, hq1, h⟩ := bd h
  exact aw_aload_n eX4_figure_0 rfl (aw_getf (k := 4) (f := 0) eX4_figure_1 tw_0_24 ⟨by decide, by decide⟩ (by decide) (v := aR 10 0) rfl (aw_iload_n eX4_figure_4 rfl (aw_callNI (N := mX5_at) [aR 10 0, aI x1] eX4_figure_5 (by simp only [nestsA]; decide +kernel) msX5_at (by decide) rfl rfl (Nat.le_of_ble_eq_true rfl) (A_X5_at hq1) (aw_bipush eX4_figure_8 k_bipush_48 (aw_isub eX4_figure_10 (aw_iret eX4_figure_11 rfl (pI_p h)))))))
def D_X1_readFrom_81 : Nat → Int32 → Wd → Option (Wd)
  | 0, _, _ => none
  | n + 1, x2, w => if 6 ≤ x2 then (some w) else ((D_X1_figure w x2 4).bind fun q6 => if q6 = 3 then ((D_X1_figure w x2 3).bind fun q12 => if inB x2 6 then lt (wS w 12 0 (Int32.toNatClampNeg x2) (maxZ 1 (q12 - (1 : Int32)))) fun w14 => lt (x2 + 1) fun x2_15 => D_X1_readFrom_81 n x2_15 w14 else none) else ((D_X1_figure w x2 3).bind fun q8 => if inB x2 6 then lt (wS w 12 0 (Int32.toNatClampNeg x2) (maxZ 1 (q8 - (0 : Int32)))) fun w10 => lt (x2 + 1) fun x2_11 => D_X1_readFrom_81 n x2_11 w10 else none))
set_option maxHeartbeats 4000000 in
set_option maxRecDepth 100000 in
theorem A_X1_readFrom_81 {X : XS} : ∀ (nn : Nat) {x2 : Int32} {w : Wd} {r : Wd}, D_X1_readFrom_81 nn x2 w = some r → AW 2 X mX1_readFrom 81 [some (aR 1 0), none, some (aI x2), none] [] w (PV r) := by
  intro nn
  induction nn with
  | zero => intros; rename_i h; cases h
  | succ n ih =>
    intro x2 w r h
    rw [D_X1_readFrom_81] at h
    refine aw_iload_n eX1_readFrom_81 rfl (aw_aload_n eX1_readFrom_82 rfl (aw_getf (k := 1) (f := 1) eX1_readFrom_83 tw_0_41 ⟨by decide, by decide⟩ (by decide) (v := aR 12 0) rfl (aw_alenK eX1_readFrom_86 rfl (by decide) (v := 6) kl_6 (aw_icmp_ge eX1_readFrom_87 (fun c5 => ?_) (fun c5 => ?_)))))
    · have h := ip c5 h
      exact aw_vret eX1_readFrom_130 rfl (pV_i h)
    · have h := iq c5 h
      obtain ⟨q6, hq6, h⟩ := bd h
      refine aw_aload_n eX1_readFrom_90 rfl (aw_iload_n eX1_readFrom_91 rfl (aw_iconst eX1_readFrom_92 k_iconst_4 (aw_callVI (N := mX1_figure) [aI x2, aI 4] eX1_readFrom_93 tw_1_0 miX1_figure (by decide) (by decide) (by decide) rfl rfl (Nat.le_of_ble_eq_true rfl) (A_X1_figure hq6) (aw_iconst eX1_readFrom_96 k_iconst_3 (aw_icmp_ne eX1_readFrom_97 (fun c7 => ?_) (fun c7 => ?_))))))
      · have h := iq c7 h
        obtain ⟨q8, hq8, h⟩ := bd h
        obtain ⟨hc9, h⟩ := ck h
        obtain ⟨w10, ew10, h⟩ := lt_e h
        obtain ⟨x2_11, ex2_11, h⟩ := lt_e h
        refine aw_iconst eX1_readFrom_104 k_iconst_0 (aw_istore_nY rfl eX1_readFrom_105 (by decide) rfl (ls' := [some (aR 1 0), none, some (aI x2), some (aI 0)]) rfl (aw_aload_n eX1_readFrom_106 rfl (aw_getf (k := 1) (f := 1) eX1_readFrom_107 tw_0_41 ⟨by decide, by decide⟩ (by decide) (v := aR 12 0) rfl (aw_iload_n eX1_readFrom_110 rfl (aw_iconst eX1_readFrom_111 k_iconst_1 (aw_aload_n eX1_readFrom_112 rfl (aw_iload_n eX1_readFrom_113 rfl (aw_iconst eX1_readFrom_114 k_iconst_3 (aw_callVI (N := mX1_figure) [aI x2, aI 3] eX1_readFrom_115 tw_1_0 miX1_figure (by decide) (by decide) (by decide) rfl rfl (Nat.le_of_ble_eq_true rfl) (A_X1_figure hq8) (aw_iload_n eX1_readFrom_118 rfl (aw_isub eX1_readFrom_119 (aw_mmax eX1_readFrom_120 tw_1_4 (by decide) (Nat.le_of_ble_eq_true rfl) (aw_iastK (n := 6) eX1_readFrom_123 rfl (by decide) hc9 (j := (Int32.toNatClampNeg x2)) rfl (aw_wn ew10 (aw_iincY (iinc_k k_iconst_1 ex2_11) eX1_readFrom_124 rfl (by decide) rfl (ls' := [some (aR 1 0), none, some (aI x2_11), some (aI 0)]) rfl (aw_goto eX1_readFrom_127 ?_))))))))))))))))
        exact aw_sub (ls' := [some (aR 1 0), none, some (aI x2_11), none]) ⟨rfl, ⟨rfl, trivial⟩⟩ (ih h)
      · have h := ip c7 h
        obtain ⟨q12, hq12, h⟩ := bd h
        obtain ⟨hc13, h⟩ := ck h
        obtain ⟨w14, ew14, h⟩ := lt_e h
        obtain ⟨x2_15, ex2_15, h⟩ := lt_e h
        refine aw_iconst eX1_readFrom_100 k_iconst_1 (aw_goto eX1_readFrom_101 (aw_istore_nY rfl eX1_readFrom_105 (by decide) rfl (ls' := [some (aR 1 0), none, some (aI x2), some (aI 1)]) rfl (aw_aload_n eX1_readFrom_106 rfl (aw_getf (k := 1) (f := 1) eX1_readFrom_107 tw_0_41 ⟨by decide, by decide⟩ (by decide) (v := aR 12 0) rfl (aw_iload_n eX1_readFrom_110 rfl (aw_iconst eX1_readFrom_111 k_iconst_1 (aw_aload_n eX1_readFrom_112 rfl (aw_iload_n eX1_readFrom_113 rfl (aw_iconst eX1_readFrom_114 k_iconst_3 (aw_callVI (N := mX1_figure) [aI x2, aI 3] eX1_readFrom_115 tw_1_0 miX1_figure (by decide) (by decide) (by decide) rfl rfl (Nat.le_of_ble_eq_true rfl) (A_X1_figure hq12) (aw_iload_n eX1_readFrom_118 rfl (aw_isub eX1_readFrom_119 (aw_mmax eX1_readFrom_120 tw_1_4 (by decide) (Nat.le_of_ble_eq_true rfl) (aw_iastK (n := 6) eX1_readFrom_123 rfl (by decide) hc13 (j := (Int32.toNatClampNeg x2)) rfl (aw_wn ew14 (aw_iincY (iinc_k k_iconst_1 ex2_15) eX1_readFrom_124 rfl (by decide) rfl (ls' := [some (aR 1 0), none, some (aI x2_15), some (aI 1)]) rfl (aw_goto eX1_readFrom_127 ?_)))))))))))))))))
        exact aw_sub (ls' := [some (aR 1 0), none, some (aI x2_15), none]) ⟨rfl, ⟨rfl, trivial⟩⟩ (ih h)
def D_X1_readFrom_25 : Nat → Int32 → Wd → Option (Wd)
  | 0, _, _ => none
  | n + 1, x2, w => if 30 ≤ x2 then (D_X1_readFrom_81 fuelZ 0 w) else (lt ((((8 : Int32) + ((x2 / (5 : Int32)) * (6 : Int32))) + (1 : Int32)) + (x2 - x2 / (5 : Int32) * (5 : Int32))) fun x3_16 => if (w.1 4 0 1) ≤ x3_16 then (if inB x2 30 then lt (wS w 11 0 (Int32.toNatClampNeg x2) 0) fun w19 => lt (x2 + 1) fun x2_20 => D_X1_readFrom_25 n x2_20 w19 else none) else ((D_X4_figure w x3_16).bind fun q21 => if inB x2 30 then lt (wS w 11 0 (Int32.toNatClampNeg x2) q21) fun w23 => lt (x2 + 1) fun x2_24 => D_X1_readFrom_25 n x2_24 w23 else none))
set_option maxHeartbeats 4000000 in
set_option maxRecDepth 100000 in
theorem A_X1_readFrom_25 {X : XS} : ∀ (nn : Nat) {x2 : Int32} {w : Wd} {r : Wd}, D_X1_readFrom_25 nn x2 w = some r → AW 2 X mX1_readFrom 25 [some (aR 1 0), some (aR 4 0), some (aI x2), none] [] w (PV r) := by
  intro nn
  induction nn with
  | zero => intros; rename_i h; cases h
  | succ n ih =>
    intro x2 w r h
    rw [D_X1_readFrom_25] at h
    refine aw_iload_n eX1_readFrom_25 rfl (aw_aload_n eX1_readFrom_26 rfl (aw_getf (k := 1) (f := 0) eX1_readFrom_27 tw_0_40 ⟨by decide, by decide⟩ (by decide) (v := aR 11 0) rfl (aw_alenK eX1_readFrom_30 rfl (by decide) (v := 30) kl_30 (aw_icmp_ge eX1_readFrom_31 (fun c4 => ?_) (fun c4 => ?_)))))
    · have h := ip c4 h
      refine aw_iconst eX1_readFrom_79 k_iconst_0 (aw_istore_nY rfl eX1_readFrom_80 (by decide) rfl (ls' := [some (aR 1 0), some (aR 4 0), some (aI 0), none]) rfl ?_)
      exact aw_sub (ls' := [some (aR 1 0), none, some (aI 0), none]) ⟨rfl, ⟨rfl, trivial⟩⟩ (A_X1_readFrom_81 fuelZ h)
    · have h := iq c4 h
      obtain ⟨x3_16, ex3_16, h⟩ := lt_e h
      refine aw_bipush eX1_readFrom_34 k_bipush_8 (aw_iload_n eX1_readFrom_36 rfl (aw_iconst eX1_readFrom_37 k_iconst_5 (aw_idiv eX1_readFrom_38 (by decide) (aw_bipush eX1_readFrom_39 k_bipush_6 (aw_imul eX1_readFrom_41 (aw_iadd eX1_readFrom_42 (aw_iconst eX1_readFrom_43 k_iconst_1 (aw_iadd eX1_readFrom_44 (aw_iload_n eX1_readFrom_45 rfl (aw_iconst eX1_readFrom_46 k_iconst_5 (aw_irem eX1_readFrom_47 (by decide) (aw_iadd eX1_readFrom_48 (aw_istore_nY ex3_16 eX1_readFrom_49 (by decide) rfl (ls' := [some (aR 1 0), some (aR 4 0), some (aI x2), some (aI x3_16)]) rfl (aw_aload_n eX1_readFrom_50 rfl (aw_getf (k := 1) (f := 0) eX1_readFrom_51 tw_0_40 ⟨by decide, by decide⟩ (by decide) (v := aR 11 0) rfl (aw_iload_n eX1_readFrom_54 rfl (aw_iload_n eX1_readFrom_55 rfl (aw_aload_n eX1_readFrom_56 rfl (aw_getf (k := 4) (f := 1) eX1_readFrom_57 tw_0_26 ⟨by decide, by decide⟩ (by decide) (v := aI (w.1 4 0 1)) rfl (aw_icmp_ge eX1_readFrom_60 (fun c17 => ?_) (fun c17 => ?_)))))))))))))))))))))
      · have h := ip c17 h
        obtain ⟨hc18, h⟩ := ck h
        obtain ⟨w19, ew19, h⟩ := lt_e h
        obtain ⟨x2_20, ex2_20, h⟩ := lt_e h
        refine aw_iconst eX1_readFrom_71 k_iconst_0 (aw_iastK (n := 30) eX1_readFrom_72 rfl (by decide) hc18 (j := (Int32.toNatClampNeg x2)) rfl (aw_wn ew19 (aw_iincY (iinc_k k_iconst_1 ex2_20) eX1_readFrom_73 rfl (by decide) rfl (ls' := [some (aR 1 0), some (aR 4 0), some (aI x2_20), some (aI x3_16)]) rfl (aw_goto eX1_readFrom_76 ?_))))
        exact aw_sub (ls' := [some (aR 1 0), some (aR 4 0), some (aI x2_20), none]) ⟨rfl, ⟨rfl, ⟨rfl, trivial⟩⟩⟩ (ih h)
      · have h := iq c17 h
        obtain ⟨q21, hq21, h⟩ := bd h
        obtain ⟨hc22, h⟩ := ck h
        obtain ⟨w23, ew23, h⟩ := lt_e h
        obtain ⟨x2_24, ex2_24, h⟩ := lt_e h
        refine aw_aload_n eX1_readFrom_63 rfl (aw_iload_n eX1_readFrom_64 rfl (aw_callVI (N := mX4_figure) [aI x3_16] eX1_readFrom_65 tw_0_239 miX4_figure (by decide) (by decide) (by decide) rfl rfl (Nat.le_of_ble_eq_true rfl) (A_X4_figure hq21) (aw_goto eX1_readFrom_68 (aw_iastK (n := 30) eX1_readFrom_72 rfl (by decide) hc22 (j := (Int32.toNatClampNeg x2)) rfl (aw_wn ew23 (aw_iincY (iinc_k k_iconst_1 ex2_24) eX1_readFrom_73 rfl (by decide) rfl (ls' := [some (aR 1 0), some (aR 4 0), some (aI x2_24), some (aI x3_16)]) rfl (aw_goto eX1_readFrom_76 ?_)))))))
        exact aw_sub (ls' := [some (aR 1 0), some (aR 4 0), some (aI x2_24), none]) ⟨rfl, ⟨rfl, ⟨rfl, trivial⟩⟩⟩ (ih h)
def D_X1_readFrom (w : Wd) : Option (Wd) := (D_X4_figure w 1).bind fun q1 => lt (wS w 1 0 3 q1) fun w2 => lt (wS w2 1 0 2 (((w2.1 4 0 1) - (8 : Int32)) / (6 : Int32))) fun w3 => D_X1_readFrom_25 fuelZ 0 w3
set_option maxHeartbeats 4000000 in
set_option maxRecDepth 100000 in
theorem A_X1_readFrom {X : XS} {w : Wd} {r : Wd} (h : D_X1_readFrom w = some r) : AW 2 X mX1_readFrom 0 (entA 4 [aR 1 0, aR 4 0]) [] w (PV r) := by
  show AW _ _ _ _ [some (aR 1 0), some (aR 4 0), none, none] _ _ _
  unfold D_X1_readFrom at h
  obtain ⟨q1, hq1, h⟩ := bd h
  obtain ⟨w2, ew2, h⟩ := lt_e h
  obtain ⟨w3, ew3, h⟩ := lt_e h
  refine aw_aload_n eX1_readFrom_0 rfl (aw_aload_n eX1_readFrom_1 rfl (aw_iconst eX1_readFrom_2 k_iconst_1 (aw_callVI (N := mX4_figure) [aI 1] eX1_readFrom_3 tw_0_239 miX4_figure (by decide) (by decide) (by decide) rfl rfl (Nat.le_of_ble_eq_true rfl) (A_X4_figure hq1) (aw_putI (k := 1) (f := 3) eX1_readFrom_6 tw_0_45 ⟨by decide, by decide⟩ (by decide) ⟨rfl, rfl, rfl, rfl⟩ (aw_wn ew2 (aw_aload_n eX1_readFrom_9 rfl (aw_aload_n eX1_readFrom_10 rfl (aw_getf (k := 4) (f := 1) eX1_readFrom_11 tw_0_26 ⟨by decide, by decide⟩ (by decide) (v := aI (w2.1 4 0 1)) rfl (aw_bipush eX1_readFrom_14 k_bipush_8 (aw_isub eX1_readFrom_16 (aw_bipush eX1_readFrom_17 k_bipush_6 (aw_idiv eX1_readFrom_19 (by decide) (aw_putI (k := 1) (f := 2) eX1_readFrom_20 tw_0_42 ⟨by decide, by decide⟩ (by decide) ⟨rfl, rfl, rfl, rfl⟩ (aw_wn ew3 (aw_iconst eX1_readFrom_23 k_iconst_0 (aw_istore_nY rfl eX1_readFrom_24 (by decide) rfl (ls' := [some (aR 1 0), some (aR 4 0), some (aI 0), none]) rfl ?_))))))))))))))))
  exact A_X1_readFrom_25 fuelZ h
def D_X1_has (w : Wd) (x1 : Int32) : Option (Int32) := if x1 < 0 then (some (0)) else (if (w.1 1 0 2) ≤ x1 then (some (0)) else (some (1)))
set_option maxHeartbeats 4000000 in
set_option maxRecDepth 100000 in
theorem A_X1_has {X : XS} {w : Wd} {x1 : Int32} {r : Int32} (h : D_X1_has w x1 = some r) : AW 0 X mX1_has 0 (entA 2 [aR 1 0, aI x1]) [] w (PI r w) := by
  show AW _ _ _ _ [some (aR 1 0), some (aI x1)] _ _ _
  unfold D_X1_has at h
  refine aw_iload_n eX1_has_0 rfl (aw_if_lt eX1_has_1 (fun c1 => ?_) (fun c1 => ?_))
  · have h := ip c1 h
    exact aw_iconst eX1_has_16 k_iconst_0 (aw_zret eX1_has_17 rfl (by decide +kernel) (pI_p h))
  · have h := iq c1 h
    refine aw_iload_n eX1_has_4 rfl (aw_aload_n eX1_has_5 rfl (aw_getf (k := 1) (f := 2) eX1_has_6 tw_0_42 ⟨by decide, by decide⟩ (by decide) (v := aI (w.1 1 0 2)) rfl (aw_icmp_ge eX1_has_9 (fun c2 => ?_) (fun c2 => ?_))))
    · have h := ip c2 h
      exact aw_iconst eX1_has_16 k_iconst_0 (aw_zret eX1_has_17 rfl (by decide +kernel) (pI_p h))
    · have h := iq c2 h
      exact aw_iconst eX1_has_12 k_iconst_1 (aw_goto eX1_has_13 (aw_zret eX1_has_17 rfl (by decide +kernel) (pI_p h)))
def D_X1_everyone (w : Wd) : Option (Int32) := some (((1 : Int32) <<< ((w.1 1 0 2) &&& 31)) - (1 : Int32))
set_option maxHeartbeats 4000000 in
set_option maxRecDepth 100000 in
theorem A_X1_everyone {X : XS} {w : Wd} {r : Int32} (h : D_X1_everyone w = some r) : AW 0 X mX1_everyone 0 (entA 1 [aR 1 0]) [] w (PI r w) := by
  show AW _ _ _ _ [some (aR 1 0)] _ _ _
  unfold D_X1_everyone at h
  exact aw_iconst eX1_everyone_0 k_iconst_1 (aw_aload_n eX1_everyone_1 rfl (aw_getf (k := 1) (f := 2) eX1_everyone_2 tw_0_42 ⟨by decide, by decide⟩ (by decide) (v := aI (w.1 1 0 2)) rfl (aw_ishl eX1_everyone_5 (aw_iconst eX1_everyone_6 k_iconst_1 (aw_isub eX1_everyone_7 (aw_iret eX1_everyone_8 rfl (pI_p h)))))))
def D_X1_begin_15 (w : Wd) (x1 : Int32) (x2 : Int32) (x3 : Int32) (s0 : Int32) : Option (Int32) := (D_X1_figure w x1 1).bind fun q3 => lt (maxZ ((x2 + x3) + s0) q3) fun x5_4 => (D_X1_figure w x1 2).bind fun q5 => if q5 < x5_4 then (some ((-9))) else ((D_X5_at w 12 0 x1).bind fun q7 => if (w.1 1 0 3) < (x5_4 + q7) then (some ((-9))) else (some (x5_4)))
set_option maxHeartbeats 4000000 in
set_option maxRecDepth 100000 in
theorem A_X1_begin_15 {X : XS} {w : Wd} {x1 : Int32} {x2 : Int32} {x3 : Int32} {s0 : Int32} {r : Int32} (h : D_X1_begin_15 w x1 x2 x3 s0 = some r) : AW 1 X mX1_begin 15 [some (aR 1 0), some (aI x1), some (aI x2), some (aI x3), none, none] [aI s0] w (PI r w) := by
  unfold D_X1_begin_15 at h
  obtain ⟨q3, hq3, h⟩ := bd h
  obtain ⟨x5_4, ex5_4, h⟩ := lt_e h
  obtain ⟨q5, hq5, h⟩ := bd h
  refine aw_istoreY rfl eX1_begin_15 (by decide) rfl (ls' := [some (aR 1 0), some (aI x1), some (aI x2), some (aI x3), some (aI s0), none]) rfl (aw_iload_n eX1_begin_17 rfl (aw_iload_n eX1_begin_18 rfl (aw_iadd eX1_begin_19 (aw_iload eX1_begin_20 rfl (aw_iadd eX1_begin_22 (aw_aload_n eX1_begin_23 rfl (aw_iload_n eX1_begin_24 rfl (aw_iconst eX1_begin_25 k_iconst_1 (aw_callVI (N := mX1_figure) [aI x1, aI 1] eX1_begin_26 tw_1_0 miX1_figure (by decide) (by decide) (by decide) rfl rfl (Nat.le_of_ble_eq_true rfl) (A_X1_figure hq3) (aw_mmax eX1_begin_29 tw_1_4 (by decide) (Nat.le_of_ble_eq_true rfl) (aw_istoreY ex5_4 eX1_begin_32 (by decide) rfl (ls' := [some (aR 1 0), some (aI x1), some (aI x2), some (aI x3), some (aI s0), some (aI x5_4)]) rfl (aw_iload eX1_begin_34 rfl (aw_aload_n eX1_begin_36 rfl (aw_iload_n eX1_begin_37 rfl (aw_iconst eX1_begin_38 k_iconst_2 (aw_callVI (N := mX1_figure) [aI x1, aI 2] eX1_begin_39 tw_1_0 miX1_figure (by decide) (by decide) (by decide) rfl rfl (Nat.le_of_ble_eq_true rfl) (A_X1_figure hq5) (aw_icmp_gt eX1_begin_42 (fun c6 => ?_) (fun c6 => ?_))))))))))))))))))
  · have h := ip c6 h
    exact aw_bipush eX1_begin_68 k_bipush_m9 (aw_iret eX1_begin_70 rfl (pI_p h))
  · have h := iq c6 h
    obtain ⟨q7, hq7, h⟩ := bd h
    refine aw_iload eX1_begin_45 rfl (aw_aload_n eX1_begin_47 rfl (aw_getf (k := 1) (f := 1) eX1_begin_48 tw_0_41 ⟨by decide, by decide⟩ (by decide) (v := aR 12 0) rfl (aw_iload_n eX1_begin_51 rfl (aw_callNI (N := mX5_at) [aR 12 0, aI x1] eX1_begin_52 (by simp only [nestsA]; decide +kernel) msX5_at (by decide) rfl rfl (Nat.le_of_ble_eq_true rfl) (A_X5_at hq7) (aw_iadd eX1_begin_55 (aw_aload_n eX1_begin_56 rfl (aw_getf (k := 1) (f := 3) eX1_begin_57 tw_0_45 ⟨by decide, by decide⟩ (by decide) (v := aI (w.1 1 0 3)) rfl (aw_icmp_gt eX1_begin_60 (fun c8 => ?_) (fun c8 => ?_)))))))))
    · have h := ip c8 h
      exact aw_bipush eX1_begin_68 k_bipush_m9 (aw_iret eX1_begin_70 rfl (pI_p h))
    · have h := iq c8 h
      exact aw_iload eX1_begin_63 rfl (aw_goto eX1_begin_65 (aw_iret eX1_begin_70 rfl (pI_p h)))
def D_X1_begin (w : Wd) (x1 : Int32) (x2 : Int32) (x3 : Int32) : Option (Int32) := (D_X1_figure w x1 4).bind fun q1 => if q1 = 2 then (D_X1_begin_15 w x1 x2 x3 1) else (D_X1_begin_15 w x1 x2 x3 0)
set_option maxHeartbeats 4000000 in
set_option maxRecDepth 100000 in
theorem A_X1_begin {X : XS} {w : Wd} {x1 : Int32} {x2 : Int32} {x3 : Int32} {r : Int32} (h : D_X1_begin w x1 x2 x3 = some r) : AW 1 X mX1_begin 0 (entA 6 [aR 1 0, aI x1, aI x2, aI x3]) [] w (PI r w) := by
  show AW _ _ _ _ [some (aR 1 0), some (aI x1), some (aI x2), some (aI x3), none, none] _ _ _
  unfold D_X1_begin at h
  obtain ⟨q1, hq1, h⟩ := bd h
  refine aw_aload_n eX1_begin_0 rfl (aw_iload_n eX1_begin_1 rfl (aw_iconst eX1_begin_2 k_iconst_4 (aw_callVI (N := mX1_figure) [aI x1, aI 4] eX1_begin_3 tw_1_0 miX1_figure (by decide) (by decide) (by decide) rfl rfl (Nat.le_of_ble_eq_true rfl) (A_X1_figure hq1) (aw_iconst eX1_begin_6 k_iconst_2 (aw_icmp_ne eX1_begin_7 (fun c2 => ?_) (fun c2 => ?_))))))
  · have h := iq c2 h
    refine aw_iconst eX1_begin_14 k_iconst_0 ?_
    exact A_X1_begin_15 h
  · have h := ip c2 h
    refine aw_iconst eX1_begin_10 k_iconst_1 (aw_goto eX1_begin_11 ?_)
    exact A_X1_begin_15 h
def D_X1_ringFree (w : Wd) (x1 : Int32) (x2 : Int32) : Option (Int32) := (D_X5_at w 12 0 x1).bind fun q1 => (D_X1_figure w x1 4).bind fun q2 => if q2 = 1 then (some ((x2 + q1) + (1 : Int32))) else (some ((x2 + q1) + (0 : Int32)))
set_option maxHeartbeats 4000000 in
set_option maxRecDepth 100000 in
theorem A_X1_ringFree {X : XS} {w : Wd} {x1 : Int32} {x2 : Int32} {r : Int32} (h : D_X1_ringFree w x1 x2 = some r) : AW 1 X mX1_ringFree 0 (entA 3 [aR 1 0, aI x1, aI x2]) [] w (PI r w) := by
  show AW _ _ _ _ [some (aR 1 0), some (aI x1), some (aI x2)] _ _ _
  unfold D_X1_ringFree at h
  obtain ⟨q1, hq1, h⟩ := bd h
  obtain ⟨q2, hq2, h⟩ := bd h
  refine aw_iload_n eX1_ringFree_0 rfl (aw_aload_n eX1_ringFree_1 rfl (aw_getf (k := 1) (f := 1) eX1_ringFree_2 tw_0_41 ⟨by decide, by decide⟩ (by decide) (v := aR 12 0) rfl (aw_iload_n eX1_ringFree_5 rfl (aw_callNI (N := mX5_at) [aR 12 0, aI x1] eX1_ringFree_6 (by simp only [nestsA]; decide +kernel) msX5_at (by decide) rfl rfl (Nat.le_of_ble_eq_true rfl) (A_X5_at hq1) (aw_iadd eX1_ringFree_9 (aw_aload_n eX1_ringFree_10 rfl (aw_iload_n eX1_ringFree_11 rfl (aw_iconst eX1_ringFree_12 k_iconst_4 (aw_callVI (N := mX1_figure) [aI x1, aI 4] eX1_ringFree_13 tw_1_0 miX1_figure (by decide) (by decide) (by decide) rfl rfl (Nat.le_of_ble_eq_true rfl) (A_X1_figure hq2) (aw_iconst eX1_ringFree_16 k_iconst_1 (aw_icmp_ne eX1_ringFree_17 (fun c3 => ?_) (fun c3 => ?_))))))))))))
  · have h := iq c3 h
    exact aw_iconst eX1_ringFree_24 k_iconst_0 (aw_iadd eX1_ringFree_25 (aw_iret eX1_ringFree_26 rfl (pI_p h)))
  · have h := ip c3 h
    exact aw_iconst eX1_ringFree_20 k_iconst_1 (aw_goto eX1_ringFree_21 (aw_iadd eX1_ringFree_25 (aw_iret eX1_ringFree_26 rfl (pI_p h))))
def D_X3_hoursBetween_9 (w : Wd) (i0 : Nat) : Nat → Int32 → Int32 → Int32 → Int32 → Option (Int32)
  | 0, _, _, _, _ => none
  | n + 1, x1, x2, x3, x4 => if (maxZ x1 x2) ≤ x4 then (some (x3)) else ((D_X5_at w 15 i0 x4).bind fun q3 => lt (x3 + q3) fun x3_4 => lt (x4 + 1) fun x4_5 => D_X3_hoursBetween_9 w i0 n x1 x2 x3_4 x4_5)
set_option maxHeartbeats 4000000 in
set_option maxRecDepth 100000 in
theorem A_X3_hoursBetween_9 {X : XS} {w : Wd} {i0 : Nat} (hi0 : i0 < 19) : ∀ (nn : Nat) {x1 : Int32} {x2 : Int32} {x3 : Int32} {x4 : Int32} {r : Int32}, D_X3_hoursBetween_9 w i0 nn x1 x2 x3 x4 = some r → AW 1 X mX3_hoursBetween 9 [some (aR 3 i0), some (aI x1), some (aI x2), some (aI x3), some (aI x4)] [] w (PI r w) := by
  intro nn
  induction nn with
  | zero => intros; rename_i h; cases h
  | succ n ih =>
    intro x1 x2 x3 x4 r h
    rw [D_X3_hoursBetween_9] at h
    refine aw_iload eX3_hoursBetween_9 rfl (aw_iload_n eX3_hoursBetween_11 rfl (aw_iload_n eX3_hoursBetween_12 rfl (aw_mmax eX3_hoursBetween_13 tw_1_42 (by decide) (Nat.le_of_ble_eq_true rfl) (aw_icmp_ge eX3_hoursBetween_16 (fun c2 => ?_) (fun c2 => ?_)))))
    · have h := ip c2 h
      exact aw_iload_n eX3_hoursBetween_37 rfl (aw_iret eX3_hoursBetween_38 rfl (pI_p h))
    · have h := iq c2 h
      obtain ⟨q3, hq3, h⟩ := bd h
      obtain ⟨x3_4, ex3_4, h⟩ := lt_e h
      obtain ⟨x4_5, ex4_5, h⟩ := lt_e h
      refine aw_iload_n eX3_hoursBetween_19 rfl (aw_aload_n eX3_hoursBetween_20 rfl (aw_getf (k := 3) (f := 0) eX3_hoursBetween_21 tw_0_62 ⟨by decide, by decide⟩ hi0 (v := aR 15 i0) rfl (aw_iload eX3_hoursBetween_24 rfl (aw_callNI (N := mX5_at) [aR 15 i0, aI x4] eX3_hoursBetween_26 (by simp only [nestsA]; decide +kernel) msX5_at (by decide) rfl rfl (Nat.le_of_ble_eq_true rfl) (A_X5_at hq3) (aw_iadd eX3_hoursBetween_29 (aw_istore_nY ex3_4 eX3_hoursBetween_30 (by decide) rfl (ls' := [some (aR 3 i0), some (aI x1), some (aI x2), some (aI x3_4), some (aI x4)]) rfl (aw_iincY (iinc_k k_iconst_1 ex4_5) eX3_hoursBetween_31 rfl (by decide) rfl (ls' := [some (aR 3 i0), some (aI x1), some (aI x2), some (aI x3_4), some (aI x4_5)]) rfl (aw_goto eX3_hoursBetween_34 ?_))))))))
      exact ih h
def D_X3_hoursBetween (w : Wd) (i0 : Nat) (x1 : Int32) (x2 : Int32) : Option (Int32) := if i0 < 19 then lt (minZ x1 x2) fun x4_1 => D_X3_hoursBetween_9 w i0 fuelZ x1 x2 0 x4_1 else none
set_option maxHeartbeats 4000000 in
set_option maxRecDepth 100000 in
theorem A_X3_hoursBetween {X : XS} {w : Wd} {i0 : Nat} {x1 : Int32} {x2 : Int32} {r : Int32} (h : D_X3_hoursBetween w i0 x1 x2 = some r) : AW 1 X mX3_hoursBetween 0 (entA 5 [aR 3 i0, aI x1, aI x2]) [] w (PI r w) := by
  show AW _ _ _ _ [some (aR 3 i0), some (aI x1), some (aI x2), none, none] _ _ _
  unfold D_X3_hoursBetween at h
  obtain ⟨hi0, h⟩ := ck h
  obtain ⟨x4_1, ex4_1, h⟩ := lt_e h
  refine aw_iconst eX3_hoursBetween_0 k_iconst_0 (aw_istore_nY rfl eX3_hoursBetween_1 (by decide) rfl (ls' := [some (aR 3 i0), some (aI x1), some (aI x2), some (aI 0), none]) rfl (aw_iload_n eX3_hoursBetween_2 rfl (aw_iload_n eX3_hoursBetween_3 rfl (aw_mmin eX3_hoursBetween_4 tw_1_39 (by decide) (Nat.le_of_ble_eq_true rfl) (aw_istoreY ex4_1 eX3_hoursBetween_7 (by decide) rfl (ls' := [some (aR 3 i0), some (aI x1), some (aI x2), some (aI 0), some (aI x4_1)]) rfl ?_)))))
  exact A_X3_hoursBetween_9 hi0 fuelZ h
def D_X3_isWed (w : Wd) (i0 : Nat) (x1 : Int32) : Option (Int32) := if i0 < 19 then if x1 < 0 then (some (0)) else (if 6 ≤ x1 then (some (0)) else (if (((w.1 3 i0 3) >>> (x1 &&& 31)) &&& (1 : Int32)) = 0 then (some (0)) else (some (1)))) else none
set_option maxHeartbeats 4000000 in
set_option maxRecDepth 100000 in
theorem A_X3_isWed {X : XS} {w : Wd} {i0 : Nat} {x1 : Int32} {r : Int32} (h : D_X3_isWed w i0 x1 = some r) : AW 0 X mX3_isWed 0 (entA 2 [aR 3 i0, aI x1]) [] w (PI r w) := by
  show AW _ _ _ _ [some (aR 3 i0), some (aI x1)] _ _ _
  unfold D_X3_isWed at h
  obtain ⟨hi0, h⟩ := ck h
  refine aw_iload_n eX3_isWed_0 rfl (aw_if_lt eX3_isWed_1 (fun c1 => ?_) (fun c1 => ?_))
  · have h := ip c1 h
    exact aw_iconst eX3_isWed_25 k_iconst_0 (aw_zret eX3_isWed_26 rfl (by decide +kernel) (pI_p h))
  · have h := iq c1 h
    refine aw_iload_n eX3_isWed_4 rfl (aw_bipush eX3_isWed_5 k_bipush_6 (aw_icmp_ge eX3_isWed_7 (fun c2 => ?_) (fun c2 => ?_)))
    · have h := ip c2 h
      exact aw_iconst eX3_isWed_25 k_iconst_0 (aw_zret eX3_isWed_26 rfl (by decide +kernel) (pI_p h))
    · have h := iq c2 h
      refine aw_aload_n eX3_isWed_10 rfl (aw_getf (k := 3) (f := 3) eX3_isWed_11 tw_0_72 ⟨by decide, by decide⟩ hi0 (v := aI (w.1 3 i0 3)) rfl (aw_iload_n eX3_isWed_14 rfl (aw_ishr eX3_isWed_15 (aw_iconst eX3_isWed_16 k_iconst_1 (aw_iand eX3_isWed_17 (aw_if_eq eX3_isWed_18 (fun c3 => ?_) (fun c3 => ?_)))))))
      · have h := ip c3 h
        exact aw_iconst eX3_isWed_25 k_iconst_0 (aw_zret eX3_isWed_26 rfl (by decide +kernel) (pI_p h))
      · have h := iq c3 h
        exact aw_iconst eX3_isWed_21 k_iconst_1 (aw_goto eX3_isWed_22 (aw_zret eX3_isWed_26 rfl (by decide +kernel) (pI_p h)))
def D_X1_beginOn (w : Wd) (i1 : Nat) (x2 : Int32) : Option (Int32) := if i1 < 19 then (D_X1_has w x2).bind fun q1 => if q1 = 0 then (some ((-9))) else ((D_X3_isWed w i1 x2).bind fun q3 => if q3 = 0 then ((D_X1_figure w x2 0).bind fun q5 => (D_X3_hoursBetween w i1 (w.1 3 i1 2) q5).bind fun q6 => (D_X1_begin w x2 (w.1 3 i1 1) q6).bind fun q7 => some (q7)) else (some ((-9)))) else none
set_option maxHeartbeats 4000000 in
set_option maxRecDepth 100000 in
theorem A_X1_beginOn {X : XS} {w : Wd} {i1 : Nat} {x2 : Int32} {r : Int32} (h : D_X1_beginOn w i1 x2 = some r) : AW 2 X mX1_beginOn 0 (entA 3 [aR 1 0, aR 3 i1, aI x2]) [] w (PI r w) := by
  show AW _ _ _ _ [some (aR 1 0), some (aR 3 i1), some (aI x2)] _ _ _
  unfold D_X1_beginOn at h
  obtain ⟨hi1, h⟩ := ck h
  obtain ⟨q1, hq1, h⟩ := bd h
  refine aw_aload_n eX1_beginOn_0 rfl (aw_iload_n eX1_beginOn_1 rfl (aw_callVI (N := mX1_has) [aI x2] eX1_beginOn_2 tw_1_33 miX1_has (by decide) (by decide) (by decide) rfl rfl (Nat.le_of_ble_eq_true rfl) (A_X1_has hq1) (aw_if_eq eX1_beginOn_5 (fun c2 => ?_) (fun c2 => ?_))))
  · have h := ip c2 h
    exact aw_bipush eX1_beginOn_16 k_bipush_m9 (aw_iret eX1_beginOn_18 rfl (pI_p h))
  · have h := iq c2 h
    obtain ⟨q3, hq3, h⟩ := bd h
    refine aw_aload_n eX1_beginOn_8 rfl (aw_iload_n eX1_beginOn_9 rfl (aw_callVI (N := mX3_isWed) [aI x2] eX1_beginOn_10 tw_1_34 miX3_isWed (by decide) hi1 (by decide) rfl rfl (Nat.le_of_ble_eq_true rfl) (A_X3_isWed hq3) (aw_if_eq eX1_beginOn_13 (fun c4 => ?_) (fun c4 => ?_))))
    · have h := ip c4 h
      obtain ⟨q5, hq5, h⟩ := bd h
      obtain ⟨q6, hq6, h⟩ := bd h
      obtain ⟨q7, hq7, h⟩ := bd h
      exact aw_aload_n eX1_beginOn_19 rfl (aw_iload_n eX1_beginOn_20 rfl (aw_aload_n eX1_beginOn_21 rfl (aw_getf (k := 3) (f := 1) eX1_beginOn_22 tw_0_66 ⟨by decide, by decide⟩ hi1 (v := aI (w.1 3 i1 1)) rfl (aw_aload_n eX1_beginOn_25 rfl (aw_aload_n eX1_beginOn_26 rfl (aw_getf (k := 3) (f := 2) eX1_beginOn_27 tw_0_70 ⟨by decide, by decide⟩ hi1 (v := aI (w.1 3 i1 2)) rfl (aw_aload_n eX1_beginOn_30 rfl (aw_iload_n eX1_beginOn_31 rfl (aw_iconst eX1_beginOn_32 k_iconst_0 (aw_callVI (N := mX1_figure) [aI x2, aI 0] eX1_beginOn_33 tw_1_0 miX1_figure (by decide) (by decide) (by decide) rfl rfl (Nat.le_of_ble_eq_true rfl) (A_X1_figure hq5) (aw_callVI (N := mX3_hoursBetween) [aI (w.1 3 i1 2), aI q5] eX1_beginOn_36 tw_1_35 miX3_hoursBetween (by decide) hi1 (by decide) rfl rfl (Nat.le_of_ble_eq_true rfl) (A_X3_hoursBetween hq6) (aw_callVI (N := mX1_begin) [aI x2, aI (w.1 3 i1 1), aI q6] eX1_beginOn_39 tw_1_44 miX1_begin (by decide) (by decide) (by decide) rfl rfl (Nat.le_of_ble_eq_true rfl) (A_X1_begin hq7) (aw_iret eX1_beginOn_42 rfl (pI_p h))))))))))))))
    · have h := iq c4 h
      exact aw_bipush eX1_beginOn_16 k_bipush_m9 (aw_iret eX1_beginOn_18 rfl (pI_p h))
def D_X1_celebrate (w : Wd) (i1 : Nat) (x2 : Int32) : Option (Int32 × Wd) := if i1 < 19 then (D_X1_beginOn w i1 x2).bind fun q1 => if q1 = ((-9)) then (some (0, w)) else ((D_X1_ringFree w x2 q1).bind fun q3 => lt (wS w 3 i1 1 q3) fun w4 => (D_X1_figure w4 x2 0).bind fun q5 => lt (wS w4 3 i1 2 q5) fun w6 => lt (wS w6 3 i1 3 ((w6.1 3 i1 3) ||| ((1 : Int32) <<< (x2 &&& 31)))) fun w7 => some (1, w7)) else none
set_option maxHeartbeats 4000000 in
set_option maxRecDepth 100000 in
theorem A_X1_celebrate {X : XS} {w : Wd} {i1 : Nat} {x2 : Int32} {r : Int32 × Wd} (h : D_X1_celebrate w i1 x2 = some r) : AW 3 X mX1_celebrate 0 (entA 4 [aR 1 0, aR 3 i1, aI x2]) [] w (PI r.1 r.2) := by
  show AW _ _ _ _ [some (aR 1 0), some (aR 3 i1), some (aI x2), none] _ _ _
  unfold D_X1_celebrate at h
  obtain ⟨hi1, h⟩ := ck h
  obtain ⟨q1, hq1, h⟩ := bd h
  refine aw_aload_n eX1_celebrate_0 rfl (aw_aload_n eX1_celebrate_1 rfl (aw_iload_n eX1_celebrate_2 rfl (aw_callVI (N := mX1_beginOn) [aR 3 i1, aI x2] eX1_celebrate_3 tw_1_85 miX1_beginOn (by decide) (by decide) (by decide) rfl rfl (Nat.le_of_ble_eq_true rfl) (A_X1_beginOn hq1) (aw_istore_nY rfl eX1_celebrate_6 (by decide) rfl (ls' := [some (aR 1 0), some (aR 3 i1), some (aI x2), some (aI q1)]) rfl (aw_iload_n eX1_celebrate_7 rfl (aw_bipush eX1_celebrate_8 k_bipush_m9 (aw_icmp_ne eX1_celebrate_10 (fun c2 => ?_) (fun c2 => ?_))))))))
  · have h := iq c2 h
    obtain ⟨q3, hq3, h⟩ := bd h
    obtain ⟨w4, ew4, h⟩ := lt_e h
    obtain ⟨q5, hq5, h⟩ := bd h
    obtain ⟨w6, ew6, h⟩ := lt_e h
    obtain ⟨w7, ew7, h⟩ := lt_e h
    exact aw_aload_n eX1_celebrate_15 rfl (aw_aload_n eX1_celebrate_16 rfl (aw_iload_n eX1_celebrate_17 rfl (aw_iload_n eX1_celebrate_18 rfl (aw_callVI (N := mX1_ringFree) [aI x2, aI q1] eX1_celebrate_19 tw_1_86 miX1_ringFree (by decide) (by decide) (by decide) rfl rfl (Nat.le_of_ble_eq_true rfl) (A_X1_ringFree hq3) (aw_putI (k := 3) (f := 1) eX1_celebrate_22 tw_0_66 ⟨by decide, by decide⟩ hi1 ⟨rfl, rfl, rfl, rfl⟩ (aw_wn ew4 (aw_aload_n eX1_celebrate_25 rfl (aw_aload_n eX1_celebrate_26 rfl (aw_iload_n eX1_celebrate_27 rfl (aw_iconst eX1_celebrate_28 k_iconst_0 (aw_callVI (N := mX1_figure) [aI x2, aI 0] eX1_celebrate_29 tw_1_0 miX1_figure (by decide) (by decide) (by decide) rfl rfl (Nat.le_of_ble_eq_true rfl) (A_X1_figure hq5) (aw_putI (k := 3) (f := 2) eX1_celebrate_32 tw_0_70 ⟨by decide, by decide⟩ hi1 ⟨rfl, rfl, rfl, rfl⟩ (aw_wn ew6 (aw_aload_n eX1_celebrate_35 rfl (aw_dupR eX1_celebrate_36 (aw_getf (k := 3) (f := 3) eX1_celebrate_37 tw_0_74 ⟨by decide, by decide⟩ hi1 (v := aI (w6.1 3 i1 3)) rfl (aw_iconst eX1_celebrate_40 k_iconst_1 (aw_iload_n eX1_celebrate_41 rfl (aw_ishl eX1_celebrate_42 (aw_ior eX1_celebrate_43 (aw_putI (k := 3) (f := 3) eX1_celebrate_44 tw_0_74 ⟨by decide, by decide⟩ hi1 ⟨rfl, rfl, rfl, rfl⟩ (aw_wn ew7 (aw_iconst eX1_celebrate_47 k_iconst_1 (aw_zret eX1_celebrate_48 rfl (by decide +kernel) (pI_i h)))))))))))))))))))))))))
  · have h := ip c2 h
    exact aw_iconst eX1_celebrate_13 k_iconst_0 (aw_zret eX1_celebrate_14 rfl (by decide +kernel) (pI_i h))
def D_X2_reset_77 (i1 : Nat) : Nat → Int32 → Wd → Option (Wd)
  | 0, _, _ => none
  | n + 1, x3, w => if 64 ≤ x3 then (some w) else (if inB x3 64 then lt (wS w 14 0 (Int32.toNatClampNeg x3) 0) fun w12 => lt (x3 + 1) fun x3_13 => D_X2_reset_77 i1 n x3_13 w12 else none)
set_option maxHeartbeats 4000000 in
set_option maxRecDepth 100000 in
theorem A_X2_reset_77 {X : XS} {i1 : Nat} (hi1 : i1 < 19) : ∀ (nn : Nat) {x3 : Int32} {w : Wd} {r : Wd}, D_X2_reset_77 i1 nn x3 w = some r → AW 2 X mX2_reset 77 [some (aR 2 0), none, none, some (aI x3)] [] w (PV r) := by
  intro nn
  induction nn with
  | zero => intros; rename_i h; cases h
  | succ n ih =>
    intro x3 w r h
    rw [D_X2_reset_77] at h
    refine aw_iload_n eX2_reset_77 rfl (aw_aload_n eX2_reset_78 rfl (aw_getf (k := 2) (f := 2) eX2_reset_79 tw_0_115 ⟨by decide, by decide⟩ (by decide) (v := aR 14 0) rfl (aw_alenK eX2_reset_82 rfl (by decide) (v := 64) kl_64 (aw_icmp_ge eX2_reset_83 (fun c10 => ?_) (fun c10 => ?_)))))
    · have h := ip c10 h
      exact aw_vret eX2_reset_99 rfl (pV_i h)
    · have h := iq c10 h
      obtain ⟨hc11, h⟩ := ck h
      obtain ⟨w12, ew12, h⟩ := lt_e h
      obtain ⟨x3_13, ex3_13, h⟩ := lt_e h
      refine aw_aload_n eX2_reset_86 rfl (aw_getf (k := 2) (f := 2) eX2_reset_87 tw_0_115 ⟨by decide, by decide⟩ (by decide) (v := aR 14 0) rfl (aw_iload_n eX2_reset_90 rfl (aw_iconst eX2_reset_91 k_iconst_0 (aw_iastK (n := 64) eX2_reset_92 rfl (by decide) hc11 (j := (Int32.toNatClampNeg x3)) rfl (aw_wn ew12 (aw_iincY (iinc_k k_iconst_1 ex3_13) eX2_reset_93 rfl (by decide) rfl (ls' := [some (aR 2 0), none, none, some (aI x3_13)]) rfl (aw_goto eX2_reset_96 ?_)))))))
      exact ih h
def D_X2_reset_52 (i1 : Nat) : Nat → Int32 → Wd → Option (Wd)
  | 0, _, _ => none
  | n + 1, x3, w => if 7 ≤ x3 then (D_X2_reset_77 i1 fuelZ 0 w) else (if inB x3 7 then lt (wS w 13 0 (Int32.toNatClampNeg x3) 63) fun w15 => lt (x3 + 1) fun x3_16 => D_X2_reset_52 i1 n x3_16 w15 else none)
set_option maxHeartbeats 4000000 in
set_option maxRecDepth 100000 in
theorem A_X2_reset_52 {X : XS} {i1 : Nat} (hi1 : i1 < 19) : ∀ (nn : Nat) {x3 : Int32} {w : Wd} {r : Wd}, D_X2_reset_52 i1 nn x3 w = some r → AW 2 X mX2_reset 52 [some (aR 2 0), none, none, some (aI x3)] [] w (PV r) := by
  intro nn
  induction nn with
  | zero => intros; rename_i h; cases h
  | succ n ih =>
    intro x3 w r h
    rw [D_X2_reset_52] at h
    refine aw_iload_n eX2_reset_52 rfl (aw_aload_n eX2_reset_53 rfl (aw_getf (k := 2) (f := 1) eX2_reset_54 tw_0_114 ⟨by decide, by decide⟩ (by decide) (v := aR 13 0) rfl (aw_alenK eX2_reset_57 rfl (by decide) (v := 7) kl_7 (aw_icmp_ge eX2_reset_58 (fun c9 => ?_) (fun c9 => ?_)))))
    · have h := ip c9 h
      refine aw_iconst eX2_reset_75 k_iconst_0 (aw_istore_nY rfl eX2_reset_76 (by decide) rfl (ls' := [some (aR 2 0), none, none, some (aI 0)]) rfl ?_)
      exact A_X2_reset_77 hi1 fuelZ h
    · have h := iq c9 h
      obtain ⟨hc14, h⟩ := ck h
      obtain ⟨w15, ew15, h⟩ := lt_e h
      obtain ⟨x3_16, ex3_16, h⟩ := lt_e h
      refine aw_aload_n eX2_reset_61 rfl (aw_getf (k := 2) (f := 1) eX2_reset_62 tw_0_114 ⟨by decide, by decide⟩ (by decide) (v := aR 13 0) rfl (aw_iload_n eX2_reset_65 rfl (aw_bipush eX2_reset_66 k_bipush_63 (aw_iastK (n := 7) eX2_reset_68 rfl (by decide) hc14 (j := (Int32.toNatClampNeg x3)) rfl (aw_wn ew15 (aw_iincY (iinc_k k_iconst_1 ex3_16) eX2_reset_69 rfl (by decide) rfl (ls' := [some (aR 2 0), none, none, some (aI x3_16)]) rfl (aw_goto eX2_reset_72 ?_)))))))
      exact ih h
def D_X2_reset (w : Wd) (i1 : Nat) (x2 : Int32) : Option (Wd) := if i1 < 19 then (D_X3_take w 2 i1).bind fun q1 => lt (wS q1 2 0 3 x2) fun w2 => lt (wS w2 2 0 4 0) fun w3 => lt (wS w3 2 0 5 0) fun w4 => lt (wS w4 2 0 6 (w4.1 3 2 1)) fun w5 => lt (wS w5 2 0 7 0) fun w6 => lt (wS w6 2 0 8 63) fun w7 => lt (wS w7 2 0 9 0) fun w8 => D_X2_reset_52 i1 fuelZ 0 w8 else none
set_option maxHeartbeats 4000000 in
set_option maxRecDepth 100000 in
theorem A_X2_reset {X : XS} {w : Wd} {i1 : Nat} {x2 : Int32} {r : Wd} (h : D_X2_reset w i1 x2 = some r) : AW 2 X mX2_reset 0 (entA 4 [aR 2 0, aR 3 i1, aI x2]) [] w (PV r) := by
  show AW _ _ _ _ [some (aR 2 0), some (aR 3 i1), some (aI x2), none] _ _ _
  unfold D_X2_reset at h
  obtain ⟨hi1, h⟩ := ck h
  obtain ⟨q1, hq1, h⟩ := bd h
  obtain ⟨w2, ew2, h⟩ := lt_e h
  obtain ⟨w3, ew3, h⟩ := lt_e h
  obtain ⟨w4, ew4, h⟩ := lt_e h
  obtain ⟨w5, ew5, h⟩ := lt_e h
  obtain ⟨w6, ew6, h⟩ := lt_e h
  obtain ⟨w7, ew7, h⟩ := lt_e h
  obtain ⟨w8, ew8, h⟩ := lt_e h
  refine aw_aload_n eX2_reset_0 rfl (aw_getf (k := 2) (f := 0) eX2_reset_1 tw_0_113 ⟨by decide, by decide⟩ (by decide) (v := aR 3 2) rfl (aw_aload_n eX2_reset_4 rfl (aw_callVV (N := mX3_take) [aR 3 i1] eX2_reset_5 tw_1_126 miX3_take (by decide) (by decide) (by decide) rfl rfl (Nat.le_of_ble_eq_true rfl) (A_X3_take hq1) (aw_aload_n eX2_reset_8 rfl (aw_iload_n eX2_reset_9 rfl (aw_putI (k := 2) (f := 3) eX2_reset_10 tw_0_117 ⟨by decide, by decide⟩ (by decide) ⟨rfl, rfl, rfl, rfl⟩ (aw_wn ew2 (aw_aload_n eX2_reset_13 rfl (aw_iconst eX2_reset_14 k_iconst_0 (aw_putI (k := 2) (f := 4) eX2_reset_15 tw_0_118 ⟨by decide, by decide⟩ (by decide) ⟨rfl, rfl, rfl, rfl⟩ (aw_wn ew3 (aw_aload_n eX2_reset_18 rfl (aw_iconst eX2_reset_19 k_iconst_0 (aw_putI (k := 2) (f := 5) eX2_reset_20 tw_0_120 ⟨by decide, by decide⟩ (by decide) ⟨rfl, rfl, rfl, rfl⟩ (aw_wn ew4 (aw_aload_n eX2_reset_23 rfl (aw_aload_n eX2_reset_24 rfl (aw_getf (k := 2) (f := 0) eX2_reset_25 tw_0_113 ⟨by decide, by decide⟩ (by decide) (v := aR 3 2) rfl (aw_getf (k := 3) (f := 1) eX2_reset_28 tw_0_65 ⟨by decide, by decide⟩ (by decide) (v := aI (w4.1 3 2 1)) rfl (aw_putI (k := 2) (f := 6) eX2_reset_31 tw_0_122 ⟨by decide, by decide⟩ (by decide) ⟨rfl, rfl, rfl, rfl⟩ (aw_wn ew5 (aw_aload_n eX2_reset_34 rfl (aw_iconst eX2_reset_35 k_iconst_0 (aw_putI (k := 2) (f := 7) eX2_reset_36 tw_0_124 ⟨by decide, by decide⟩ (by decide) ⟨rfl, rfl, rfl, rfl⟩ (aw_wn ew6 (aw_aload_n eX2_reset_39 rfl (aw_bipush eX2_reset_40 k_bipush_63 (aw_putI (k := 2) (f := 8) eX2_reset_42 tw_0_126 ⟨by decide, by decide⟩ (by decide) ⟨rfl, rfl, rfl, rfl⟩ (aw_wn ew7 (aw_aload_n eX2_reset_45 rfl (aw_iconst eX2_reset_46 k_iconst_0 (aw_putI (k := 2) (f := 9) eX2_reset_47 tw_0_128 ⟨by decide, by decide⟩ (by decide) ⟨rfl, rfl, rfl, rfl⟩ (aw_wn ew8 (aw_iconst eX2_reset_50 k_iconst_0 (aw_istore_nY rfl eX2_reset_51 (by decide) rfl (ls' := [some (aR 2 0), some (aR 3 i1), some (aI x2), some (aI 0)]) rfl ?_)))))))))))))))))))))))))))))))))))
  exact aw_sub (ls' := [some (aR 2 0), none, none, some (aI 0)]) ⟨rfl, ⟨rfl, trivial⟩⟩ (A_X2_reset_52 hi1 fuelZ h)
def D_X2_allows (w : Wd) (x1 : Int32) (x2 : Int32) : Option (Int32) := (D_X5_at w 13 0 x1).bind fun q1 => if ((q1 >>> (x2 &&& 31)) &&& (1 : Int32)) = 0 then (some (0)) else (some (1))
set_option maxHeartbeats 4000000 in
set_option maxRecDepth 100000 in
theorem A_X2_allows {X : XS} {w : Wd} {x1 : Int32} {x2 : Int32} {r : Int32} (h : D_X2_allows w x1 x2 = some r) : AW 1 X mX2_allows 0 (entA 3 [aR 2 0, aI x1, aI x2]) [] w (PI r w) := by
  show AW _ _ _ _ [some (aR 2 0), some (aI x1), some (aI x2)] _ _ _
  unfold D_X2_allows at h
  obtain ⟨q1, hq1, h⟩ := bd h
  refine aw_aload_n eX2_allows_0 rfl (aw_getf (k := 2) (f := 1) eX2_allows_1 tw_0_114 ⟨by decide, by decide⟩ (by decide) (v := aR 13 0) rfl (aw_iload_n eX2_allows_4 rfl (aw_callNI (N := mX5_at) [aR 13 0, aI x1] eX2_allows_5 (by simp only [nestsA]; decide +kernel) msX5_at (by decide) rfl rfl (Nat.le_of_ble_eq_true rfl) (A_X5_at hq1) (aw_iload_n eX2_allows_8 rfl (aw_ishr eX2_allows_9 (aw_iconst eX2_allows_10 k_iconst_1 (aw_iand eX2_allows_11 (aw_if_eq eX2_allows_12 (fun c2 => ?_) (fun c2 => ?_)))))))))
  · have h := ip c2 h
    exact aw_iconst eX2_allows_19 k_iconst_0 (aw_zret eX2_allows_20 rfl (by decide +kernel) (pI_p h))
  · have h := iq c2 h
    exact aw_iconst eX2_allows_15 k_iconst_1 (aw_goto eX2_allows_16 (aw_zret eX2_allows_20 rfl (by decide +kernel) (pI_p h)))
