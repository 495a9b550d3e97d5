def D_X6_holds_19 (w : Wd) : Nat → Int32 → Int32 → Int32 → Int32 → Int32 → Int32 → Option (Int32)
  | 0, _, _, _, _, _, _ => none
  | n + 1, x1, x2, x3, x4, x5, x6 => if x1 ≤ x6 then (some (1)) else ((D_X6_tenTo ((x1 - (1 : Int32)) - x6)).bind fun q4 => if ¬ q4 = 0 then lt (((x2 / q4) - (x2 / q4) / (10 : Int32) * (10 : Int32)) - (1 : Int32)) fun x7_6 => (D_X6_begins w 0 x7_6 x4 x5 ((x3 >>> (x6 &&& 31)) &&& (1 : Int32))).bind fun q7 => if q7 = ((-9)) then (some (0)) else ((D_X6_behind w x7_6 q7).bind fun q9 => if inB x7_6 6 then lt (w.1 20 0 (Int32.toNatClampNeg x7_6)) fun x4_11 => lt (x6 + 1) fun x6_12 => D_X6_holds_19 w n x1 x2 x3 x4_11 q9 x6_12 else none) else none)
set_option maxHeartbeats 4000000 in
set_option maxRecDepth 100000 in
theorem A_X6_holds_19 {X : XS} {w : Wd} : ∀ (nn : Nat) {x1 : Int32} {x2 : Int32} {x3 : Int32} {x4 : Int32} {x5 : Int32} {x6 : Int32} {r : Int32}, D_X6_holds_19 w nn x1 x2 x3 x4 x5 x6 = some r → AW 2 X mX6_holds 19 [some (aR 6 0), some (aI x1), some (aI x2), some (aI x3), some (aI x4), some (aI x5), some (aI x6), none, none] [] w (PI r w) := by
  intro nn
  induction nn with
  | zero => intros; rename_i h; cases h
  | succ n ih =>
    intro x1 x2 x3 x4 x5 x6 r h
    rw [D_X6_holds_19] at h
    refine aw_iload eX6_holds_19 rfl (aw_iload_n eX6_holds_21 rfl (aw_icmp_ge eX6_holds_22 (fun c3 => ?_) (fun c3 => ?_)))
    · have h := ip c3 h
      exact aw_iconst eX6_holds_96 k_iconst_1 (aw_zret eX6_holds_97 rfl (by decide +kernel) (pI_p h))
    · have h := iq c3 h
      obtain ⟨q4, hq4, h⟩ := bd h
      obtain ⟨hc5, h⟩ := ck h
      obtain ⟨x7_6, ex7_6, h⟩ := lt_e h
      obtain ⟨q7, hq7, h⟩ := bd h
      refine aw_iload_n eX6_holds_25 rfl (aw_iload_n eX6_holds_26 rfl (aw_iconst eX6_holds_27 k_iconst_1 (aw_isub eX6_holds_28 (aw_iload eX6_holds_29 rfl (aw_isub eX6_holds_31 (aw_callSI (N := mX6_tenTo) [aI ((x1 - (1 : Int32)) - x6)] eX6_holds_32 tw_3_20 msX6_tenTo (by decide) rfl rfl (Nat.le_of_ble_eq_true rfl) (A_X6_tenTo hq4) (aw_idiv eX6_holds_35 hc5 (aw_bipush eX6_holds_36 k_bipush_10 (aw_irem eX6_holds_38 (by decide) (aw_iconst eX6_holds_39 k_iconst_1 (aw_isub eX6_holds_40 (aw_istoreY ex7_6 eX6_holds_41 (by decide) rfl (ls' := [some (aR 6 0), some (aI x1), some (aI x2), some (aI x3), some (aI x4), some (aI x5), some (aI x6), some (aI x7_6), none]) rfl (aw_aload_n eX6_holds_43 rfl (aw_iconst eX6_holds_44 k_iconst_0 (aw_iload eX6_holds_45 rfl (aw_iload eX6_holds_47 rfl (aw_iload eX6_holds_49 rfl (aw_iload_n eX6_holds_51 rfl (aw_iload eX6_holds_52 rfl (aw_ishr eX6_holds_54 (aw_iconst eX6_holds_55 k_iconst_1 (aw_iand eX6_holds_56 (aw_callVI (N := mX6_begins) [aI 0, aI x7_6, aI x4, aI x5, aI ((x3 >>> (x6 &&& 31)) &&& (1 : Int32))] eX6_holds_57 tw_2_154 miX6_begins (by decide) (by decide) (by decide) rfl rfl (Nat.le_of_ble_eq_true rfl) (A_X6_begins hq7) (aw_istoreY rfl eX6_holds_60 (by decide) rfl (ls' := [some (aR 6 0), some (aI x1), some (aI x2), some (aI x3), some (aI x4), some (aI x5), some (aI x6), some (aI x7_6), some (aI q7)]) rfl (aw_iload eX6_holds_62 rfl (aw_bipush eX6_holds_64 k_bipush_m9 (aw_icmp_ne eX6_holds_66 (fun c8 => ?_) (fun c8 => ?_))))))))))))))))))))))))))))
      · have h := iq c8 h
        obtain ⟨q9, hq9, h⟩ := bd h
        obtain ⟨hc10, h⟩ := ck h
        obtain ⟨x4_11, ex4_11, h⟩ := lt_e h
        obtain ⟨x6_12, ex6_12, h⟩ := lt_e h
        refine aw_aload_n eX6_holds_71 rfl (aw_iload eX6_holds_72 rfl (aw_iload eX6_holds_74 rfl (aw_callVI (N := mX6_behind) [aI x7_6, aI q7] eX6_holds_76 tw_2_190 miX6_behind (by decide) (by decide) (by decide) rfl rfl (Nat.le_of_ble_eq_true rfl) (A_X6_behind hq9) (aw_istoreY rfl eX6_holds_79 (by decide) rfl (ls' := [some (aR 6 0), some (aI x1), some (aI x2), some (aI x3), some (aI x4), some (aI q9), some (aI x6), some (aI x7_6), some (aI q7)]) rfl (aw_aload_n eX6_holds_81 rfl (aw_getf (k := 6) (f := 2) eX6_holds_82 tw_2_49 ⟨by decide, by decide⟩ (by decide) (v := aR 20 0) rfl (aw_iload eX6_holds_85 rfl (aw_ialdK (n := 6) eX6_holds_87 rfl (by decide) hc10 (j := (Int32.toNatClampNeg x7_6)) rfl (aw_istoreY ex4_11 eX6_holds_88 (by decide) rfl (ls' := [some (aR 6 0), some (aI x1), some (aI x2), some (aI x3), some (aI x4_11), some (aI q9), some (aI x6), some (aI x7_6), some (aI q7)]) rfl (aw_iincY (iinc_k k_iconst_1 ex6_12) eX6_holds_90 rfl (by decide) rfl (ls' := [some (aR 6 0), some (aI x1), some (aI x2), some (aI x3), some (aI x4_11), some (aI q9), some (aI x6_12), some (aI x7_6), some (aI q7)]) rfl (aw_goto eX6_holds_93 ?_)))))))))))
        exact aw_sub (ls' := [some (aR 6 0), some (aI x1), some (aI x2), some (aI x3), some (aI x4_11), some (aI q9), some (aI x6_12), none, none]) ⟨rfl, ⟨rfl, ⟨rfl, ⟨rfl, ⟨rfl, ⟨rfl, ⟨rfl, trivial⟩⟩⟩⟩⟩⟩⟩ (ih h)
      · have h := ip c8 h
        exact aw_iconst eX6_holds_69 k_iconst_0 (aw_zret eX6_holds_70 rfl (by decide +kernel) (pI_p h))
def D_X6_holds (w : Wd) (x1 : Int32) (x2 : Int32) (x3 : Int32) : Option (Int32) := lt (w.1 25 0 1) fun x4_1 => lt (w.1 25 0 0) fun x5_2 => D_X6_holds_19 w fuelZ x1 x2 x3 x4_1 x5_2 0
set_option maxHeartbeats 4000000 in
set_option maxRecDepth 100000 in
theorem A_X6_holds {X : XS} {w : Wd} {x1 : Int32} {x2 : Int32} {x3 : Int32} {r : Int32} (h : D_X6_holds w x1 x2 x3 = some r) : AW 2 X mX6_holds 0 (entA 9 [aR 6 0, aI x1, aI x2, aI x3]) [] w (PI r w) := by
  show AW _ _ _ _ [some (aR 6 0), some (aI x1), some (aI x2), some (aI x3), none, none, none, none, none] _ _ _
  unfold D_X6_holds at h
  obtain ⟨x4_1, ex4_1, h⟩ := lt_e h
  obtain ⟨x5_2, ex5_2, h⟩ := lt_e h
  refine aw_aload_n eX6_holds_0 rfl (aw_getf (k := 6) (f := 7) eX6_holds_1 tw_2_54 ⟨by decide, by decide⟩ (by decide) (v := aR 25 0) rfl (aw_iconst eX6_holds_4 k_iconst_1 (aw_ialdK (n := 16) eX6_holds_5 rfl (by decide) (by decide) (j := 1) (by decide) (aw_istoreY ex4_1 eX6_holds_6 (by decide) rfl (ls' := [some (aR 6 0), some (aI x1), some (aI x2), some (aI x3), some (aI x4_1), none, none, none, none]) rfl (aw_aload_n eX6_holds_8 rfl (aw_getf (k := 6) (f := 7) eX6_holds_9 tw_2_54 ⟨by decide, by decide⟩ (by decide) (v := aR 25 0) rfl (aw_iconst eX6_holds_12 k_iconst_0 (aw_ialdK (n := 16) eX6_holds_13 rfl (by decide) (by decide) (j := 0) (by decide) (aw_istoreY ex5_2 eX6_holds_14 (by decide) rfl (ls' := [some (aR 6 0), some (aI x1), some (aI x2), some (aI x3), some (aI x4_1), some (aI x5_2), none, none, none]) rfl (aw_iconst eX6_holds_16 k_iconst_0 (aw_istoreY rfl eX6_holds_17 (by decide) rfl (ls' := [some (aR 6 0), some (aI x1), some (aI x2), some (aI x3), some (aI x4_1), some (aI x5_2), some (aI 0), none, none]) rfl ?_)))))))))))
  exact A_X6_holds_19 fuelZ h
def D_X6_waysIn_13 (w : Wd) : Nat → Int32 → Int32 → Int32 → Int32 → Int32 → Option (Int32)
  | 0, _, _, _, _, _ => none
  | n + 1, x1, x2, x3, x4, x5 => if x1 ≤ x5 then (some (x4)) else ((D_X6_tenTo ((x1 - (1 : Int32)) - x5)).bind fun q3 => if ¬ q3 = 0 then lt (((x2 / q3) - (x2 / q3) / (10 : Int32) * (10 : Int32)) - (1 : Int32)) fun x6_5 => if inB x6_5 6 then (D_X6_wayOn w 0 x3 (w.1 20 0 (Int32.toNatClampNeg x6_5))).bind fun q7 => if q7 ≤ 0 then (lt (x4 ||| (0 : Int32)) fun x4_9 => if inB x6_5 6 then lt (w.1 20 0 (Int32.toNatClampNeg x6_5)) fun x3_11 => lt (x5 + 1) fun x5_12 => D_X6_waysIn_13 w n x1 x2 x3_11 x4_9 x5_12 else none) else (lt (x4 ||| ((1 : Int32) <<< (x5 &&& 31))) fun x4_13 => if inB x6_5 6 then lt (w.1 20 0 (Int32.toNatClampNeg x6_5)) fun x3_15 => lt (x5 + 1) fun x5_16 => D_X6_waysIn_13 w n x1 x2 x3_15 x4_13 x5_16 else none) else none else none)
set_option maxHeartbeats 4000000 in
set_option maxRecDepth 100000 in
theorem A_X6_waysIn_13 {X : XS} {w : Wd} : ∀ (nn : Nat) {x1 : Int32} {x2 : Int32} {x3 : Int32} {x4 : Int32} {x5 : Int32} {r : Int32}, D_X6_waysIn_13 w nn x1 x2 x3 x4 x5 = some r → AW 1 X mX6_waysIn 13 [some (aR 6 0), some (aI x1), some (aI x2), some (aI x3), some (aI x4), some (aI x5), none] [] w (PI r w) := by
  intro nn
  induction nn with
  | zero => intros; rename_i h; cases h
  | succ n ih =>
    intro x1 x2 x3 x4 x5 r h
    rw [D_X6_waysIn_13] at h
    refine aw_iload eX6_waysIn_13 rfl (aw_iload_n eX6_waysIn_15 rfl (aw_icmp_ge eX6_waysIn_16 (fun c2 => ?_) (fun c2 => ?_)))
    · have h := ip c2 h
      exact aw_iload eX6_waysIn_80 rfl (aw_iret eX6_waysIn_82 rfl (pI_p h))
    · have h := iq c2 h
      obtain ⟨q3, hq3, h⟩ := bd h
      obtain ⟨hc4, h⟩ := ck h
      obtain ⟨x6_5, ex6_5, h⟩ := lt_e h
      obtain ⟨hc6, h⟩ := ck h
      obtain ⟨q7, hq7, h⟩ := bd h
      refine aw_iload_n eX6_waysIn_19 rfl (aw_iload_n eX6_waysIn_20 rfl (aw_iconst eX6_waysIn_21 k_iconst_1 (aw_isub eX6_waysIn_22 (aw_iload eX6_waysIn_23 rfl (aw_isub eX6_waysIn_25 (aw_callSI (N := mX6_tenTo) [aI ((x1 - (1 : Int32)) - x5)] eX6_waysIn_26 tw_3_20 msX6_tenTo (by decide) rfl rfl (Nat.le_of_ble_eq_true rfl) (A_X6_tenTo hq3) (aw_idiv eX6_waysIn_29 hc4 (aw_bipush eX6_waysIn_30 k_bipush_10 (aw_irem eX6_waysIn_32 (by decide) (aw_iconst eX6_waysIn_33 k_iconst_1 (aw_isub eX6_waysIn_34 (aw_istoreY ex6_5 eX6_waysIn_35 (by decide) rfl (ls' := [some (aR 6 0), some (aI x1), some (aI x2), some (aI x3), some (aI x4), some (aI x5), some (aI x6_5)]) rfl (aw_iload eX6_waysIn_37 rfl (aw_aload_n eX6_waysIn_39 rfl (aw_iconst eX6_waysIn_40 k_iconst_0 (aw_iload_n eX6_waysIn_41 rfl (aw_aload_n eX6_waysIn_42 rfl (aw_getf (k := 6) (f := 2) eX6_waysIn_43 tw_2_49 ⟨by decide, by decide⟩ (by decide) (v := aR 20 0) rfl (aw_iload eX6_waysIn_46 rfl (aw_ialdK (n := 6) eX6_waysIn_48 rfl (by decide) hc6 (j := (Int32.toNatClampNeg x6_5)) rfl (aw_callVI (N := mX6_wayOn) [aI 0, aI x3, aI (w.1 20 0 (Int32.toNatClampNeg x6_5))] eX6_waysIn_49 tw_2_158 miX6_wayOn (by decide) (by decide) (by decide) rfl rfl (Nat.le_of_ble_eq_true rfl) (A_X6_wayOn hq7) (aw_if_le eX6_waysIn_52 (fun c8 => ?_) (fun c8 => ?_)))))))))))))))))))))))
      · have h := ip c8 h
        obtain ⟨x4_9, ex4_9, h⟩ := lt_e h
        obtain ⟨hc10, h⟩ := ck h
        obtain ⟨x3_11, ex3_11, h⟩ := lt_e h
        obtain ⟨x5_12, ex5_12, h⟩ := lt_e h
        refine aw_iconst eX6_waysIn_62 k_iconst_0 (aw_ior eX6_waysIn_63 (aw_istoreY ex4_9 eX6_waysIn_64 (by decide) rfl (ls' := [some (aR 6 0), some (aI x1), some (aI x2), some (aI x3), some (aI x4_9), some (aI x5), some (aI x6_5)]) rfl (aw_aload_n eX6_waysIn_66 rfl (aw_getf (k := 6) (f := 2) eX6_waysIn_67 tw_2_49 ⟨by decide, by decide⟩ (by decide) (v := aR 20 0) rfl (aw_iload eX6_waysIn_70 rfl (aw_ialdK (n := 6) eX6_waysIn_72 rfl (by decide) hc10 (j := (Int32.toNatClampNeg x6_5)) rfl (aw_istore_nY ex3_11 eX6_waysIn_73 (by decide) rfl (ls' := [some (aR 6 0), some (aI x1), some (aI x2), some (aI x3_11), some (aI x4_9), some (aI x5), some (aI x6_5)]) rfl (aw_iincY (iinc_k k_iconst_1 ex5_12) eX6_waysIn_74 rfl (by decide) rfl (ls' := [some (aR 6 0), some (aI x1), some (aI x2), some (aI x3_11), some (aI x4_9), some (aI x5_12), some (aI x6_5)]) rfl (aw_goto eX6_waysIn_77 ?_)))))))))
        exact aw_sub (ls' := [some (aR 6 0), some (aI x1), some (aI x2), some (aI x3_11), some (aI x4_9), some (aI x5_12), none]) ⟨rfl, ⟨rfl, ⟨rfl, ⟨rfl, ⟨rfl, ⟨rfl, trivial⟩⟩⟩⟩⟩⟩ (ih h)
      · have h := iq c8 h
        obtain ⟨x4_13, ex4_13, h⟩ := lt_e h
        obtain ⟨hc14, h⟩ := ck h
        obtain ⟨x3_15, ex3_15, h⟩ := lt_e h
        obtain ⟨x5_16, ex5_16, h⟩ := lt_e h
        refine aw_iconst eX6_waysIn_55 k_iconst_1 (aw_iload eX6_waysIn_56 rfl (aw_ishl eX6_waysIn_58 (aw_goto eX6_waysIn_59 (aw_ior eX6_waysIn_63 (aw_istoreY ex4_13 eX6_waysIn_64 (by decide) rfl (ls' := [some (aR 6 0), some (aI x1), some (aI x2), some (aI x3), some (aI x4_13), some (aI x5), some (aI x6_5)]) rfl (aw_aload_n eX6_waysIn_66 rfl (aw_getf (k := 6) (f := 2) eX6_waysIn_67 tw_2_49 ⟨by decide, by decide⟩ (by decide) (v := aR 20 0) rfl (aw_iload eX6_waysIn_70 rfl (aw_ialdK (n := 6) eX6_waysIn_72 rfl (by decide) hc14 (j := (Int32.toNatClampNeg x6_5)) rfl (aw_istore_nY ex3_15 eX6_waysIn_73 (by decide) rfl (ls' := [some (aR 6 0), some (aI x1), some (aI x2), some (aI x3_15), some (aI x4_13), some (aI x5), some (aI x6_5)]) rfl (aw_iincY (iinc_k k_iconst_1 ex5_16) eX6_waysIn_74 rfl (by decide) rfl (ls' := [some (aR 6 0), some (aI x1), some (aI x2), some (aI x3_15), some (aI x4_13), some (aI x5_16), some (aI x6_5)]) rfl (aw_goto eX6_waysIn_77 ?_))))))))))))
        exact aw_sub (ls' := [some (aR 6 0), some (aI x1), some (aI x2), some (aI x3_15), some (aI x4_13), some (aI x5_16), none]) ⟨rfl, ⟨rfl, ⟨rfl, ⟨rfl, ⟨rfl, ⟨rfl, trivial⟩⟩⟩⟩⟩⟩ (ih h)
def D_X6_waysIn (w : Wd) (x1 : Int32) (x2 : Int32) : Option (Int32) := lt (w.1 25 0 1) fun x3_1 => D_X6_waysIn_13 w fuelZ x1 x2 x3_1 0 0
set_option maxHeartbeats 4000000 in
set_option maxRecDepth 100000 in
theorem A_X6_waysIn {X : XS} {w : Wd} {x1 : Int32} {x2 : Int32} {r : Int32} (h : D_X6_waysIn w x1 x2 = some r) : AW 1 X mX6_waysIn 0 (entA 7 [aR 6 0, aI x1, aI x2]) [] w (PI r w) := by
  show AW _ _ _ _ [some (aR 6 0), some (aI x1), some (aI x2), none, none, none, none] _ _ _
  unfold D_X6_waysIn at h
  obtain ⟨x3_1, ex3_1, h⟩ := lt_e h
  refine aw_aload_n eX6_waysIn_0 rfl (aw_getf (k := 6) (f := 7) eX6_waysIn_1 tw_2_54 ⟨by decide, by decide⟩ (by decide) (v := aR 25 0) rfl (aw_iconst eX6_waysIn_4 k_iconst_1 (aw_ialdK (n := 16) eX6_waysIn_5 rfl (by decide) (by decide) (j := 1) (by decide) (aw_istore_nY ex3_1 eX6_waysIn_6 (by decide) rfl (ls' := [some (aR 6 0), some (aI x1), some (aI x2), some (aI x3_1), none, none, none]) rfl (aw_iconst eX6_waysIn_7 k_iconst_0 (aw_istoreY rfl eX6_waysIn_8 (by decide) rfl (ls' := [some (aR 6 0), some (aI x1), some (aI x2), some (aI x3_1), some (aI 0), none, none]) rfl (aw_iconst eX6_waysIn_10 k_iconst_0 (aw_istoreY rfl eX6_waysIn_11 (by decide) rfl (ls' := [some (aR 6 0), some (aI x1), some (aI x2), some (aI x3_1), some (aI 0), some (aI 0), none]) rfl ?_))))))))
  exact A_X6_waysIn_13 fuelZ h
def D_X6_power_4 : Nat → Int32 → Int32 → Int32 → Int32 → Option (Int32)
  | 0, _, _, _, _ => none
  | n + 1, x0, x1, x2, x3 => if x1 ≤ x3 then (some (x2)) else (lt (x2 * x0) fun x2_2 => lt (x3 + 1) fun x3_3 => D_X6_power_4 n x0 x1 x2_2 x3_3)
set_option maxHeartbeats 4000000 in
set_option maxRecDepth 100000 in
theorem A_X6_power_4 {X : XS} {w : Wd} : ∀ (nn : Nat) {x0 : Int32} {x1 : Int32} {x2 : Int32} {x3 : Int32} {r : Int32}, D_X6_power_4 nn x0 x1 x2 x3 = some r → AW 0 X mX6_power 4 [some (aI x0), some (aI x1), some (aI x2), some (aI x3)] [] w (PI r w) := by
  intro nn
  induction nn with
  | zero => intros; rename_i h; cases h
  | succ n ih =>
    intro x0 x1 x2 x3 r h
    rw [D_X6_power_4] at h
    refine aw_iload_n eX6_power_4 rfl (aw_iload_n eX6_power_5 rfl (aw_icmp_ge eX6_power_6 (fun c1 => ?_) (fun c1 => ?_)))
    · have h := ip c1 h
      exact aw_iload_n eX6_power_19 rfl (aw_iret eX6_power_20 rfl (pI_p h))
    · have h := iq c1 h
      obtain ⟨x2_2, ex2_2, h⟩ := lt_e h
      obtain ⟨x3_3, ex3_3, h⟩ := lt_e h
      refine aw_iload_n eX6_power_9 rfl (aw_iload_n eX6_power_10 rfl (aw_imul eX6_power_11 (aw_istore_nY ex2_2 eX6_power_12 (by decide) rfl (ls' := [some (aI x0), some (aI x1), some (aI x2_2), some (aI x3)]) rfl (aw_iincY (iinc_k k_iconst_1 ex3_3) eX6_power_13 rfl (by decide) rfl (ls' := [some (aI x0), some (aI x1), some (aI x2_2), some (aI x3_3)]) rfl (aw_goto eX6_power_16 ?_)))))
      exact ih h
def D_X6_power (x0 : Int32) (x1 : Int32) : Option (Int32) := D_X6_power_4 fuelZ x0 x1 1 0
set_option maxHeartbeats 4000000 in
set_option maxRecDepth 100000 in
theorem A_X6_power {X : XS} {w : Wd} {x0 : Int32} {x1 : Int32} {r : Int32} (h : D_X6_power x0 x1 = some r) : AW 0 X mX6_power 0 (entA 4 [aI x0, aI x1]) [] w (PI r w) := by
  show AW _ _ _ _ [some (aI x0), some (aI x1), none, none] _ _ _
  unfold D_X6_power at h
  refine aw_iconst eX6_power_0 k_iconst_1 (aw_istore_nY rfl eX6_power_1 (by decide) rfl (ls' := [some (aI x0), some (aI x1), some (aI 1), none]) rfl (aw_iconst eX6_power_2 k_iconst_0 (aw_istore_nY rfl eX6_power_3 (by decide) rfl (ls' := [some (aI x0), some (aI x1), some (aI 1), some (aI 0)]) rfl ?_)))
  exact A_X6_power_4 fuelZ h
def D_X6_falls_72 (w : Wd) : Nat → Int32 → Int32 → Int32 → Int32 → Int32 → Int32 → Int32 → Int32 → Option (Int32)
  | 0, _, _, _, _, _, _, _, _ => none
  | n + 1, x1, x2, x3, x4, x5, x6, x7, x8 => if x5 < x8 then ((D_X6_common x6 x7).bind fun q12 => if x4 = 0 then (if ¬ q12 = 0 then some (x7 / q12) else none) else (if ¬ q12 = 0 then some (x6 / q12) else none)) else (if (x8 &&& (x5 ^^^ ((-1)))) = 0 then ((D_X6_ones x8).bind fun q18 => (D_X6_power x3 q18).bind fun q19 => (D_X6_ones x5).bind fun q20 => (D_X6_ones x8).bind fun q21 => (D_X6_power ((10 : Int32) - x3) (q20 - q21)).bind fun q22 => lt (q19 * q22) fun x9_23 => lt (x7 + x9_23) fun x7_24 => (D_X6_holds w x1 x2 x8).bind fun q25 => if q25 = 0 then (lt (x6 + (0 : Int32)) fun x6_27 => lt (x8 + 1) fun x8_28 => D_X6_falls_72 w n x1 x2 x3 x4 x5 x6_27 x7_24 x8_28) else (lt (x6 + x9_23) fun x6_29 => lt (x8 + 1) fun x8_30 => D_X6_falls_72 w n x1 x2 x3 x4 x5 x6_29 x7_24 x8_30)) else (lt (x8 + 1) fun x8_17 => D_X6_falls_72 w n x1 x2 x3 x4 x5 x6 x7 x8_17))
set_option maxHeartbeats 4000000 in
set_option maxRecDepth 100000 in
theorem A_X6_falls_72 {X : XS} {w : Wd} : ∀ (nn : Nat) {x1 : Int32} {x2 : Int32} {x3 : Int32} {x4 : Int32} {x5 : Int32} {x6 : Int32} {x7 : Int32} {x8 : Int32} {r : Int32}, D_X6_falls_72 w nn x1 x2 x3 x4 x5 x6 x7 x8 = some r → AW 3 X mX6_falls 72 [some (aR 6 0), some (aI x1), some (aI x2), some (aI x3), some (aI x4), some (aI x5), some (aI x6), some (aI x7), some (aI x8), none] [] w (PI r w) := by
  intro nn
  induction nn with
  | zero => intros; rename_i h; cases h
  | succ n ih =>
    intro x1 x2 x3 x4 x5 x6 x7 x8 r h
    rw [D_X6_falls_72] at h
    refine aw_iload eX6_falls_72 rfl (aw_iload eX6_falls_74 rfl (aw_icmp_gt eX6_falls_76 (fun c11 => ?_) (fun c11 => ?_)))
    · have h := ip c11 h
      obtain ⟨q12, hq12, h⟩ := bd h
      refine aw_iload eX6_falls_154 rfl (aw_iload eX6_falls_156 rfl (aw_callSI (N := mX6_common) [aI x6, aI x7] eX6_falls_158 tw_3_57 msX6_common (by decide) rfl rfl (Nat.le_of_ble_eq_true rfl) (A_X6_common hq12) (aw_istoreY rfl eX6_falls_161 (by decide) rfl (ls' := [some (aR 6 0), some (aI x1), some (aI x2), some (aI x3), some (aI x4), some (aI x5), some (aI x6), some (aI x7), some (aI q12), none]) rfl (aw_iload eX6_falls_163 rfl (aw_if_eq eX6_falls_165 (fun c13 => ?_) (fun c13 => ?_))))))
      · have h := ip c13 h
        obtain ⟨hc14, h⟩ := ck h
        exact aw_iload eX6_falls_176 rfl (aw_iload eX6_falls_178 rfl (aw_idiv eX6_falls_180 hc14 (aw_iret eX6_falls_181 rfl (pI_p h))))
      · have h := iq c13 h
        obtain ⟨hc15, h⟩ := ck h
        exact aw_iload eX6_falls_168 rfl (aw_iload eX6_falls_170 rfl (aw_idiv eX6_falls_172 hc15 (aw_goto eX6_falls_173 (aw_iret eX6_falls_181 rfl (pI_p h)))))
    · have h := iq c11 h
      refine aw_iload eX6_falls_79 rfl (aw_iload eX6_falls_81 rfl (aw_iconst eX6_falls_83 k_iconst_m1 (aw_ixor eX6_falls_84 (aw_iand eX6_falls_85 (aw_if_ne eX6_falls_86 (fun c16 => ?_) (fun c16 => ?_))))))
      · have h := iq c16 h
        obtain ⟨x8_17, ex8_17, h⟩ := lt_e h
        refine aw_iincY (iinc_k k_iconst_1 ex8_17) eX6_falls_148 rfl (by decide) rfl (ls' := [some (aR 6 0), some (aI x1), some (aI x2), some (aI x3), some (aI x4), some (aI x5), some (aI x6), some (aI x7), some (aI x8_17), none]) rfl (aw_goto eX6_falls_151 ?_)
        exact ih h
      · have h := ip c16 h
        obtain ⟨q18, hq18, h⟩ := bd h
        obtain ⟨q19, hq19, h⟩ := bd h
        obtain ⟨q20, hq20, h⟩ := bd h
        obtain ⟨q21, hq21, h⟩ := bd h
        obtain ⟨q22, hq22, h⟩ := bd h
        obtain ⟨x9_23, ex9_23, h⟩ := lt_e h
        obtain ⟨x7_24, ex7_24, h⟩ := lt_e h
        obtain ⟨q25, hq25, h⟩ := bd h
        refine aw_iload_n eX6_falls_89 rfl (aw_iload eX6_falls_90 rfl (aw_callSI (N := mX6_ones) [aI x8] eX6_falls_92 tw_2_227 msX6_ones (by decide) rfl rfl (Nat.le_of_ble_eq_true rfl) (A_X6_ones hq18) (aw_callSI (N := mX6_power) [aI x3, aI q18] eX6_falls_95 tw_3_89 msX6_power (by decide) rfl rfl (Nat.le_of_ble_eq_true rfl) (A_X6_power hq19) (aw_bipush eX6_falls_98 k_bipush_10 (aw_iload_n eX6_falls_100 rfl (aw_isub eX6_falls_101 (aw_iload eX6_falls_102 rfl (aw_callSI (N := mX6_ones) [aI x5] eX6_falls_104 tw_2_227 msX6_ones (by decide) rfl rfl (Nat.le_of_ble_eq_true rfl) (A_X6_ones hq20) (aw_iload eX6_falls_107 rfl (aw_callSI (N := mX6_ones) [aI x8] eX6_falls_109 tw_2_227 msX6_ones (by decide) rfl rfl (Nat.le_of_ble_eq_true rfl) (A_X6_ones hq21) (aw_isub eX6_falls_112 (aw_callSI (N := mX6_power) [aI ((10 : Int32) - x3), aI (q20 - q21)] eX6_falls_113 tw_3_89 msX6_power (by decide) rfl rfl (Nat.le_of_ble_eq_true rfl) (A_X6_power hq22) (aw_imul eX6_falls_116 (aw_istoreY ex9_23 eX6_falls_117 (by decide) rfl (ls' := [some (aR 6 0), some (aI x1), some (aI x2), some (aI x3), some (aI x4), some (aI x5), some (aI x6), some (aI x7), some (aI x8), some (aI x9_23)]) rfl (aw_iload eX6_falls_119 rfl (aw_iload eX6_falls_121 rfl (aw_iadd eX6_falls_123 (aw_istoreY ex7_24 eX6_falls_124 (by decide) rfl (ls' := [some (aR 6 0), some (aI x1), some (aI x2), some (aI x3), some (aI x4), some (aI x5), some (aI x6), some (aI x7_24), some (aI x8), some (aI x9_23)]) rfl (aw_iload eX6_falls_126 rfl (aw_aload_n eX6_falls_128 rfl (aw_iload_n eX6_falls_129 rfl (aw_iload_n eX6_falls_130 rfl (aw_iload eX6_falls_131 rfl (aw_callVI (N := mX6_holds) [aI x1, aI x2, aI x8] eX6_falls_133 tw_3_92 miX6_holds (by decide) (by decide) (by decide) rfl rfl (Nat.le_of_ble_eq_true rfl) (A_X6_holds hq25) (aw_if_eq eX6_falls_136 (fun c26 => ?_) (fun c26 => ?_))))))))))))))))))))))))))
        · have h := ip c26 h
          obtain ⟨x6_27, ex6_27, h⟩ := lt_e h
          obtain ⟨x8_28, ex8_28, h⟩ := lt_e h
          refine aw_iconst eX6_falls_144 k_iconst_0 (aw_iadd eX6_falls_145 (aw_istoreY ex6_27 eX6_falls_146 (by decide) rfl (ls' := [some (aR 6 0), some (aI x1), some (aI x2), some (aI x3), some (aI x4), some (aI x5), some (aI x6_27), some (aI x7_24), some (aI x8), some (aI x9_23)]) rfl (aw_iincY (iinc_k k_iconst_1 ex8_28) eX6_falls_148 rfl (by decide) rfl (ls' := [some (aR 6 0), some (aI x1), some (aI x2), some (aI x3), some (aI x4), some (aI x5), some (aI x6_27), some (aI x7_24), some (aI x8_28), some (aI x9_23)]) rfl (aw_goto eX6_falls_151 ?_))))
          exact aw_sub (ls' := [some (aR 6 0), some (aI x1), some (aI x2), some (aI x3), some (aI x4), some (aI x5), some (aI x6_27), some (aI x7_24), some (aI x8_28), none]) ⟨rfl, ⟨rfl, ⟨rfl, ⟨rfl, ⟨rfl, ⟨rfl, ⟨rfl, ⟨rfl, ⟨rfl, trivial⟩⟩⟩⟩⟩⟩⟩⟩⟩ (ih h)
        · have h := iq c26 h
          obtain ⟨x6_29, ex6_29, h⟩ := lt_e h
          obtain ⟨x8_30, ex8_30, h⟩ := lt_e h
          refine aw_iload eX6_falls_139 rfl (aw_goto eX6_falls_141 (aw_iadd eX6_falls_145 (aw_istoreY ex6_29 eX6_falls_146 (by decide) rfl (ls' := [some (aR 6 0), some (aI x1), some (aI x2), some (aI x3), some (aI x4), some (aI x5), some (aI x6_29), some (aI x7_24), some (aI x8), some (aI x9_23)]) rfl (aw_iincY (iinc_k k_iconst_1 ex8_30) eX6_falls_148 rfl (by decide) rfl (ls' := [some (aR 6 0), some (aI x1), some (aI x2), some (aI x3), some (aI x4), some (aI x5), some (aI x6_29), some (aI x7_24), some (aI x8_30), some (aI x9_23)]) rfl (aw_goto eX6_falls_151 ?_)))))
          exact aw_sub (ls' := [some (aR 6 0), some (aI x1), some (aI x2), some (aI x3), some (aI x4), some (aI x5), some (aI x6_29), some (aI x7_24), some (aI x8_30), none]) ⟨rfl, ⟨rfl, ⟨rfl, ⟨rfl, ⟨rfl, ⟨rfl, ⟨rfl, ⟨rfl, ⟨rfl, trivial⟩⟩⟩⟩⟩⟩⟩⟩⟩ (ih h)
def D_X6_falls (w : Wd) (x1 : Int32) (x2 : Int32) (x3 : Int32) (x4 : Int32) : Option (Int32) := (D_X6_in (Int32.toInt64 x1) 1 6).bind fun q1 => if q1 = 0 then (some ((-2))) else ((D_X6_tenTo x1).bind fun q3 => (D_X6_in (Int32.toInt64 x2) 0 (Int32.toInt64 (q3 - (1 : Int32)))).bind fun q4 => if q4 = 0 then (some ((-2))) else ((D_X6_in (Int32.toInt64 x3) 0 10).bind fun q6 => if q6 = 0 then (some ((-2))) else ((D_X6_areOpen w x1 x2).bind fun q8 => if q8 = 0 then (some ((-3))) else ((D_X6_waysIn w x1 x2).bind fun q10 => D_X6_falls_72 w fuelZ x1 x2 x3 x4 q10 0 0 0))))
set_option maxHeartbeats 4000000 in
set_option maxRecDepth 100000 in
theorem A_X6_falls {X : XS} {w : Wd} {x1 : Int32} {x2 : Int32} {x3 : Int32} {x4 : Int32} {r : Int32} (h : D_X6_falls w x1 x2 x3 x4 = some r) : AW 3 X mX6_falls 0 (entA 10 [aR 6 0, aI x1, aI x2, aI x3, aI x4]) [] w (PI r w) := by
  show AW _ _ _ _ [some (aR 6 0), some (aI x1), some (aI x2), some (aI x3), some (aI x4), none, none, none, none, none] _ _ _
  unfold D_X6_falls at h
  obtain ⟨q1, hq1, h⟩ := bd h
  refine aw_iload_n eX6_falls_0 rfl (aw_i2l eX6_falls_1 (aw_lconst eX6_falls_2 k_lconst_1 (aw_ldc2 eX6_falls_3 tw_3_19 (aw_callSI (N := mX6_in) [aL (Int32.toInt64 x1), aL 1, aL 6] eX6_falls_6 tw_2_116 msX6_in (by decide) rfl rfl (Nat.le_of_ble_eq_true rfl) (A_X6_in hq1) (aw_if_eq eX6_falls_9 (fun c2 => ?_) (fun c2 => ?_))))))
  · have h := ip c2 h
    exact aw_bipush eX6_falls_40 k_bipush_m2 (aw_iret eX6_falls_42 rfl (pI_p h))
  · have h := iq c2 h
    obtain ⟨q3, hq3, h⟩ := bd h
    obtain ⟨q4, hq4, h⟩ := bd h
    refine aw_iload_n eX6_falls_12 rfl (aw_i2l eX6_falls_13 (aw_lconst eX6_falls_14 k_lconst_0 (aw_iload_n eX6_falls_15 rfl (aw_callSI (N := mX6_tenTo) [aI x1] eX6_falls_16 tw_3_20 msX6_tenTo (by decide) rfl rfl (Nat.le_of_ble_eq_true rfl) (A_X6_tenTo hq3) (aw_iconst eX6_falls_19 k_iconst_1 (aw_isub eX6_falls_20 (aw_i2l eX6_falls_21 (aw_callSI (N := mX6_in) [aL (Int32.toInt64 x2), aL 0, aL (Int32.toInt64 (q3 - (1 : Int32)))] eX6_falls_22 tw_2_116 msX6_in (by decide) rfl rfl (Nat.le_of_ble_eq_true rfl) (A_X6_in hq4) (aw_if_eq eX6_falls_25 (fun c5 => ?_) (fun c5 => ?_))))))))))
    · have h := ip c5 h
      exact aw_bipush eX6_falls_40 k_bipush_m2 (aw_iret eX6_falls_42 rfl (pI_p h))
    · have h := iq c5 h
      obtain ⟨q6, hq6, h⟩ := bd h
      refine aw_iload_n eX6_falls_28 rfl (aw_i2l eX6_falls_29 (aw_lconst eX6_falls_30 k_lconst_0 (aw_ldc2 eX6_falls_31 tw_3_80 (aw_callSI (N := mX6_in) [aL (Int32.toInt64 x3), aL 0, aL 10] eX6_falls_34 tw_2_116 msX6_in (by decide) rfl rfl (Nat.le_of_ble_eq_true rfl) (A_X6_in hq6) (aw_if_ne eX6_falls_37 (fun c7 => ?_) (fun c7 => ?_))))))
      · have h := iq c7 h
        obtain ⟨q8, hq8, h⟩ := bd h
        refine aw_aload_n eX6_falls_43 rfl (aw_iload_n eX6_falls_44 rfl (aw_iload_n eX6_falls_45 rfl (aw_callVI (N := mX6_areOpen) [aI x1, aI x2] eX6_falls_46 tw_3_81 miX6_areOpen (by decide) (by decide) (by decide) rfl rfl (Nat.le_of_ble_eq_true rfl) (A_X6_areOpen hq8) (aw_if_ne eX6_falls_49 (fun c9 => ?_) (fun c9 => ?_)))))
        · have h := iq c9 h
          obtain ⟨q10, hq10, h⟩ := bd h
          refine aw_aload_n eX6_falls_55 rfl (aw_iload_n eX6_falls_56 rfl (aw_iload_n eX6_falls_57 rfl (aw_callVI (N := mX6_waysIn) [aI x1, aI x2] eX6_falls_58 tw_3_85 miX6_waysIn (by decide) (by decide) (by decide) rfl rfl (Nat.le_of_ble_eq_true rfl) (A_X6_waysIn hq10) (aw_istoreY rfl eX6_falls_61 (by decide) rfl (ls' := [some (aR 6 0), some (aI x1), some (aI x2), some (aI x3), some (aI x4), some (aI q10), none, none, none, none]) rfl (aw_iconst eX6_falls_63 k_iconst_0 (aw_istoreY rfl eX6_falls_64 (by decide) rfl (ls' := [some (aR 6 0), some (aI x1), some (aI x2), some (aI x3), some (aI x4), some (aI q10), some (aI 0), none, none, none]) rfl (aw_iconst eX6_falls_66 k_iconst_0 (aw_istoreY rfl eX6_falls_67 (by decide) rfl (ls' := [some (aR 6 0), some (aI x1), some (aI x2), some (aI x3), some (aI x4), some (aI q10), some (aI 0), some (aI 0), none, none]) rfl (aw_iconst eX6_falls_69 k_iconst_0 (aw_istoreY rfl eX6_falls_70 (by decide) rfl (ls' := [some (aR 6 0), some (aI x1), some (aI x2), some (aI x3), some (aI x4), some (aI q10), some (aI 0), some (aI 0), some (aI 0), none]) rfl ?_))))))))))
          exact A_X6_falls_72 fuelZ h
        · have h := ip c9 h
          exact aw_bipush eX6_falls_52 k_bipush_m3 (aw_iret eX6_falls_54 rfl (pI_p h))
      · have h := ip c7 h
        exact aw_bipush eX6_falls_40 k_bipush_m2 (aw_iret eX6_falls_42 rfl (pI_p h))
def D_X6_seed (w : Wd) (x1 : Int64) : Option (Int64 × Wd) := lt (w.2 6) fun x3_1 => lt (wL w 6 x1) fun w2 => some (x3_1, w2)
set_option maxHeartbeats 4000000 in
set_option maxRecDepth 100000 in
theorem A_X6_seed {X : XS} {w : Wd} {x1 : Int64} {r : Int64 × Wd} (h : D_X6_seed w x1 = some r) : AW 0 X mX6_seed 0 (entA 5 [aR 6 0, aL x1]) [] w (PL r.1 r.2) := by
  show AW _ _ _ _ [some (aR 6 0), some (aL x1), none, none, none] _ _ _
  unfold D_X6_seed at h
  obtain ⟨x3_1, ex3_1, h⟩ := lt_e h
  obtain ⟨w2, ew2, h⟩ := lt_e h
  exact aw_aload_n eX6_seed_0 rfl (aw_getf (k := 6) (f := 18) eX6_seed_1 tw_2_65 ⟨by decide, by decide⟩ (by decide) (v := aL (w.2 6)) rfl (aw_lstore_nY ex3_1 eX6_seed_4 (by decide) rfl (ls' := [some (aR 6 0), some (aL x1), none, some (aL x3_1), none]) rfl (aw_aload_n eX6_seed_5 rfl (aw_lload_n eX6_seed_6 rfl (aw_putL eX6_seed_7 tw_2_65 (k := 6) (f := 18) ⟨by decide, by decide, rfl⟩ putL_6 (aw_wn ew2 (aw_lload_n eX6_seed_10 rfl (aw_lret eX6_seed_11 rfl (pL_i h)))))))))
def D_X6_summers_23 : Nat → Int32 → Int32 → Int32 → Wd → Option (Int32 × Wd)
  | 0, _, _, _, _ => none
  | n + 1, x1, x2, x3, w => if x1 ≤ x3 then (some (x2, w)) else (lt (wL w 6 (((w.2 6) * (6364136223846793005 : Int64)) + (1442695040888963407 : Int64))) fun w5 => lt (Int64.toInt32 (((Int64.toUInt64 (w5.2 6) >>> (Int64.toUInt64 (Int32.toInt64 (33 : Int32)) &&& Int64.toUInt64 63)).toInt64) - ((Int64.toUInt64 (w5.2 6) >>> (Int64.toUInt64 (Int32.toInt64 (33 : Int32)) &&& Int64.toUInt64 63)).toInt64) / (8 : Int64) * (8 : Int64))) fun x4_6 => if x4_6 = 6 then (lt (wS w5 25 0 8 ((w5.1 25 0 8) + (1 : Int32))) fun w21 => lt (x3 + 1) fun x3_22 => D_X6_summers_23 n x1 x2 x3_22 w21) else (if x4_6 = 7 then (lt (wS w5 25 0 8 0) fun w18 => lt (wS w18 25 0 10 0) fun w19 => lt (x3 + 1) fun x3_20 => D_X6_summers_23 n x1 x2 x3_20 w19) else ((D_X6_isWedding w5 x4_6).bind fun q9 => if q9 = 0 then (lt (x3 + 1) fun x3_11 => D_X6_summers_23 n x1 x2 x3_11 w5) else ((D_X6_wedOn w5 1 x4_6).bind fun q12 => if q12.1 = 0 then (lt (x2 + (0 : Int32)) fun x2_14 => lt (x3 + 1) fun x3_15 => D_X6_summers_23 n x1 x2_14 x3_15 q12.2) else (lt (x2 + (1 : Int32)) fun x2_16 => lt (x3 + 1) fun x3_17 => D_X6_summers_23 n x1 x2_16 x3_17 q12.2)))))
set_option maxHeartbeats 4000000 in
set_option maxRecDepth 100000 in
theorem A_X6_summers_23 {X : XS} : ∀ (nn : Nat) {x1 : Int32} {x2 : Int32} {x3 : Int32} {w : Wd} {r : Int32 × Wd}, D_X6_summers_23 nn x1 x2 x3 w = some r → AW 4 X mX6_summers 23 [some (aR 6 0), some (aI x1), some (aI x2), some (aI x3), none] [] w (PI r.1 r.2) := by
  intro nn
  induction nn with
  | zero => intros; rename_i h; cases h
  | succ n ih =>
    intro x1 x2 x3 w r h
    rw [D_X6_summers_23] at h
    refine aw_iload_n eX6_summers_23 rfl (aw_iload_n eX6_summers_24 rfl (aw_icmp_ge eX6_summers_25 (fun c4 => ?_) (fun c4 => ?_)))
    · have h := ip c4 h
      exact aw_iload_n eX6_summers_138 rfl (aw_iret eX6_summers_139 rfl (pI_i h))
    · have h := iq c4 h
      obtain ⟨w5, ew5, h⟩ := lt_e h
      obtain ⟨x4_6, ex4_6, h⟩ := lt_e h
      refine aw_aload_n eX6_summers_28 rfl (aw_aload_n eX6_summers_29 rfl (aw_getf (k := 6) (f := 18) eX6_summers_30 tw_2_65 ⟨by decide, by decide⟩ (by decide) (v := aL (w.2 6)) rfl (aw_ldc2 eX6_summers_33 tw_3_105 (aw_lmul eX6_summers_36 (aw_ldc2 eX6_summers_37 tw_3_106 (aw_ladd eX6_summers_40 (aw_putL eX6_summers_41 tw_2_65 (k := 6) (f := 18) ⟨by decide, by decide, rfl⟩ putL_6 (aw_wn ew5 (aw_aload_n eX6_summers_44 rfl (aw_getf (k := 6) (f := 18) eX6_summers_45 tw_2_65 ⟨by decide, by decide⟩ (by decide) (v := aL (w5.2 6)) rfl (aw_bipush eX6_summers_48 k_bipush_33 (aw_lushr eX6_summers_50 (aw_ldc2 eX6_summers_51 tw_3_107 (aw_lrem eX6_summers_54 (by decide) (aw_l2i eX6_summers_55 (aw_istoreY ex4_6 eX6_summers_56 (by decide) rfl (ls' := [some (aR 6 0), some (aI x1), some (aI x2), some (aI x3), some (aI x4_6)]) rfl (aw_iload eX6_summers_58 rfl (aw_bipush eX6_summers_60 k_bipush_6 (aw_icmp_ne eX6_summers_62 (fun c7 => ?_) (fun c7 => ?_))))))))))))))))))))
      · have h := iq c7 h
        refine aw_iload eX6_summers_79 rfl (aw_bipush eX6_summers_81 k_bipush_7 (aw_icmp_ne eX6_summers_83 (fun c8 => ?_) (fun c8 => ?_)))
        · have h := iq c8 h
          obtain ⟨q9, hq9, h⟩ := bd h
          refine aw_aload_n eX6_summers_105 rfl (aw_iload eX6_summers_106 rfl (aw_callVI (N := mX6_isWedding) [aI x4_6] eX6_summers_108 tw_2_143 miX6_isWedding (by decide) (by decide) (by decide) rfl rfl (Nat.le_of_ble_eq_true rfl) (A_X6_isWedding hq9) (aw_if_eq eX6_summers_111 (fun c10 => ?_) (fun c10 => ?_))))
          · have h := ip c10 h
            obtain ⟨x3_11, ex3_11, h⟩ := lt_e h
            refine aw_iincY (iinc_k k_iconst_1 ex3_11) eX6_summers_132 rfl (by decide) rfl (ls' := [some (aR 6 0), some (aI x1), some (aI x2), some (aI x3_11), some (aI x4_6)]) rfl (aw_goto eX6_summers_135 ?_)
            exact aw_sub (ls' := [some (aR 6 0), some (aI x1), some (aI x2), some (aI x3_11), none]) ⟨rfl, ⟨rfl, ⟨rfl, ⟨rfl, trivial⟩⟩⟩⟩ (ih h)
          · have h := iq c10 h
            obtain ⟨q12, hq12, h⟩ := bd h
            refine aw_iload_n eX6_summers_114 rfl (aw_aload_n eX6_summers_115 rfl (aw_iconst eX6_summers_116 k_iconst_1 (aw_iload eX6_summers_117 rfl (aw_callVI (N := mX6_wedOn) [aI 1, aI x4_6] eX6_summers_119 tw_2_186 miX6_wedOn (by decide) (by decide) (by decide) rfl rfl (Nat.le_of_ble_eq_true rfl) (A_X6_wedOn hq12) (aw_if_eq eX6_summers_122 (fun c13 => ?_) (fun c13 => ?_))))))
            · have h := ip c13 h
              obtain ⟨x2_14, ex2_14, h⟩ := lt_e h
              obtain ⟨x3_15, ex3_15, h⟩ := lt_e h
              refine aw_iconst eX6_summers_129 k_iconst_0 (aw_iadd eX6_summers_130 (aw_istore_nY ex2_14 eX6_summers_131 (by decide) rfl (ls' := [some (aR 6 0), some (aI x1), some (aI x2_14), some (aI x3), some (aI x4_6)]) rfl (aw_iincY (iinc_k k_iconst_1 ex3_15) eX6_summers_132 rfl (by decide) rfl (ls' := [some (aR 6 0), some (aI x1), some (aI x2_14), some (aI x3_15), some (aI x4_6)]) rfl (aw_goto eX6_summers_135 ?_))))
              exact aw_sub (ls' := [some (aR 6 0), some (aI x1), some (aI x2_14), some (aI x3_15), none]) ⟨rfl, ⟨rfl, ⟨rfl, ⟨rfl, trivial⟩⟩⟩⟩ (ih h)
            · have h := iq c13 h
              obtain ⟨x2_16, ex2_16, h⟩ := lt_e h
              obtain ⟨x3_17, ex3_17, h⟩ := lt_e h
              refine aw_iconst eX6_summers_125 k_iconst_1 (aw_goto eX6_summers_126 (aw_iadd eX6_summers_130 (aw_istore_nY ex2_16 eX6_summers_131 (by decide) rfl (ls' := [some (aR 6 0), some (aI x1), some (aI x2_16), some (aI x3), some (aI x4_6)]) rfl (aw_iincY (iinc_k k_iconst_1 ex3_17) eX6_summers_132 rfl (by decide) rfl (ls' := [some (aR 6 0), some (aI x1), some (aI x2_16), some (aI x3_17), some (aI x4_6)]) rfl (aw_goto eX6_summers_135 ?_)))))
              exact aw_sub (ls' := [some (aR 6 0), some (aI x1), some (aI x2_16), some (aI x3_17), none]) ⟨rfl, ⟨rfl, ⟨rfl, ⟨rfl, trivial⟩⟩⟩⟩ (ih h)
        · have h := ip c8 h
          obtain ⟨w18, ew18, h⟩ := lt_e h
          obtain ⟨w19, ew19, h⟩ := lt_e h
          obtain ⟨x3_20, ex3_20, h⟩ := lt_e h
          refine aw_aload_n eX6_summers_86 rfl (aw_getf (k := 6) (f := 7) eX6_summers_87 tw_2_54 ⟨by decide, by decide⟩ (by decide) (v := aR 25 0) rfl (aw_bipush eX6_summers_90 k_bipush_8 (aw_iconst eX6_summers_92 k_iconst_0 (aw_iastK (n := 16) eX6_summers_93 rfl (by decide) (by decide) (j := 8) (by decide) (aw_wn ew18 (aw_aload_n eX6_summers_94 rfl (aw_getf (k := 6) (f := 7) eX6_summers_95 tw_2_54 ⟨by decide, by decide⟩ (by decide) (v := aR 25 0) rfl (aw_bipush eX6_summers_98 k_bipush_10 (aw_iconst eX6_summers_100 k_iconst_0 (aw_iastK (n := 16) eX6_summers_101 rfl (by decide) (by decide) (j := 10) (by decide) (aw_wn ew19 (aw_goto eX6_summers_102 (aw_iincY (iinc_k k_iconst_1 ex3_20) eX6_summers_132 rfl (by decide) rfl (ls' := [some (aR 6 0), some (aI x1), some (aI x2), some (aI x3_20), some (aI x4_6)]) rfl (aw_goto eX6_summers_135 ?_))))))))))))))
          exact aw_sub (ls' := [some (aR 6 0), some (aI x1), some (aI x2), some (aI x3_20), none]) ⟨rfl, ⟨rfl, ⟨rfl, ⟨rfl, trivial⟩⟩⟩⟩ (ih h)
      · have h := ip c7 h
        obtain ⟨w21, ew21, h⟩ := lt_e h
        obtain ⟨x3_22, ex3_22, h⟩ := lt_e h
        refine aw_aload_n eX6_summers_65 rfl (aw_getf (k := 6) (f := 7) eX6_summers_66 tw_2_54 ⟨by decide, by decide⟩ (by decide) (v := aR 25 0) rfl (aw_bipush eX6_summers_69 k_bipush_8 (aw_dup2 eX6_summers_71 (aw_ialdK (n := 16) eX6_summers_72 rfl (by decide) (by decide) (j := 8) (by decide) (aw_iconst eX6_summers_73 k_iconst_1 (aw_iadd eX6_summers_74 (aw_iastK (n := 16) eX6_summers_75 rfl (by decide) (by decide) (j := 8) (by decide) (aw_wn ew21 (aw_goto eX6_summers_76 (aw_iincY (iinc_k k_iconst_1 ex3_22) eX6_summers_132 rfl (by decide) rfl (ls' := [some (aR 6 0), some (aI x1), some (aI x2), some (aI x3_22), some (aI x4_6)]) rfl (aw_goto eX6_summers_135 ?_)))))))))))
        exact aw_sub (ls' := [some (aR 6 0), some (aI x1), some (aI x2), some (aI x3_22), none]) ⟨rfl, ⟨rfl, ⟨rfl, ⟨rfl, trivial⟩⟩⟩⟩ (ih h)
def D_X6_summers (w : Wd) (x1 : Int32) : Option (Int32 × Wd) := (D_X6_in (Int32.toInt64 x1) 1 30).bind fun q1 => if q1 = 0 then (some ((-2), w)) else ((D_X6_layTrial w).bind fun q3 => D_X6_summers_23 fuelZ x1 0 0 q3)
set_option maxHeartbeats 4000000 in
set_option maxRecDepth 100000 in
theorem A_X6_summers {X : XS} {w : Wd} {x1 : Int32} {r : Int32 × Wd} (h : D_X6_summers w x1 = some r) : AW 4 X mX6_summers 0 (entA 5 [aR 6 0, aI x1]) [] w (PI r.1 r.2) := by
  show AW _ _ _ _ [some (aR 6 0), some (aI x1), none, none, none] _ _ _
  unfold D_X6_summers at h
  obtain ⟨q1, hq1, h⟩ := bd h
  refine aw_iload_n eX6_summers_0 rfl (aw_i2l eX6_summers_1 (aw_lconst eX6_summers_2 k_lconst_1 (aw_ldc2 eX6_summers_3 tw_3_104 (aw_callSI (N := mX6_in) [aL (Int32.toInt64 x1), aL 1, aL 30] eX6_summers_6 tw_2_116 msX6_in (by decide) rfl rfl (Nat.le_of_ble_eq_true rfl) (A_X6_in hq1) (aw_if_ne eX6_summers_9 (fun c2 => ?_) (fun c2 => ?_))))))
  · have h := iq c2 h
    obtain ⟨q3, hq3, h⟩ := bd h
    refine aw_aload_n eX6_summers_15 rfl (aw_callVV (N := mX6_layTrial) [] eX6_summers_16 tw_2_238 miX6_layTrial (by decide) (by decide) (by decide) rfl rfl (Nat.le_of_ble_eq_true rfl) (A_X6_layTrial hq3) (aw_iconst eX6_summers_19 k_iconst_0 (aw_istore_nY rfl eX6_summers_20 (by decide) rfl (ls' := [some (aR 6 0), some (aI x1), some (aI 0), none, none]) rfl (aw_iconst eX6_summers_21 k_iconst_0 (aw_istore_nY rfl eX6_summers_22 (by decide) rfl (ls' := [some (aR 6 0), some (aI x1), some (aI 0), some (aI 0), none]) rfl ?_)))))
    exact A_X6_summers_23 fuelZ h
  · have h := ip c2 h
    exact aw_bipush eX6_summers_12 k_bipush_m2 (aw_iret eX6_summers_14 rfl (pI_i h))
def D_X6_keep_21 : Nat → Int32 → Int32 → Wd → Option (Int32 × Wd)
  | 0, _, _, _ => none
  | n + 1, x1, x2, w => if 8 ≤ x2 then (some (w.1 25 0 0, w)) else (if inB x2 16 then if inB (((8 : Int32) * x1) + x2) 16 then lt (wS w 32 0 (Int32.toNatClampNeg (((8 : Int32) * x1) + x2)) (w.1 25 0 (Int32.toNatClampNeg x2))) fun w8 => lt (x2 + 1) fun x2_9 => D_X6_keep_21 n x1 x2_9 w8 else none else none)
set_option maxHeartbeats 4000000 in
set_option maxRecDepth 100000 in
theorem A_X6_keep_21 {X : XS} : ∀ (nn : Nat) {x1 : Int32} {x2 : Int32} {w : Wd} {r : Int32 × Wd}, D_X6_keep_21 nn x1 x2 w = some r → AW 1 X mX6_keep 21 [some (aR 6 0), some (aI x1), some (aI x2)] [] w (PI r.1 r.2) := by
  intro nn
  induction nn with
  | zero => intros; rename_i h; cases h
  | succ n ih =>
    intro x1 x2 w r h
    rw [D_X6_keep_21] at h
    refine aw_iload_n eX6_keep_21 rfl (aw_bipush eX6_keep_22 k_bipush_8 (aw_icmp_ge eX6_keep_24 (fun c5 => ?_) (fun c5 => ?_)))
    · have h := ip c5 h
      exact aw_aload_n eX6_keep_50 rfl (aw_getf (k := 6) (f := 7) eX6_keep_51 tw_2_54 ⟨by decide, by decide⟩ (by decide) (v := aR 25 0) rfl (aw_iconst eX6_keep_54 k_iconst_0 (aw_ialdK (n := 16) eX6_keep_55 rfl (by decide) (by decide) (j := 0) (by decide) (aw_iret eX6_keep_56 rfl (pI_i h)))))
    · have h := iq c5 h
      obtain ⟨hc6, h⟩ := ck h
      obtain ⟨hc7, h⟩ := ck h
      obtain ⟨w8, ew8, h⟩ := lt_e h
      obtain ⟨x2_9, ex2_9, h⟩ := lt_e h
      refine aw_aload_n eX6_keep_27 rfl (aw_getf (k := 6) (f := 20) eX6_keep_28 tw_2_67 ⟨by decide, by decide⟩ (by decide) (v := aR 32 0) rfl (aw_bipush eX6_keep_31 k_bipush_8 (aw_iload_n eX6_keep_33 rfl (aw_imul eX6_keep_34 (aw_iload_n eX6_keep_35 rfl (aw_iadd eX6_keep_36 (aw_aload_n eX6_keep_37 rfl (aw_getf (k := 6) (f := 7) eX6_keep_38 tw_2_54 ⟨by decide, by decide⟩ (by decide) (v := aR 25 0) rfl (aw_iload_n eX6_keep_41 rfl (aw_ialdK (n := 16) eX6_keep_42 rfl (by decide) hc6 (j := (Int32.toNatClampNeg x2)) rfl (aw_iastK (n := 16) eX6_keep_43 rfl (by decide) hc7 (j := (Int32.toNatClampNeg (((8 : Int32) * x1) + x2))) rfl (aw_wn ew8 (aw_iincY (iinc_k k_iconst_1 ex2_9) eX6_keep_44 rfl (by decide) rfl (ls' := [some (aR 6 0), some (aI x1), some (aI x2_9)]) rfl (aw_goto eX6_keep_47 ?_))))))))))))))
      exact ih h
def D_X6_keep (w : Wd) (x1 : Int32) : Option (Int32 × Wd) := (D_X6_in (Int32.toInt64 x1) 0 1).bind fun q1 => if q1 = 0 then (some ((-1), w)) else (if inB x1 2 then lt (wS w 33 0 (Int32.toNatClampNeg x1) 1) fun w4 => D_X6_keep_21 fuelZ x1 0 w4 else none)
set_option maxHeartbeats 4000000 in
set_option maxRecDepth 100000 in
theorem A_X6_keep {X : XS} {w : Wd} {x1 : Int32} {r : Int32 × Wd} (h : D_X6_keep w x1 = some r) : AW 1 X mX6_keep 0 (entA 3 [aR 6 0, aI x1]) [] w (PI r.1 r.2) := by
  show AW _ _ _ _ [some (aR 6 0), some (aI x1), none] _ _ _
  unfold D_X6_keep at h
  obtain ⟨q1, hq1, h⟩ := bd h
  refine aw_iload_n eX6_keep_0 rfl (aw_i2l eX6_keep_1 (aw_lconst eX6_keep_2 k_lconst_0 (aw_lconst eX6_keep_3 k_lconst_1 (aw_callSI (N := mX6_in) [aL (Int32.toInt64 x1), aL 0, aL 1] eX6_keep_4 tw_2_116 msX6_in (by decide) rfl rfl (Nat.le_of_ble_eq_true rfl) (A_X6_in hq1) (aw_if_ne eX6_keep_7 (fun c2 => ?_) (fun c2 => ?_))))))
  · have h := iq c2 h
    obtain ⟨hc3, h⟩ := ck h
    obtain ⟨w4, ew4, h⟩ := lt_e h
    refine aw_aload_n eX6_keep_12 rfl (aw_getf (k := 6) (f := 19) eX6_keep_13 tw_2_66 ⟨by decide, by decide⟩ (by decide) (v := aR 33 0) rfl (aw_iload_n eX6_keep_16 rfl (aw_iconst eX6_keep_17 k_iconst_1 (aw_zastK (n := 2) eX6_keep_18 rfl (by decide) hc3 vnar1 (j := (Int32.toNatClampNeg x1)) rfl (aw_wn ew4 (aw_iconst eX6_keep_19 k_iconst_0 (aw_istore_nY rfl eX6_keep_20 (by decide) rfl (ls' := [some (aR 6 0), some (aI x1), some (aI 0)]) rfl ?_)))))))
    exact A_X6_keep_21 fuelZ h
  · have h := ip c2 h
    exact aw_iconst eX6_keep_10 k_iconst_m1 (aw_iret eX6_keep_11 rfl (pI_i h))
def D_X6_again_26 : Nat → Int32 → Int32 → Wd → Option (Int32 × Wd)
  | 0, _, _, _ => none
  | n + 1, x1, x2, w => if 8 ≤ x2 then (lt (wS w 6 0 10 0) fun w6 => some (w6.1 25 0 0, w6)) else (if inB (((8 : Int32) * x1) + x2) 16 then if inB x2 16 then lt (wS w 25 0 (Int32.toNatClampNeg x2) (w.1 32 0 (Int32.toNatClampNeg (((8 : Int32) * x1) + x2)))) fun w9 => lt (x2 + 1) fun x2_10 => D_X6_again_26 n x1 x2_10 w9 else none else none)
set_option maxHeartbeats 4000000 in
set_option maxRecDepth 100000 in
theorem A_X6_again_26 {X : XS} : ∀ (nn : Nat) {x1 : Int32} {x2 : Int32} {w : Wd} {r : Int32 × Wd}, D_X6_again_26 nn x1 x2 w = some r → AW 1 X mX6_again 26 [some (aR 6 0), some (aI x1), some (aI x2)] [] w (PI r.1 r.2) := by
  intro nn
  induction nn with
  | zero => intros; rename_i h; cases h
  | succ n ih =>
    intro x1 x2 w r h
    rw [D_X6_again_26] at h
    refine aw_iload_n eX6_again_26 rfl (aw_bipush eX6_again_27 k_bipush_8 (aw_icmp_ge eX6_again_29 (fun c5 => ?_) (fun c5 => ?_)))
    · have h := ip c5 h
      obtain ⟨w6, ew6, h⟩ := lt_e h
      exact aw_aload_n eX6_again_55 rfl (aw_iconst eX6_again_56 k_iconst_0 (aw_putI (k := 6) (f := 10) eX6_again_57 tw_2_57 ⟨by decide, by decide⟩ (by decide) ⟨rfl, rfl, rfl, rfl⟩ (aw_wn ew6 (aw_aload_n eX6_again_60 rfl (aw_getf (k := 6) (f := 7) eX6_again_61 tw_2_54 ⟨by decide, by decide⟩ (by decide) (v := aR 25 0) rfl (aw_iconst eX6_again_64 k_iconst_0 (aw_ialdK (n := 16) eX6_again_65 rfl (by decide) (by decide) (j := 0) (by decide) (aw_iret eX6_again_66 rfl (pI_i h)))))))))
    · have h := iq c5 h
      obtain ⟨hc7, h⟩ := ck h
      obtain ⟨hc8, h⟩ := ck h
      obtain ⟨w9, ew9, h⟩ := lt_e h
      obtain ⟨x2_10, ex2_10, h⟩ := lt_e h
      refine aw_aload_n eX6_again_32 rfl (aw_getf (k := 6) (f := 7) eX6_again_33 tw_2_54 ⟨by decide, by decide⟩ (by decide) (v := aR 25 0) rfl (aw_iload_n eX6_again_36 rfl (aw_aload_n eX6_again_37 rfl (aw_getf (k := 6) (f := 20) eX6_again_38 tw_2_67 ⟨by decide, by decide⟩ (by decide) (v := aR 32 0) rfl (aw_bipush eX6_again_41 k_bipush_8 (aw_iload_n eX6_again_43 rfl (aw_imul eX6_again_44 (aw_iload_n eX6_again_45 rfl (aw_iadd eX6_again_46 (aw_ialdK (n := 16) eX6_again_47 rfl (by decide) hc7 (j := (Int32.toNatClampNeg (((8 : Int32) * x1) + x2))) rfl (aw_iastK (n := 16) eX6_again_48 rfl (by decide) hc8 (j := (Int32.toNatClampNeg x2)) rfl (aw_wn ew9 (aw_iincY (iinc_k k_iconst_1 ex2_10) eX6_again_49 rfl (by decide) rfl (ls' := [some (aR 6 0), some (aI x1), some (aI x2_10)]) rfl (aw_goto eX6_again_52 ?_))))))))))))))
      exact ih h
def D_X6_again (w : Wd) (x1 : Int32) : Option (Int32 × Wd) := (D_X6_in (Int32.toInt64 x1) 0 1).bind fun q1 => if q1 = 0 then (some ((-1), w)) else (if inB x1 2 then if (w.1 33 0 (Int32.toNatClampNeg x1)) = 0 then (some ((-3), w)) else (D_X6_again_26 fuelZ x1 0 w) else none)
set_option maxHeartbeats 4000000 in
set_option maxRecDepth 100000 in
theorem A_X6_again {X : XS} {w : Wd} {x1 : Int32} {r : Int32 × Wd} (h : D_X6_again w x1 = some r) : AW 1 X mX6_again 0 (entA 3 [aR 6 0, aI x1]) [] w (PI r.1 r.2) := by
  show AW _ _ _ _ [some (aR 6 0), some (aI x1), none] _ _ _
  unfold D_X6_again at h
  obtain ⟨q1, hq1, h⟩ := bd h
  refine aw_iload_n eX6_again_0 rfl (aw_i2l eX6_again_1 (aw_lconst eX6_again_2 k_lconst_0 (aw_lconst eX6_again_3 k_lconst_1 (aw_callSI (N := mX6_in) [aL (Int32.toInt64 x1), aL 0, aL 1] eX6_again_4 tw_2_116 msX6_in (by decide) rfl rfl (Nat.le_of_ble_eq_true rfl) (A_X6_in hq1) (aw_if_ne eX6_again_7 (fun c2 => ?_) (fun c2 => ?_))))))
  · have h := iq c2 h
    obtain ⟨hc3, h⟩ := ck h
    refine aw_aload_n eX6_again_12 rfl (aw_getf (k := 6) (f := 19) eX6_again_13 tw_2_66 ⟨by decide, by decide⟩ (by decide) (v := aR 33 0) rfl (aw_iload_n eX6_again_16 rfl (aw_zald eX6_again_17 rfl (by decide) hc3 (aw_if_ne eX6_again_18 (fun c4 => ?_) (fun c4 => ?_)))))
    · have h := iq c4 h
      refine aw_iconst eX6_again_24 k_iconst_0 (aw_istore_nY rfl eX6_again_25 (by decide) rfl (ls' := [some (aR 6 0), some (aI x1), some (aI 0)]) rfl ?_)
      exact A_X6_again_26 fuelZ h
    · have h := ip c4 h
      exact aw_bipush eX6_again_21 k_bipush_m3 (aw_iret eX6_again_23 rfl (pI_i h))
  · have h := ip c2 h
    exact aw_iconst eX6_again_10 k_iconst_m1 (aw_iret eX6_again_11 rfl (pI_i h))
def D_X6_count_4 (w : Wd) : Nat → Int32 → Int32 → Int32 → Option (Int32)
  | 0, _, _, _ => none
  | n + 1, x1, x2, x3 => if (w.1 6 0 0) ≤ x3 then (if x1 = 0 then (some (w.1 6 0 9)) else (if x1 = 1 then (some (w.1 6 0 0)) else (if x1 = 2 then (some (w.1 6 0 1)) else (if x1 = 3 then (some (w.1 25 0 0)) else (if x1 = 4 then (some (w.1 25 0 1)) else (if x1 = 5 then (some (w.1 25 0 2)) else (if x1 = 6 then (some (x2)) else (if x1 = 7 then (some (w.1 6 0 10)) else (if x1 = 8 then (some (w.1 6 0 14)) else (some ((-2)))))))))))) else ((D_X6_beginsNow w 0 x3).bind fun q11 => if q11 = ((-9)) then (lt (x2 ||| (0 : Int32)) fun x2_13 => lt (x3 + 1) fun x3_14 => D_X6_count_4 w n x1 x2_13 x3_14) else (lt (x2 ||| ((1 : Int32) <<< (x3 &&& 31))) fun x2_15 => lt (x3 + 1) fun x3_16 => D_X6_count_4 w n x1 x2_15 x3_16))
set_option maxHeartbeats 4000000 in
set_option maxRecDepth 100000 in
theorem A_X6_count_4 {X : XS} {w : Wd} : ∀ (nn : Nat) {x1 : Int32} {x2 : Int32} {x3 : Int32} {r : Int32}, D_X6_count_4 w nn x1 x2 x3 = some r → AW 3 X mX6_count 4 [some (aR 6 0), some (aI x1), some (aI x2), some (aI x3)] [] w (PI r w) := by
  intro nn
  induction nn with
  | zero => intros; rename_i h; cases h
  | succ n ih =>
    intro x1 x2 x3 r h
    rw [D_X6_count_4] at h
    refine aw_iload_n eX6_count_4 rfl (aw_aload_n eX6_count_5 rfl (aw_getf (k := 6) (f := 0) eX6_count_6 tw_2_47 ⟨by decide, by decide⟩ (by decide) (v := aI (w.1 6 0 0)) rfl (aw_icmp_ge eX6_count_9 (fun c1 => ?_) (fun c1 => ?_))))
    · have h := ip c1 h
      refine aw_iload_n eX6_count_39 rfl ?_
      by_cases c2 : x1 = 0
      · have h := ip c2 h
        refine aw_tabIn eX6_count_40 (by rw [c2]; decide) (by rw [c2]; decide) (off := 52) (tgt := 92) (by rw [c2]; decide) (by decide) ?_
        exact aw_aload_n eX6_count_92 rfl (aw_getf (k := 6) (f := 9) eX6_count_93 tw_2_56 ⟨by decide, by decide⟩ (by decide) (v := aI (w.1 6 0 9)) rfl (aw_iret eX6_count_96 rfl (pI_p h)))
      · have h := iq c2 h
        by_cases c3 : x1 = 1
        · have h := ip c3 h
          refine aw_tabIn eX6_count_40 (by rw [c3]; decide) (by rw [c3]; decide) (off := 57) (tgt := 97) (by rw [c3]; decide) (by decide) ?_
          exact aw_aload_n eX6_count_97 rfl (aw_getf (k := 6) (f := 0) eX6_count_98 tw_2_47 ⟨by decide, by decide⟩ (by decide) (v := aI (w.1 6 0 0)) rfl (aw_iret eX6_count_101 rfl (pI_p h)))
        · have h := iq c3 h
          by_cases c4 : x1 = 2
          · have h := ip c4 h
            refine aw_tabIn eX6_count_40 (by rw [c4]; decide) (by rw [c4]; decide) (off := 62) (tgt := 102) (by rw [c4]; decide) (by decide) ?_
            exact aw_aload_n eX6_count_102 rfl (aw_getf (k := 6) (f := 1) eX6_count_103 tw_2_48 ⟨by decide, by decide⟩ (by decide) (v := aI (w.1 6 0 1)) rfl (aw_iret eX6_count_106 rfl (pI_p h)))
          · have h := iq c4 h
            by_cases c5 : x1 = 3
            · have h := ip c5 h
              refine aw_tabIn eX6_count_40 (by rw [c5]; decide) (by rw [c5]; decide) (off := 67) (tgt := 107) (by rw [c5]; decide) (by decide) ?_
              exact aw_aload_n eX6_count_107 rfl (aw_getf (k := 6) (f := 7) eX6_count_108 tw_2_54 ⟨by decide, by decide⟩ (by decide) (v := aR 25 0) rfl (aw_iconst eX6_count_111 k_iconst_0 (aw_ialdK (n := 16) eX6_count_112 rfl (by decide) (by decide) (j := 0) (by decide) (aw_iret eX6_count_113 rfl (pI_p h)))))
            · have h := iq c5 h
              by_cases c6 : x1 = 4
              · have h := ip c6 h
                refine aw_tabIn eX6_count_40 (by rw [c6]; decide) (by rw [c6]; decide) (off := 74) (tgt := 114) (by rw [c6]; decide) (by decide) ?_
                exact aw_aload_n eX6_count_114 rfl (aw_getf (k := 6) (f := 7) eX6_count_115 tw_2_54 ⟨by decide, by decide⟩ (by decide) (v := aR 25 0) rfl (aw_iconst eX6_count_118 k_iconst_1 (aw_ialdK (n := 16) eX6_count_119 rfl (by decide) (by decide) (j := 1) (by decide) (aw_iret eX6_count_120 rfl (pI_p h)))))
              · have h := iq c6 h
                by_cases c7 : x1 = 5
                · have h := ip c7 h
                  refine aw_tabIn eX6_count_40 (by rw [c7]; decide) (by rw [c7]; decide) (off := 81) (tgt := 121) (by rw [c7]; decide) (by decide) ?_
                  exact aw_aload_n eX6_count_121 rfl (aw_getf (k := 6) (f := 7) eX6_count_122 tw_2_54 ⟨by decide, by decide⟩ (by decide) (v := aR 25 0) rfl (aw_iconst eX6_count_125 k_iconst_2 (aw_ialdK (n := 16) eX6_count_126 rfl (by decide) (by decide) (j := 2) (by decide) (aw_iret eX6_count_127 rfl (pI_p h)))))
                · have h := iq c7 h
                  by_cases c8 : x1 = 6
                  · have h := ip c8 h
                    refine aw_tabIn eX6_count_40 (by rw [c8]; decide) (by rw [c8]; decide) (off := 88) (tgt := 128) (by rw [c8]; decide) (by decide) ?_
                    exact aw_iload_n eX6_count_128 rfl (aw_iret eX6_count_129 rfl (pI_p h))
                  · have h := iq c8 h
                    by_cases c9 : x1 = 7
                    · have h := ip c9 h
                      refine aw_tabIn eX6_count_40 (by rw [c9]; decide) (by rw [c9]; decide) (off := 90) (tgt := 130) (by rw [c9]; decide) (by decide) ?_
                      exact aw_aload_n eX6_count_130 rfl (aw_getf (k := 6) (f := 10) eX6_count_131 tw_2_57 ⟨by decide, by decide⟩ (by decide) (v := aI (w.1 6 0 10)) rfl (aw_iret eX6_count_134 rfl (pI_p h)))
                    · have h := iq c9 h
                      by_cases c10 : x1 = 8
                      · have h := ip c10 h
                        refine aw_tabIn eX6_count_40 (by rw [c10]; decide) (by rw [c10]; decide) (off := 95) (tgt := 135) (by rw [c10]; decide) (by decide) ?_
                        exact aw_aload_n eX6_count_135 rfl (aw_getf (k := 6) (f := 14) eX6_count_136 tw_2_61 ⟨by decide, by decide⟩ (by decide) (v := aI (w.1 6 0 14)) rfl (aw_iret eX6_count_139 rfl (pI_p h)))
                      · have h := iq c10 h
                        have hto : x1.toInt < 0 ∨ 8 < x1.toInt := tab_out (fun c h1 h2 => by
                          have hcc : c = 0 ∨ c = 1 ∨ c = 2 ∨ c = 3 ∨ c = 4 ∨ c = 5 ∨ c = 6 ∨ c = 7 ∨ c = 8 := by omega
                          rcases hcc with rfl | rfl | rfl | rfl | rfl | rfl | rfl | rfl | rfl
                          · exact fun z => c2 (z.trans (by decide))
                          · exact fun z => c3 (z.trans (by decide))
                          · exact fun z => c4 (z.trans (by decide))
                          · exact fun z => c5 (z.trans (by decide))
                          · exact fun z => c6 (z.trans (by decide))
                          · exact fun z => c7 (z.trans (by decide))
                          · exact fun z => c8 (z.trans (by decide))
                          · exact fun z => c9 (z.trans (by decide))
                          · exact fun z => c10 (z.trans (by decide)))
                        refine aw_tabOut eX6_count_40 (by exact hto) (tgt := 140) (by decide) ?_
                        exact aw_bipush eX6_count_140 k_bipush_m2 (aw_iret eX6_count_142 rfl (pI_p h))
    · have h := iq c1 h
      obtain ⟨q11, hq11, h⟩ := bd h
      refine aw_iload_n eX6_count_12 rfl (aw_aload_n eX6_count_13 rfl (aw_iconst eX6_count_14 k_iconst_0 (aw_iload_n eX6_count_15 rfl (aw_callVI (N := mX6_beginsNow) [aI 0, aI x3] eX6_count_16 tw_2_147 miX6_beginsNow (by decide) (by decide) (by decide) rfl rfl (Nat.le_of_ble_eq_true rfl) (A_X6_beginsNow hq11) (aw_bipush eX6_count_19 k_bipush_m9 (aw_icmp_eq eX6_count_21 (fun c12 => ?_) (fun c12 => ?_)))))))
      · have h := ip c12 h
        obtain ⟨x2_13, ex2_13, h⟩ := lt_e h
        obtain ⟨x3_14, ex3_14, h⟩ := lt_e h
        refine aw_iconst eX6_count_30 k_iconst_0 (aw_ior eX6_count_31 (aw_istore_nY ex2_13 eX6_count_32 (by decide) rfl (ls' := [some (aR 6 0), some (aI x1), some (aI x2_13), some (aI x3)]) rfl (aw_iincY (iinc_k k_iconst_1 ex3_14) eX6_count_33 rfl (by decide) rfl (ls' := [some (aR 6 0), some (aI x1), some (aI x2_13), some (aI x3_14)]) rfl (aw_goto eX6_count_36 ?_))))
        exact ih h
      · have h := iq c12 h
        obtain ⟨x2_15, ex2_15, h⟩ := lt_e h
        obtain ⟨x3_16, ex3_16, h⟩ := lt_e h
        refine aw_iconst eX6_count_24 k_iconst_1 (aw_iload_n eX6_count_25 rfl (aw_ishl eX6_count_26 (aw_goto eX6_count_27 (aw_ior eX6_count_31 (aw_istore_nY ex2_15 eX6_count_32 (by decide) rfl (ls' := [some (aR 6 0), some (aI x1), some (aI x2_15), some (aI x3)]) rfl (aw_iincY (iinc_k k_iconst_1 ex3_16) eX6_count_33 rfl (by decide) rfl (ls' := [some (aR 6 0), some (aI x1), some (aI x2_15), some (aI x3_16)]) rfl (aw_goto eX6_count_36 ?_)))))))
        exact ih h
def D_X6_count (w : Wd) (x1 : Int32) : Option (Int32) := D_X6_count_4 w fuelZ x1 0 0
set_option maxHeartbeats 4000000 in
set_option maxRecDepth 100000 in
theorem A_X6_count {X : XS} {w : Wd} {x1 : Int32} {r : Int32} (h : D_X6_count w x1 = some r) : AW 3 X mX6_count 0 (entA 4 [aR 6 0, aI x1]) [] w (PI r w) := by
  show AW _ _ _ _ [some (aR 6 0), some (aI x1), none, none] _ _ _
  unfold D_X6_count at h
  refine aw_iconst eX6_count_0 k_iconst_0 (aw_istore_nY rfl eX6_count_1 (by decide) rfl (ls' := [some (aR 6 0), some (aI x1), some (aI 0), none]) rfl (aw_iconst eX6_count_2 k_iconst_0 (aw_istore_nY rfl eX6_count_3 (by decide) rfl (ls' := [some (aR 6 0), some (aI x1), some (aI 0), some (aI 0)]) rfl ?_)))
  exact A_X6_count_4 fuelZ h
