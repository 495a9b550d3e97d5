def D_X2_record_67 (x1 : Int32) (x3 : Int32) (w : Wd) : Option (Wd) := if x1 = (w.1 2 0 3) then (lt (wS w 2 0 7 ((w.1 2 0 7) + (1 : Int32))) fun w5 => lt (wS w5 2 0 8 ((w5.1 2 0 8) &&& x3)) fun w6 => lt (wS w6 2 0 9 ((w6.1 2 0 9) ||| x3)) fun w7 => some w7) else (some w)
set_option maxHeartbeats 4000000 in
set_option maxRecDepth 100000 in
theorem A_X2_record_67 {X : XS} {x1 : Int32} {x3 : Int32} {w : Wd} {r : Wd} (h : D_X2_record_67 x1 x3 w = some r) : AW 1 X mX2_record 67 [some (aR 2 0), some (aI x1), none, some (aI x3), none] [] w (PV r) := by
  unfold D_X2_record_67 at h
  refine aw_iload_n eX2_record_67 rfl (aw_aload_n eX2_record_68 rfl (aw_getf (k := 2) (f := 3) eX2_record_69 tw_0_117 ⟨by decide, by decide⟩ (by decide) (v := aI (w.1 2 0 3)) rfl (aw_icmp_ne eX2_record_72 (fun c4 => ?_) (fun c4 => ?_))))
  · have h := iq c4 h
    exact aw_vret eX2_record_105 rfl (pV_i h)
  · have h := ip c4 h
    obtain ⟨w5, ew5, h⟩ := lt_e h
    obtain ⟨w6, ew6, h⟩ := lt_e h
    obtain ⟨w7, ew7, h⟩ := lt_e h
    exact aw_aload_n eX2_record_75 rfl (aw_dupR eX2_record_76 (aw_getf (k := 2) (f := 7) eX2_record_77 tw_0_124 ⟨by decide, by decide⟩ (by decide) (v := aI (w.1 2 0 7)) rfl (aw_iconst eX2_record_80 k_iconst_1 (aw_iadd eX2_record_81 (aw_putI (k := 2) (f := 7) eX2_record_82 tw_0_124 ⟨by decide, by decide⟩ (by decide) ⟨rfl, rfl, rfl, rfl⟩ (aw_wn ew5 (aw_aload_n eX2_record_85 rfl (aw_dupR eX2_record_86 (aw_getf (k := 2) (f := 8) eX2_record_87 tw_0_126 ⟨by decide, by decide⟩ (by decide) (v := aI (w5.1 2 0 8)) rfl (aw_iload_n eX2_record_90 rfl (aw_iand eX2_record_91 (aw_putI (k := 2) (f := 8) eX2_record_92 tw_0_126 ⟨by decide, by decide⟩ (by decide) ⟨rfl, rfl, rfl, rfl⟩ (aw_wn ew6 (aw_aload_n eX2_record_95 rfl (aw_dupR eX2_record_96 (aw_getf (k := 2) (f := 9) eX2_record_97 tw_0_128 ⟨by decide, by decide⟩ (by decide) (v := aI (w6.1 2 0 9)) rfl (aw_iload_n eX2_record_100 rfl (aw_ior eX2_record_101 (aw_putI (k := 2) (f := 9) eX2_record_102 tw_0_128 ⟨by decide, by decide⟩ (by decide) ⟨rfl, rfl, rfl, rfl⟩ (aw_wn ew7 (aw_vret eX2_record_105 rfl (pV_i h))))))))))))))))))))))
def D_X2_record (w : Wd) (x1 : Int32) (x2 : Int32) (x3 : Int32) (x4 : Int32) : Option (Wd) := if x1 ≤ (w.1 2 0 4) then (if x1 = (w.1 2 0 4) then (lt (wS w 2 0 6 (minZ (w.1 2 0 6) x2)) fun w11 => if x3 < 0 then (D_X2_record_67 x1 x3 w11) else (if 64 ≤ x3 then (D_X2_record_67 x1 x3 w11) else (if inB x3 64 then lt (wS w11 14 0 (Int32.toNatClampNeg x3) 1) fun w15 => D_X2_record_67 x1 x3 w15 else none))) else (if x3 < 0 then (D_X2_record_67 x1 x3 w) else (if 64 ≤ x3 then (D_X2_record_67 x1 x3 w) else (if inB x3 64 then lt (wS w 14 0 (Int32.toNatClampNeg x3) 1) fun w10 => D_X2_record_67 x1 x3 w10 else none)))) else (lt (wS w 2 0 4 x1) fun w16 => lt (wS w16 2 0 5 x4) fun w17 => lt (wS w17 2 0 6 x2) fun w18 => if x3 < 0 then (D_X2_record_67 x1 x3 w18) else (if 64 ≤ x3 then (D_X2_record_67 x1 x3 w18) else (if inB x3 64 then lt (wS w18 14 0 (Int32.toNatClampNeg x3) 1) fun w22 => D_X2_record_67 x1 x3 w22 else none)))
set_option maxHeartbeats 4000000 in
set_option maxRecDepth 100000 in
theorem A_X2_record {X : XS} {w : Wd} {x1 : Int32} {x2 : Int32} {x3 : Int32} {x4 : Int32} {r : Wd} (h : D_X2_record w x1 x2 x3 x4 = some r) : AW 1 X mX2_record 0 (entA 5 [aR 2 0, aI x1, aI x2, aI x3, aI x4]) [] w (PV r) := by
  show AW _ _ _ _ [some (aR 2 0), some (aI x1), some (aI x2), some (aI x3), some (aI x4)] _ _ _
  unfold D_X2_record at h
  refine aw_iload_n eX2_record_0 rfl (aw_aload_n eX2_record_1 rfl (aw_getf (k := 2) (f := 4) eX2_record_2 tw_0_118 ⟨by decide, by decide⟩ (by decide) (v := aI (w.1 2 0 4)) rfl (aw_icmp_le eX2_record_5 (fun c1 => ?_) (fun c1 => ?_))))
  · have h := ip c1 h
    refine aw_iload_n eX2_record_27 rfl (aw_aload_n eX2_record_28 rfl (aw_getf (k := 2) (f := 4) eX2_record_29 tw_0_118 ⟨by decide, by decide⟩ (by decide) (v := aI (w.1 2 0 4)) rfl (aw_icmp_ne eX2_record_32 (fun c2 => ?_) (fun c2 => ?_))))
    · have h := iq c2 h
      refine aw_iload_n eX2_record_47 rfl (aw_if_lt eX2_record_48 (fun c3 => ?_) (fun c3 => ?_))
      · have h := ip c3 h
        exact aw_sub (ls' := [some (aR 2 0), some (aI x1), none, some (aI x3), none]) ⟨rfl, ⟨rfl, ⟨rfl, trivial⟩⟩⟩ (A_X2_record_67 h)
      · have h := iq c3 h
        refine aw_iload_n eX2_record_51 rfl (aw_aload_n eX2_record_52 rfl (aw_getf (k := 2) (f := 2) eX2_record_53 tw_0_115 ⟨by decide, by decide⟩ (by decide) (v := aR 14 0) rfl (aw_alenK eX2_record_56 rfl (by decide) (v := 64) kl_64 (aw_icmp_ge eX2_record_57 (fun c8 => ?_) (fun c8 => ?_)))))
        · have h := ip c8 h
          exact aw_sub (ls' := [some (aR 2 0), some (aI x1), none, some (aI x3), none]) ⟨rfl, ⟨rfl, ⟨rfl, trivial⟩⟩⟩ (A_X2_record_67 h)
        · have h := iq c8 h
          obtain ⟨hc9, h⟩ := ck h
          obtain ⟨w10, ew10, h⟩ := lt_e h
          refine aw_aload_n eX2_record_60 rfl (aw_getf (k := 2) (f := 2) eX2_record_61 tw_0_115 ⟨by decide, by decide⟩ (by decide) (v := aR 14 0) rfl (aw_iload_n eX2_record_64 rfl (aw_iconst eX2_record_65 k_iconst_1 (aw_iastK (n := 64) eX2_record_66 rfl (by decide) hc9 (j := (Int32.toNatClampNeg x3)) rfl (aw_wn ew10 ?_)))))
          exact aw_sub (ls' := [some (aR 2 0), some (aI x1), none, some (aI x3), none]) ⟨rfl, ⟨rfl, ⟨rfl, trivial⟩⟩⟩ (A_X2_record_67 h)
    · have h := ip c2 h
      obtain ⟨w11, ew11, h⟩ := lt_e h
      refine aw_aload_n eX2_record_35 rfl (aw_aload_n eX2_record_36 rfl (aw_getf (k := 2) (f := 6) eX2_record_37 tw_0_122 ⟨by decide, by decide⟩ (by decide) (v := aI (w.1 2 0 6)) rfl (aw_iload_n eX2_record_40 rfl (aw_mmin eX2_record_41 tw_1_143 (by decide) (Nat.le_of_ble_eq_true rfl) (aw_putI (k := 2) (f := 6) eX2_record_44 tw_0_122 ⟨by decide, by decide⟩ (by decide) ⟨rfl, rfl, rfl, rfl⟩ (aw_wn ew11 (aw_iload_n eX2_record_47 rfl (aw_if_lt eX2_record_48 (fun c12 => ?_) (fun c12 => ?_)))))))))
      · have h := ip c12 h
        exact aw_sub (ls' := [some (aR 2 0), some (aI x1), none, some (aI x3), none]) ⟨rfl, ⟨rfl, ⟨rfl, trivial⟩⟩⟩ (A_X2_record_67 h)
      · have h := iq c12 h
        refine aw_iload_n eX2_record_51 rfl (aw_aload_n eX2_record_52 rfl (aw_getf (k := 2) (f := 2) eX2_record_53 tw_0_115 ⟨by decide, by decide⟩ (by decide) (v := aR 14 0) rfl (aw_alenK eX2_record_56 rfl (by decide) (v := 64) kl_64 (aw_icmp_ge eX2_record_57 (fun c13 => ?_) (fun c13 => ?_)))))
        · have h := ip c13 h
          exact aw_sub (ls' := [some (aR 2 0), some (aI x1), none, some (aI x3), none]) ⟨rfl, ⟨rfl, ⟨rfl, trivial⟩⟩⟩ (A_X2_record_67 h)
        · have h := iq c13 h
          obtain ⟨hc14, h⟩ := ck h
          obtain ⟨w15, ew15, h⟩ := lt_e h
          refine aw_aload_n eX2_record_60 rfl (aw_getf (k := 2) (f := 2) eX2_record_61 tw_0_115 ⟨by decide, by decide⟩ (by decide) (v := aR 14 0) rfl (aw_iload_n eX2_record_64 rfl (aw_iconst eX2_record_65 k_iconst_1 (aw_iastK (n := 64) eX2_record_66 rfl (by decide) hc14 (j := (Int32.toNatClampNeg x3)) rfl (aw_wn ew15 ?_)))))
          exact aw_sub (ls' := [some (aR 2 0), some (aI x1), none, some (aI x3), none]) ⟨rfl, ⟨rfl, ⟨rfl, trivial⟩⟩⟩ (A_X2_record_67 h)
  · have h := iq c1 h
    obtain ⟨w16, ew16, h⟩ := lt_e h
    obtain ⟨w17, ew17, h⟩ := lt_e h
    obtain ⟨w18, ew18, h⟩ := lt_e h
    refine aw_aload_n eX2_record_8 rfl (aw_iload_n eX2_record_9 rfl (aw_putI (k := 2) (f := 4) eX2_record_10 tw_0_118 ⟨by decide, by decide⟩ (by decide) ⟨rfl, rfl, rfl, rfl⟩ (aw_wn ew16 (aw_aload_n eX2_record_13 rfl (aw_iload eX2_record_14 rfl (aw_putI (k := 2) (f := 5) eX2_record_16 tw_0_120 ⟨by decide, by decide⟩ (by decide) ⟨rfl, rfl, rfl, rfl⟩ (aw_wn ew17 (aw_aload_n eX2_record_19 rfl (aw_iload_n eX2_record_20 rfl (aw_putI (k := 2) (f := 6) eX2_record_21 tw_0_122 ⟨by decide, by decide⟩ (by decide) ⟨rfl, rfl, rfl, rfl⟩ (aw_wn ew18 (aw_goto eX2_record_24 (aw_iload_n eX2_record_47 rfl (aw_if_lt eX2_record_48 (fun c19 => ?_) (fun c19 => ?_)))))))))))))))
    · have h := ip c19 h
      exact aw_sub (ls' := [some (aR 2 0), some (aI x1), none, some (aI x3), none]) ⟨rfl, ⟨rfl, ⟨rfl, trivial⟩⟩⟩ (A_X2_record_67 h)
    · have h := iq c19 h
      refine aw_iload_n eX2_record_51 rfl (aw_aload_n eX2_record_52 rfl (aw_getf (k := 2) (f := 2) eX2_record_53 tw_0_115 ⟨by decide, by decide⟩ (by decide) (v := aR 14 0) rfl (aw_alenK eX2_record_56 rfl (by decide) (v := 64) kl_64 (aw_icmp_ge eX2_record_57 (fun c20 => ?_) (fun c20 => ?_)))))
      · have h := ip c20 h
        exact aw_sub (ls' := [some (aR 2 0), some (aI x1), none, some (aI x3), none]) ⟨rfl, ⟨rfl, ⟨rfl, trivial⟩⟩⟩ (A_X2_record_67 h)
      · have h := iq c20 h
        obtain ⟨hc21, h⟩ := ck h
        obtain ⟨w22, ew22, h⟩ := lt_e h
        refine aw_aload_n eX2_record_60 rfl (aw_getf (k := 2) (f := 2) eX2_record_61 tw_0_115 ⟨by decide, by decide⟩ (by decide) (v := aR 14 0) rfl (aw_iload_n eX2_record_64 rfl (aw_iconst eX2_record_65 k_iconst_1 (aw_iastK (n := 64) eX2_record_66 rfl (by decide) hc21 (j := (Int32.toNatClampNeg x3)) rfl (aw_wn ew22 ?_)))))
        exact aw_sub (ls' := [some (aR 2 0), some (aI x1), none, some (aI x3), none]) ⟨rfl, ⟨rfl, ⟨rfl, trivial⟩⟩⟩ (A_X2_record_67 h)
def D_X2_goOn_70 (self : Wd → Int32 → Int32 → Int32 → Int32 → Int32 → Option (Wd)) (k29 : Int32 → Int32 → Int32 → Int32 → Int32 → Int32 → Wd → Option (Wd)) (x2 : Int32) (x3 : Int32) (x4 : Int32) (x5 : Int32) (x6 : Int32) (x7 : Int32) (x8 : Int32) (s0 : Int32) (w : Wd) : Option (Wd) := if s0 = 0 then (lt (x7 + 1) fun x7_8 => k29 x2 x3 x4 x5 x6 x7_8 w) else ((D_X2_allows w (x2 + (1 : Int32)) x8).bind fun q9 => if q9 = 0 then (lt (x7 + 1) fun x7_11 => k29 x2 x3 x4 x5 x6 x7_11 w) else ((D_X3_hoursBetween w 2 x3 x8).bind fun q12 => (D_X1_begin w x7 x4 q12).bind fun q13 => if q13 = ((-9)) then (lt (x7 + 1) fun x7_15 => k29 x2 x3 x4 x5 x6 x7_15 w) else ((D_X1_ringFree w x7 q13).bind fun q16 => (self w (x2 + (1 : Int32)) x8 q16 (x5 ||| ((1 : Int32) <<< (x7 &&& 31))) (((x6 * (10 : Int32)) + x7) + (1 : Int32))).bind fun q17 => lt (x7 + 1) fun x7_18 => k29 x2 x3 x4 x5 x6 x7_18 q17)))
set_option maxHeartbeats 4000000 in
set_option maxRecDepth 100000 in
theorem A_X2_goOn_70 {X : XS} {dd : Nat} {self : Wd → Int32 → Int32 → Int32 → Int32 → Int32 → Option (Wd)} (hself : ∀ {w : Wd} {x2 : Int32} {x3 : Int32} {x4 : Int32} {x5 : Int32} {x6 : Int32} {r : Wd}, self w x2 x3 x4 x5 x6 = some r → AW (dd + 2) X mX2_goOn 0 (entA 12 [aR 2 0, aR 1 0, aI x2, aI x3, aI x4, aI x5, aI x6]) [] w (PV r)) {k29 : Int32 → Int32 → Int32 → Int32 → Int32 → Int32 → Wd → Option (Wd)} (hk29 : ∀ {x2 : Int32} {x3 : Int32} {x4 : Int32} {x5 : Int32} {x6 : Int32} {x7 : Int32} {w : Wd} {r : Wd}, k29 x2 x3 x4 x5 x6 x7 w = some r → AW (dd + 3) X mX2_goOn 29 [some (aR 2 0), some (aR 1 0), some (aI x2), some (aI x3), some (aI x4), some (aI x5), some (aI x6), some (aI x7), none, none, none, none] [] w (PV r)) {x2 : Int32} {x3 : Int32} {x4 : Int32} {x5 : Int32} {x6 : Int32} {x7 : Int32} {x8 : Int32} {s0 : Int32} {w : Wd} {r : Wd} (h : D_X2_goOn_70 self k29 x2 x3 x4 x5 x6 x7 x8 s0 w = some r) : AW (dd + 3) X mX2_goOn 70 [some (aR 2 0), some (aR 1 0), some (aI x2), some (aI x3), some (aI x4), some (aI x5), some (aI x6), some (aI x7), some (aI x8), none, none, none] [aI s0] w (PV r) := by
  unfold D_X2_goOn_70 at h
  refine aw_istoreY rfl eX2_goOn_70 (by decide) rfl (ls' := [some (aR 2 0), some (aR 1 0), some (aI x2), some (aI x3), some (aI x4), some (aI x5), some (aI x6), some (aI x7), some (aI x8), some (aI s0), none, none]) rfl (aw_iload eX2_goOn_72 rfl (aw_if_eq eX2_goOn_74 (fun c7 => ?_) (fun c7 => ?_)))
  · have h := ip c7 h
    obtain ⟨x7_8, ex7_8, h⟩ := lt_e h
    refine aw_iincY (iinc_k k_iconst_1 ex7_8) eX2_goOn_155 rfl (by decide) rfl (ls' := [some (aR 2 0), some (aR 1 0), some (aI x2), some (aI x3), some (aI x4), some (aI x5), some (aI x6), some (aI x7_8), some (aI x8), some (aI s0), none, none]) rfl (aw_goto eX2_goOn_158 ?_)
    exact aw_sub (ls' := [some (aR 2 0), some (aR 1 0), some (aI x2), some (aI x3), some (aI x4), some (aI x5), some (aI x6), some (aI x7_8), none, none, none, none]) ⟨rfl, ⟨rfl, ⟨rfl, ⟨rfl, ⟨rfl, ⟨rfl, ⟨rfl, ⟨rfl, trivial⟩⟩⟩⟩⟩⟩⟩⟩ (hk29 h)
  · have h := iq c7 h
    obtain ⟨q9, hq9, h⟩ := bd h
    refine aw_aload_n eX2_goOn_77 rfl (aw_iload_n eX2_goOn_78 rfl (aw_iconst eX2_goOn_79 k_iconst_1 (aw_iadd eX2_goOn_80 (aw_iload eX2_goOn_81 rfl (aw_callVI (N := mX2_allows) [aI (x2 + (1 : Int32)), aI x8] eX2_goOn_83 tw_1_131 miX2_allows (by decide) (by decide) (by omega) rfl rfl (Nat.le_of_ble_eq_true rfl) (A_X2_allows hq9) (aw_if_eq eX2_goOn_86 (fun c10 => ?_) (fun c10 => ?_)))))))
    · have h := ip c10 h
      obtain ⟨x7_11, ex7_11, h⟩ := lt_e h
      refine aw_iincY (iinc_k k_iconst_1 ex7_11) eX2_goOn_155 rfl (by decide) rfl (ls' := [some (aR 2 0), some (aR 1 0), some (aI x2), some (aI x3), some (aI x4), some (aI x5), some (aI x6), some (aI x7_11), some (aI x8), some (aI s0), none, none]) rfl (aw_goto eX2_goOn_158 ?_)
      exact aw_sub (ls' := [some (aR 2 0), some (aR 1 0), some (aI x2), some (aI x3), some (aI x4), some (aI x5), some (aI x6), some (aI x7_11), none, none, none, none]) ⟨rfl, ⟨rfl, ⟨rfl, ⟨rfl, ⟨rfl, ⟨rfl, ⟨rfl, ⟨rfl, trivial⟩⟩⟩⟩⟩⟩⟩⟩ (hk29 h)
    · have h := iq c10 h
      obtain ⟨q12, hq12, h⟩ := bd h
      obtain ⟨q13, hq13, h⟩ := bd h
      refine aw_aload_n eX2_goOn_89 rfl (aw_iload eX2_goOn_90 rfl (aw_iload eX2_goOn_92 rfl (aw_aload_n eX2_goOn_94 rfl (aw_getf (k := 2) (f := 0) eX2_goOn_95 tw_0_113 ⟨by decide, by decide⟩ (by decide) (v := aR 3 2) rfl (aw_iload_n eX2_goOn_98 rfl (aw_iload eX2_goOn_99 rfl (aw_callVI (N := mX3_hoursBetween) [aI x3, aI x8] eX2_goOn_101 tw_1_145 miX3_hoursBetween (by decide) (by decide) (by omega) rfl rfl (Nat.le_of_ble_eq_true rfl) (A_X3_hoursBetween hq12) (aw_callVI (N := mX1_begin) [aI x7, aI x4, aI q12] eX2_goOn_104 tw_1_146 miX1_begin (by decide) (by decide) (by omega) rfl rfl (Nat.le_of_ble_eq_true rfl) (A_X1_begin hq13) (aw_istoreY rfl eX2_goOn_107 (by decide) rfl (ls' := [some (aR 2 0), some (aR 1 0), some (aI x2), some (aI x3), some (aI x4), some (aI x5), some (aI x6), some (aI x7), some (aI x8), some (aI s0), some (aI q13), none]) rfl (aw_iload eX2_goOn_109 rfl (aw_bipush eX2_goOn_111 k_bipush_m9 (aw_icmp_eq eX2_goOn_113 (fun c14 => ?_) (fun c14 => ?_)))))))))))))
      · have h := ip c14 h
        obtain ⟨x7_15, ex7_15, h⟩ := lt_e h
        refine aw_iincY (iinc_k k_iconst_1 ex7_15) eX2_goOn_155 rfl (by decide) rfl (ls' := [some (aR 2 0), some (aR 1 0), some (aI x2), some (aI x3), some (aI x4), some (aI x5), some (aI x6), some (aI x7_15), some (aI x8), some (aI s0), some (aI q13), none]) rfl (aw_goto eX2_goOn_158 ?_)
        exact aw_sub (ls' := [some (aR 2 0), some (aR 1 0), some (aI x2), some (aI x3), some (aI x4), some (aI x5), some (aI x6), some (aI x7_15), none, none, none, none]) ⟨rfl, ⟨rfl, ⟨rfl, ⟨rfl, ⟨rfl, ⟨rfl, ⟨rfl, ⟨rfl, trivial⟩⟩⟩⟩⟩⟩⟩⟩ (hk29 h)
      · have h := iq c14 h
        obtain ⟨q16, hq16, h⟩ := bd h
        obtain ⟨q17, hq17, h⟩ := bd h
        obtain ⟨x7_18, ex7_18, h⟩ := lt_e h
        refine aw_aload_n eX2_goOn_116 rfl (aw_iload eX2_goOn_117 rfl (aw_iload eX2_goOn_119 rfl (aw_callVI (N := mX1_ringFree) [aI x7, aI q13] eX2_goOn_121 tw_1_147 miX1_ringFree (by decide) (by decide) (by omega) rfl rfl (Nat.le_of_ble_eq_true rfl) (A_X1_ringFree hq16) (aw_istoreY rfl eX2_goOn_124 (by decide) rfl (ls' := [some (aR 2 0), some (aR 1 0), some (aI x2), some (aI x3), some (aI x4), some (aI x5), some (aI x6), some (aI x7), some (aI x8), some (aI s0), some (aI q13), some (aI q16)]) rfl (aw_aload_n eX2_goOn_126 rfl (aw_aload_n eX2_goOn_127 rfl (aw_iload_n eX2_goOn_128 rfl (aw_iconst eX2_goOn_129 k_iconst_1 (aw_iadd eX2_goOn_130 (aw_iload eX2_goOn_131 rfl (aw_iload eX2_goOn_133 rfl (aw_iload eX2_goOn_135 rfl (aw_iconst eX2_goOn_137 k_iconst_1 (aw_iload eX2_goOn_138 rfl (aw_ishl eX2_goOn_140 (aw_ior eX2_goOn_141 (aw_iload eX2_goOn_142 rfl (aw_bipush eX2_goOn_144 k_bipush_10 (aw_imul eX2_goOn_146 (aw_iload eX2_goOn_147 rfl (aw_iadd eX2_goOn_149 (aw_iconst eX2_goOn_150 k_iconst_1 (aw_iadd eX2_goOn_151 (aw_callSV (N := mX2_goOn) [aR 2 0, aR 1 0, aI (x2 + (1 : Int32)), aI x8, aI q16, aI (x5 ||| ((1 : Int32) <<< (x7 &&& 31))), aI (((x6 * (10 : Int32)) + x7) + (1 : Int32))] eX2_goOn_152 tw_1_136 msX2_goOn (by omega) rfl rfl (Nat.le_of_ble_eq_true rfl) (hself hq17) (aw_iincY (iinc_k k_iconst_1 ex7_18) eX2_goOn_155 rfl (by decide) rfl (ls' := [some (aR 2 0), some (aR 1 0), some (aI x2), some (aI x3), some (aI x4), some (aI x5), some (aI x6), some (aI x7_18), some (aI x8), some (aI s0), some (aI q13), some (aI q16)]) rfl (aw_goto eX2_goOn_158 ?_))))))))))))))))))))))))))
        exact aw_sub (ls' := [some (aR 2 0), some (aR 1 0), some (aI x2), some (aI x3), some (aI x4), some (aI x5), some (aI x6), some (aI x7_18), none, none, none, none]) ⟨rfl, ⟨rfl, ⟨rfl, ⟨rfl, ⟨rfl, ⟨rfl, ⟨rfl, ⟨rfl, trivial⟩⟩⟩⟩⟩⟩⟩⟩ (hk29 h)
def D_X2_goOn_29 (self : Wd → Int32 → Int32 → Int32 → Int32 → Int32 → Option (Wd)) : Nat → Int32 → Int32 → Int32 → Int32 → Int32 → Int32 → Wd → Option (Wd)
  | 0, _, _, _, _, _, _, _ => none
  | n + 1, x2, x3, x4, x5, x6, x7, w => if (w.1 1 0 2) ≤ x7 then (some w) else ((D_X1_figure w x7 0).bind fun q5 => if ((((w.1 3 2 3) ||| x5) >>> (x7 &&& 31)) &&& (1 : Int32)) = 0 then (D_X2_goOn_70 self (fun y0 y1 y2 y3 y4 y5 wy => D_X2_goOn_29 self n y0 y1 y2 y3 y4 y5 wy) x2 x3 x4 x5 x6 x7 q5 1 w) else (D_X2_goOn_70 self (fun y0 y1 y2 y3 y4 y5 wy => D_X2_goOn_29 self n y0 y1 y2 y3 y4 y5 wy) x2 x3 x4 x5 x6 x7 q5 0 w))
set_option maxHeartbeats 4000000 in
set_option maxRecDepth 100000 in
theorem A_X2_goOn_29 {X : XS} {dd : Nat} {self : Wd → Int32 → Int32 → Int32 → Int32 → Int32 → Option (Wd)} (hself : ∀ {w : Wd} {x2 : Int32} {x3 : Int32} {x4 : Int32} {x5 : Int32} {x6 : Int32} {r : Wd}, self w x2 x3 x4 x5 x6 = some r → AW (dd + 2) X mX2_goOn 0 (entA 12 [aR 2 0, aR 1 0, aI x2, aI x3, aI x4, aI x5, aI x6]) [] w (PV r)) : ∀ (nn : Nat) {x2 : Int32} {x3 : Int32} {x4 : Int32} {x5 : Int32} {x6 : Int32} {x7 : Int32} {w : Wd} {r : Wd}, D_X2_goOn_29 self nn x2 x3 x4 x5 x6 x7 w = some r → AW (dd + 3) X mX2_goOn 29 [some (aR 2 0), some (aR 1 0), some (aI x2), some (aI x3), some (aI x4), some (aI x5), some (aI x6), some (aI x7), none, none, none, none] [] w (PV r) := by
  intro nn
  induction nn with
  | zero => intros; rename_i h; cases h
  | succ n ih =>
    intro x2 x3 x4 x5 x6 x7 w r h
    rw [D_X2_goOn_29] at h
    refine aw_iload eX2_goOn_29 rfl (aw_aload_n eX2_goOn_31 rfl (aw_getf (k := 1) (f := 2) eX2_goOn_32 tw_0_44 ⟨by decide, by decide⟩ (by decide) (v := aI (w.1 1 0 2)) rfl (aw_icmp_ge eX2_goOn_35 (fun c4 => ?_) (fun c4 => ?_))))
    · have h := ip c4 h
      exact aw_vret eX2_goOn_161 rfl (pV_i h)
    · have h := iq c4 h
      obtain ⟨q5, hq5, h⟩ := bd h
      refine aw_aload_n eX2_goOn_38 rfl (aw_iload eX2_goOn_39 rfl (aw_iconst eX2_goOn_41 k_iconst_0 (aw_callVI (N := mX1_figure) [aI x7, aI 0] eX2_goOn_42 tw_1_144 miX1_figure (by decide) (by decide) (by omega) rfl rfl (Nat.le_of_ble_eq_true rfl) (A_X1_figure hq5) (aw_istoreY rfl eX2_goOn_45 (by decide) rfl (ls' := [some (aR 2 0), some (aR 1 0), some (aI x2), some (aI x3), some (aI x4), some (aI x5), some (aI x6), some (aI x7), some (aI q5), none, none, none]) rfl (aw_aload_n eX2_goOn_47 rfl (aw_getf (k := 2) (f := 0) eX2_goOn_48 tw_0_113 ⟨by decide, by decide⟩ (by decide) (v := aR 3 2) rfl (aw_getf (k := 3) (f := 3) eX2_goOn_51 tw_0_73 ⟨by decide, by decide⟩ (by decide) (v := aI (w.1 3 2 3)) rfl (aw_iload eX2_goOn_54 rfl (aw_ior eX2_goOn_56 (aw_iload eX2_goOn_57 rfl (aw_ishr eX2_goOn_59 (aw_iconst eX2_goOn_60 k_iconst_1 (aw_iand eX2_goOn_61 (aw_if_ne eX2_goOn_62 (fun c6 => ?_) (fun c6 => ?_)))))))))))))))
      · have h := iq c6 h
        refine aw_iconst eX2_goOn_69 k_iconst_0 ?_
        exact A_X2_goOn_70 hself (fun h => ih h) h
      · have h := ip c6 h
        refine aw_iconst eX2_goOn_65 k_iconst_1 (aw_goto eX2_goOn_66 ?_)
        exact A_X2_goOn_70 hself (fun h => ih h) h
def D_X2_goOn_b (self : Wd → Int32 → Int32 → Int32 → Int32 → Int32 → Option (Wd)) (w : Wd) (x2 : Int32) (x3 : Int32) (x4 : Int32) (x5 : Int32) (x6 : Int32) : Option (Wd) := (D_X2_record w x2 x4 x5 x6).bind fun q1 => if (q1.1 2 0 3) ≤ x2 then (some q1) else (if x2 < 6 then (D_X2_goOn_29 self fuelZ x2 x3 x4 x5 x6 0 q1) else (some q1))
set_option maxHeartbeats 4000000 in
set_option maxRecDepth 100000 in
theorem A_X2_goOn_b {X : XS} {w : Wd} {dd : Nat} {x2 : Int32} {x3 : Int32} {x4 : Int32} {x5 : Int32} {x6 : Int32} {r : Wd} {self : Wd → Int32 → Int32 → Int32 → Int32 → Int32 → Option (Wd)} (hself : ∀ {w : Wd} {x2 : Int32} {x3 : Int32} {x4 : Int32} {x5 : Int32} {x6 : Int32} {r : Wd}, self w x2 x3 x4 x5 x6 = some r → AW (dd + 2) X mX2_goOn 0 (entA 12 [aR 2 0, aR 1 0, aI x2, aI x3, aI x4, aI x5, aI x6]) [] w (PV r)) (h : D_X2_goOn_b self w x2 x3 x4 x5 x6 = some r) : AW (dd + 3) X mX2_goOn 0 (entA 12 [aR 2 0, aR 1 0, aI x2, aI x3, aI x4, aI x5, aI x6]) [] w (PV r) := by
  show AW _ _ _ _ [some (aR 2 0), some (aR 1 0), some (aI x2), some (aI x3), some (aI x4), some (aI x5), some (aI x6), none, none, none, none, none] _ _ _
  unfold D_X2_goOn_b at h
  obtain ⟨q1, hq1, h⟩ := bd h
  refine aw_aload_n eX2_goOn_0 rfl (aw_iload_n eX2_goOn_1 rfl (aw_iload eX2_goOn_2 rfl (aw_iload eX2_goOn_4 rfl (aw_iload eX2_goOn_6 rfl (aw_callVV (N := mX2_record) [aI x2, aI x4, aI x5, aI x6] eX2_goOn_8 tw_1_139 miX2_record (by decide) (by decide) (by omega) rfl rfl (Nat.le_of_ble_eq_true rfl) (A_X2_record hq1) (aw_iload_n eX2_goOn_11 rfl (aw_aload_n eX2_goOn_12 rfl (aw_getf (k := 2) (f := 3) eX2_goOn_13 tw_0_117 ⟨by decide, by decide⟩ (by decide) (v := aI (q1.1 2 0 3)) rfl (aw_icmp_ge eX2_goOn_16 (fun c2 => ?_) (fun c2 => ?_))))))))))
  · have h := ip c2 h
    exact aw_vret eX2_goOn_25 rfl (pV_i h)
  · have h := iq c2 h
    refine aw_iload_n eX2_goOn_19 rfl (aw_bipush eX2_goOn_20 k_bipush_6 (aw_icmp_lt eX2_goOn_22 (fun c3 => ?_) (fun c3 => ?_)))
    · have h := ip c3 h
      refine aw_iconst eX2_goOn_26 k_iconst_0 (aw_istoreY rfl eX2_goOn_27 (by decide) rfl (ls' := [some (aR 2 0), some (aR 1 0), some (aI x2), some (aI x3), some (aI x4), some (aI x5), some (aI x6), some (aI 0), none, none, none, none]) rfl ?_)
      exact A_X2_goOn_29 hself fuelZ h
    · have h := iq c3 h
      exact aw_vret eX2_goOn_25 rfl (pV_i h)
def D_X2_goOn : Nat → Wd → Int32 → Int32 → Int32 → Int32 → Int32 → Option (Wd)
  | 0, _, _, _, _, _, _ => none
  | n + 1, w, x2, x3, x4, x5, x6 => D_X2_goOn_b (D_X2_goOn n) w x2 x3 x4 x5 x6
theorem A_X2_goOn {X : XS} : ∀ (n : Nat) {w : Wd} {x2 : Int32} {x3 : Int32} {x4 : Int32} {x5 : Int32} {x6 : Int32} {r : Wd}, D_X2_goOn n w x2 x3 x4 x5 x6 = some r → AW (n + 2) X mX2_goOn 0 (entA 12 [aR 2 0, aR 1 0, aI x2, aI x3, aI x4, aI x5, aI x6]) [] w (PV r)
  | 0, _, _, _, _, _, _, _, h => by cases h
  | n + 1, w, _, _, _, _, _, _, h => by
    have h2 := A_X2_goOn_b (X := X) (dd := n) (fun {w} {x2} {x3} {x4} {x5} {x6} {r} h => A_X2_goOn n h) h
    exact aw_deep (by omega) h2
def D_X2_run (w : Wd) : Option (Wd) := (D_X2_allows w 0 (w.1 3 2 2)).bind fun q1 => if q1 = 0 then (some w) else ((D_X2_goOn 8 w 0 (w.1 3 2 2) (w.1 3 2 1) 0 0).bind fun q3 => some q3)
set_option maxHeartbeats 4000000 in
set_option maxRecDepth 100000 in
theorem A_X2_run {X : XS} {w : Wd} {r : Wd} (h : D_X2_run w = some r) : AW 11 X mX2_run 0 (entA 2 [aR 2 0, aR 1 0]) [] w (PV r) := by
  show AW _ _ _ _ [some (aR 2 0), some (aR 1 0)] _ _ _
  unfold D_X2_run at h
  obtain ⟨q1, hq1, h⟩ := bd h
  refine aw_aload_n eX2_run_0 rfl (aw_iconst eX2_run_1 k_iconst_0 (aw_aload_n eX2_run_2 rfl (aw_getf (k := 2) (f := 0) eX2_run_3 tw_0_113 ⟨by decide, by decide⟩ (by decide) (v := aR 3 2) rfl (aw_getf (k := 3) (f := 2) eX2_run_6 tw_0_69 ⟨by decide, by decide⟩ (by decide) (v := aI (w.1 3 2 2)) rfl (aw_callVI (N := mX2_allows) [aI 0, aI (w.1 3 2 2)] eX2_run_9 tw_1_131 miX2_allows (by decide) (by decide) (by decide) rfl rfl (Nat.le_of_ble_eq_true rfl) (A_X2_allows hq1) (aw_if_eq eX2_run_12 (fun c2 => ?_) (fun c2 => ?_)))))))
  · have h := ip c2 h
    exact aw_vret eX2_run_37 rfl (pV_i h)
  · have h := iq c2 h
    obtain ⟨q3, hq3, h⟩ := bd h
    exact aw_aload_n eX2_run_15 rfl (aw_aload_n eX2_run_16 rfl (aw_iconst eX2_run_17 k_iconst_0 (aw_aload_n eX2_run_18 rfl (aw_getf (k := 2) (f := 0) eX2_run_19 tw_0_113 ⟨by decide, by decide⟩ (by decide) (v := aR 3 2) rfl (aw_getf (k := 3) (f := 2) eX2_run_22 tw_0_69 ⟨by decide, by decide⟩ (by decide) (v := aI (w.1 3 2 2)) rfl (aw_aload_n eX2_run_25 rfl (aw_getf (k := 2) (f := 0) eX2_run_26 tw_0_113 ⟨by decide, by decide⟩ (by decide) (v := aR 3 2) rfl (aw_getf (k := 3) (f := 1) eX2_run_29 tw_0_65 ⟨by decide, by decide⟩ (by decide) (v := aI (w.1 3 2 1)) rfl (aw_iconst eX2_run_32 k_iconst_0 (aw_iconst eX2_run_33 k_iconst_0 (aw_callSV (N := mX2_goOn) [aR 2 0, aR 1 0, aI 0, aI (w.1 3 2 2), aI (w.1 3 2 1), aI 0, aI 0] eX2_run_34 tw_1_136 msX2_goOn (by decide) rfl rfl (Nat.le_of_ble_eq_true rfl) (A_X2_goOn 8 hq3) (aw_vret eX2_run_37 rfl (pV_i h)))))))))))))
def D_X2_runFrom (w : Wd) (i2 : Nat) : Option (Wd) := if i2 < 19 then (D_X2_reset w i2 6).bind fun q1 => (D_X2_run q1).bind fun q2 => some q2 else none
set_option maxHeartbeats 4000000 in
set_option maxRecDepth 100000 in
theorem A_X2_runFrom {X : XS} {w : Wd} {i2 : Nat} {r : Wd} (h : D_X2_runFrom w i2 = some r) : AW 12 X mX2_runFrom 0 (entA 3 [aR 2 0, aR 1 0, aR 3 i2]) [] w (PV r) := by
  show AW _ _ _ _ [some (aR 2 0), some (aR 1 0), some (aR 3 i2)] _ _ _
  unfold D_X2_runFrom at h
  obtain ⟨hi2, h⟩ := ck h
  obtain ⟨q1, hq1, h⟩ := bd h
  obtain ⟨q2, hq2, h⟩ := bd h
  exact aw_aload_n eX2_runFrom_0 rfl (aw_aload_n eX2_runFrom_1 rfl (aw_bipush eX2_runFrom_2 k_bipush_6 (aw_callVV (N := mX2_reset) [aR 3 i2, aI 6] eX2_runFrom_4 tw_1_122 miX2_reset (by decide) (by decide) (by decide) rfl rfl (Nat.le_of_ble_eq_true rfl) (A_X2_reset hq1) (aw_aload_n eX2_runFrom_7 rfl (aw_aload_n eX2_runFrom_8 rfl (aw_callVV (N := mX2_run) [aR 1 0] eX2_runFrom_9 tw_1_127 miX2_run (by decide) (by decide) (by decide) rfl rfl (Nat.le_of_ble_eq_true rfl) (A_X2_run hq2) (aw_vret eX2_runFrom_12 rfl (pV_i h))))))))
def D_X2_allowOnly (w : Wd) (x1 : Int32) (x2 : Int32) : Option (Wd) := if x1 < 0 then (some w) else (if 7 ≤ x1 then (some w) else (if inB x1 7 then if inB x1 7 then lt (wS w 13 0 (Int32.toNatClampNeg x1) ((w.1 13 0 (Int32.toNatClampNeg x1)) &&& ((1 : Int32) <<< (x2 &&& 31)))) fun w5 => some w5 else none else none))
set_option maxHeartbeats 4000000 in
set_option maxRecDepth 100000 in
theorem A_X2_allowOnly {X : XS} {w : Wd} {x1 : Int32} {x2 : Int32} {r : Wd} (h : D_X2_allowOnly w x1 x2 = some r) : AW 0 X mX2_allowOnly 0 (entA 3 [aR 2 0, aI x1, aI x2]) [] w (PV r) := by
  show AW _ _ _ _ [some (aR 2 0), some (aI x1), some (aI x2)] _ _ _
  unfold D_X2_allowOnly at h
  refine aw_iload_n eX2_allowOnly_0 rfl (aw_if_lt eX2_allowOnly_1 (fun c1 => ?_) (fun c1 => ?_))
  · have h := ip c1 h
    exact aw_vret eX2_allowOnly_25 rfl (pV_i h)
  · have h := iq c1 h
    refine aw_iload_n eX2_allowOnly_4 rfl (aw_aload_n eX2_allowOnly_5 rfl (aw_getf (k := 2) (f := 1) eX2_allowOnly_6 tw_0_114 ⟨by decide, by decide⟩ (by decide) (v := aR 13 0) rfl (aw_alenK eX2_allowOnly_9 rfl (by decide) (v := 7) kl_7 (aw_icmp_ge eX2_allowOnly_10 (fun c2 => ?_) (fun c2 => ?_)))))
    · have h := ip c2 h
      exact aw_vret eX2_allowOnly_25 rfl (pV_i h)
    · have h := iq c2 h
      obtain ⟨hc3, h⟩ := ck h
      obtain ⟨hc4, h⟩ := ck h
      obtain ⟨w5, ew5, h⟩ := lt_e h
      exact aw_aload_n eX2_allowOnly_13 rfl (aw_getf (k := 2) (f := 1) eX2_allowOnly_14 tw_0_114 ⟨by decide, by decide⟩ (by decide) (v := aR 13 0) rfl (aw_iload_n eX2_allowOnly_17 rfl (aw_dup2 eX2_allowOnly_18 (aw_ialdK (n := 7) eX2_allowOnly_19 rfl (by decide) hc3 (j := (Int32.toNatClampNeg x1)) rfl (aw_iconst eX2_allowOnly_20 k_iconst_1 (aw_iload_n eX2_allowOnly_21 rfl (aw_ishl eX2_allowOnly_22 (aw_iand eX2_allowOnly_23 (aw_iastK (n := 7) eX2_allowOnly_24 rfl (by decide) hc4 (j := (Int32.toNatClampNeg x1)) rfl (aw_wn ew5 (aw_vret eX2_allowOnly_25 rfl (pV_i h))))))))))))
def D_X3_readFrom_21 (i0 : Nat) : Nat → Int32 → Wd → Option (Wd)
  | 0, _, _ => none
  | n + 1, x2, w => if 5 ≤ x2 then (some w) else ((D_X4_figure w ((3 : Int32) + x2)).bind fun q6 => if inB x2 5 then lt (wS w 15 i0 (Int32.toNatClampNeg x2) q6) fun w8 => lt (x2 + 1) fun x2_9 => D_X3_readFrom_21 i0 n x2_9 w8 else none)
set_option maxHeartbeats 4000000 in
set_option maxRecDepth 100000 in
theorem A_X3_readFrom_21 {X : XS} {i0 : Nat} (hi0 : i0 < 19) : ∀ (nn : Nat) {x2 : Int32} {w : Wd} {r : Wd}, D_X3_readFrom_21 i0 nn x2 w = some r → AW 2 X mX3_readFrom 21 [some (aR 3 i0), some (aR 4 0), some (aI x2)] [] w (PV r) := by
  intro nn
  induction nn with
  | zero => intros; rename_i h; cases h
  | succ n ih =>
    intro x2 w r h
    rw [D_X3_readFrom_21] at h
    refine aw_iload_n eX3_readFrom_21 rfl (aw_aload_n eX3_readFrom_22 rfl (aw_getf (k := 3) (f := 0) eX3_readFrom_23 tw_0_62 ⟨by decide, by decide⟩ hi0 (v := aR 15 i0) rfl (aw_alenK eX3_readFrom_26 rfl hi0 (v := 5) kl_5 (aw_icmp_ge eX3_readFrom_27 (fun c5 => ?_) (fun c5 => ?_)))))
    · have h := ip c5 h
      exact aw_vret eX3_readFrom_49 rfl (pV_i h)
    · have h := iq c5 h
      obtain ⟨q6, hq6, h⟩ := bd h
      obtain ⟨hc7, h⟩ := ck h
      obtain ⟨w8, ew8, h⟩ := lt_e h
      obtain ⟨x2_9, ex2_9, h⟩ := lt_e h
      refine aw_aload_n eX3_readFrom_30 rfl (aw_getf (k := 3) (f := 0) eX3_readFrom_31 tw_0_62 ⟨by decide, by decide⟩ hi0 (v := aR 15 i0) rfl (aw_iload_n eX3_readFrom_34 rfl (aw_aload_n eX3_readFrom_35 rfl (aw_iconst eX3_readFrom_36 k_iconst_3 (aw_iload_n eX3_readFrom_37 rfl (aw_iadd eX3_readFrom_38 (aw_callVI (N := mX4_figure) [aI ((3 : Int32) + x2)] eX3_readFrom_39 tw_1_11 miX4_figure (by decide) (by decide) (by decide) rfl rfl (Nat.le_of_ble_eq_true rfl) (A_X4_figure hq6) (aw_iastK (n := 5) eX3_readFrom_42 rfl hi0 hc7 (j := (Int32.toNatClampNeg x2)) rfl (aw_wn ew8 (aw_iincY (iinc_k k_iconst_1 ex2_9) eX3_readFrom_43 rfl (by decide) rfl (ls' := [some (aR 3 i0), some (aR 4 0), some (aI x2_9)]) rfl (aw_goto eX3_readFrom_46 ?_)))))))))))
      exact ih h
def D_X3_readFrom (w : Wd) (i0 : Nat) : Option (Wd) := if i0 < 19 then lt (wS w 3 i0 1 0) fun w1 => (D_X4_figure w1 2).bind fun q2 => lt (wS w1 3 i0 2 q2) fun w3 => lt (wS w3 3 i0 3 0) fun w4 => D_X3_readFrom_21 i0 fuelZ 0 w4 else none
set_option maxHeartbeats 4000000 in
set_option maxRecDepth 100000 in
theorem A_X3_readFrom {X : XS} {w : Wd} {i0 : Nat} {r : Wd} (h : D_X3_readFrom w i0 = some r) : AW 2 X mX3_readFrom 0 (entA 3 [aR 3 i0, aR 4 0]) [] w (PV r) := by
  show AW _ _ _ _ [some (aR 3 i0), some (aR 4 0), none] _ _ _
  unfold D_X3_readFrom at h
  obtain ⟨hi0, h⟩ := ck h
  obtain ⟨w1, ew1, h⟩ := lt_e h
  obtain ⟨q2, hq2, h⟩ := bd h
  obtain ⟨w3, ew3, h⟩ := lt_e h
  obtain ⟨w4, ew4, h⟩ := lt_e h
  refine aw_aload_n eX3_readFrom_0 rfl (aw_iconst eX3_readFrom_1 k_iconst_0 (aw_putI (k := 3) (f := 1) eX3_readFrom_2 tw_0_64 ⟨by decide, by decide⟩ hi0 ⟨rfl, rfl, rfl, rfl⟩ (aw_wn ew1 (aw_aload_n eX3_readFrom_5 rfl (aw_aload_n eX3_readFrom_6 rfl (aw_iconst eX3_readFrom_7 k_iconst_2 (aw_callVI (N := mX4_figure) [aI 2] eX3_readFrom_8 tw_1_11 miX4_figure (by decide) (by decide) (by decide) rfl rfl (Nat.le_of_ble_eq_true rfl) (A_X4_figure hq2) (aw_putI (k := 3) (f := 2) eX3_readFrom_11 tw_0_68 ⟨by decide, by decide⟩ hi0 ⟨rfl, rfl, rfl, rfl⟩ (aw_wn ew3 (aw_aload_n eX3_readFrom_14 rfl (aw_iconst eX3_readFrom_15 k_iconst_0 (aw_putI (k := 3) (f := 3) eX3_readFrom_16 tw_0_72 ⟨by decide, by decide⟩ hi0 ⟨rfl, rfl, rfl, rfl⟩ (aw_wn ew4 (aw_iconst eX3_readFrom_19 k_iconst_0 (aw_istore_nY rfl eX3_readFrom_20 (by decide) rfl (ls' := [some (aR 3 i0), some (aR 4 0), some (aI 0)]) rfl ?_)))))))))))))))
  exact A_X3_readFrom_21 hi0 fuelZ h
def D_X3_shorten (w : Wd) (i0 : Nat) (x1 : Int32) : Option (Wd) := if i0 < 19 then if x1 < 0 then (some w) else (if 5 ≤ x1 then (some w) else (if inB x1 5 then if inB x1 5 then lt (wS w 15 i0 (Int32.toNatClampNeg x1) ((w.1 15 i0 (Int32.toNatClampNeg x1)) - (1 : Int32))) fun w5 => some w5 else none else none)) else none
set_option maxHeartbeats 4000000 in
set_option maxRecDepth 100000 in
theorem A_X3_shorten {X : XS} {w : Wd} {i0 : Nat} {x1 : Int32} {r : Wd} (h : D_X3_shorten w i0 x1 = some r) : AW 0 X mX3_shorten 0 (entA 2 [aR 3 i0, aI x1]) [] w (PV r) := by
  show AW _ _ _ _ [some (aR 3 i0), some (aI x1)] _ _ _
  unfold D_X3_shorten at h
  obtain ⟨hi0, h⟩ := ck h
  refine aw_iload_n eX3_shorten_0 rfl (aw_if_lt eX3_shorten_1 (fun c1 => ?_) (fun c1 => ?_))
  · have h := ip c1 h
    exact aw_vret eX3_shorten_23 rfl (pV_i h)
  · have h := iq c1 h
    refine aw_iload_n eX3_shorten_4 rfl (aw_aload_n eX3_shorten_5 rfl (aw_getf (k := 3) (f := 0) eX3_shorten_6 tw_0_62 ⟨by decide, by decide⟩ hi0 (v := aR 15 i0) rfl (aw_alenK eX3_shorten_9 rfl hi0 (v := 5) kl_5 (aw_icmp_ge eX3_shorten_10 (fun c2 => ?_) (fun c2 => ?_)))))
    · have h := ip c2 h
      exact aw_vret eX3_shorten_23 rfl (pV_i h)
    · have h := iq c2 h
      obtain ⟨hc3, h⟩ := ck h
      obtain ⟨hc4, h⟩ := ck h
      obtain ⟨w5, ew5, h⟩ := lt_e h
      exact aw_aload_n eX3_shorten_13 rfl (aw_getf (k := 3) (f := 0) eX3_shorten_14 tw_0_62 ⟨by decide, by decide⟩ hi0 (v := aR 15 i0) rfl (aw_iload_n eX3_shorten_17 rfl (aw_dup2 eX3_shorten_18 (aw_ialdK (n := 5) eX3_shorten_19 rfl hi0 hc3 (j := (Int32.toNatClampNeg x1)) rfl (aw_iconst eX3_shorten_20 k_iconst_1 (aw_isub eX3_shorten_21 (aw_iastK (n := 5) eX3_shorten_22 rfl hi0 hc4 (j := (Int32.toNatClampNeg x1)) rfl (aw_wn ew5 (aw_vret eX3_shorten_23 rfl (pV_i h))))))))))
def D_X4_add (w : Wd) (x1 : Int32) : Option (Int32 × Wd) := if (w.1 4 0 1) < 0 then (some (0, w)) else (if (w.1 4 0 1) < 48 then (if inB (w.1 4 0 1) 48 then lt (wS w 10 0 (Int32.toNatClampNeg (w.1 4 0 1)) x1) fun w4 => lt (wS w4 4 0 1 ((w4.1 4 0 1) + (1 : Int32))) fun w5 => some (1, w5) else none) else (some (0, w)))
set_option maxHeartbeats 4000000 in
set_option maxRecDepth 100000 in
theorem A_X4_add {X : XS} {w : Wd} {x1 : Int32} {r : Int32 × Wd} (h : D_X4_add w x1 = some r) : AW 0 X mX4_add 0 (entA 2 [aR 4 0, aI x1]) [] w (PI r.1 r.2) := by
  show AW _ _ _ _ [some (aR 4 0), some (aI x1)] _ _ _
  unfold D_X4_add at h
  refine aw_aload_n eX4_add_0 rfl (aw_getf (k := 4) (f := 1) eX4_add_1 tw_0_25 ⟨by decide, by decide⟩ (by decide) (v := aI (w.1 4 0 1)) rfl (aw_if_lt eX4_add_4 (fun c1 => ?_) (fun c1 => ?_)))
  · have h := ip c1 h
    exact aw_iconst eX4_add_19 k_iconst_0 (aw_zret eX4_add_20 rfl (by decide +kernel) (pI_i h))
  · have h := iq c1 h
    refine aw_aload_n eX4_add_7 rfl (aw_getf (k := 4) (f := 1) eX4_add_8 tw_0_25 ⟨by decide, by decide⟩ (by decide) (v := aI (w.1 4 0 1)) rfl (aw_aload_n eX4_add_11 rfl (aw_getf (k := 4) (f := 0) eX4_add_12 tw_0_24 ⟨by decide, by decide⟩ (by decide) (v := aR 10 0) rfl (aw_alenK eX4_add_15 rfl (by decide) (v := 48) kl_48 (aw_icmp_lt eX4_add_16 (fun c2 => ?_) (fun c2 => ?_))))))
    · have h := ip c2 h
      obtain ⟨hc3, h⟩ := ck h
      obtain ⟨w4, ew4, h⟩ := lt_e h
      obtain ⟨w5, ew5, h⟩ := lt_e h
      exact aw_aload_n eX4_add_21 rfl (aw_getf (k := 4) (f := 0) eX4_add_22 tw_0_24 ⟨by decide, by decide⟩ (by decide) (v := aR 10 0) rfl (aw_aload_n eX4_add_25 rfl (aw_getf (k := 4) (f := 1) eX4_add_26 tw_0_25 ⟨by decide, by decide⟩ (by decide) (v := aI (w.1 4 0 1)) rfl (aw_iload_n eX4_add_29 rfl (aw_iastK (n := 48) eX4_add_30 rfl (by decide) hc3 (j := (Int32.toNatClampNeg (w.1 4 0 1))) rfl (aw_wn ew4 (aw_aload_n eX4_add_31 rfl (aw_dupR eX4_add_32 (aw_getf (k := 4) (f := 1) eX4_add_33 tw_0_25 ⟨by decide, by decide⟩ (by decide) (v := aI (w4.1 4 0 1)) rfl (aw_iconst eX4_add_36 k_iconst_1 (aw_iadd eX4_add_37 (aw_putI (k := 4) (f := 1) eX4_add_38 tw_0_25 ⟨by decide, by decide⟩ (by decide) ⟨rfl, rfl, rfl, rfl⟩ (aw_wn ew5 (aw_iconst eX4_add_41 k_iconst_1 (aw_zret eX4_add_42 rfl (by decide +kernel) (pI_i h))))))))))))))))
    · have h := iq c2 h
      exact aw_iconst eX4_add_19 k_iconst_0 (aw_zret eX4_add_20 rfl (by decide +kernel) (pI_i h))
def D_X4_isFigure (w : Wd) (x1 : Int32) (x2 : Int32) (x3 : Int32) : Option (Int32) := (D_X4_figure w x1).bind fun q1 => if q1 < x2 then (some (0)) else ((D_X4_figure w x1).bind fun q3 => if x3 < q3 then (some (0)) else (some (1)))
set_option maxHeartbeats 4000000 in
set_option maxRecDepth 100000 in
theorem A_X4_isFigure {X : XS} {w : Wd} {x1 : Int32} {x2 : Int32} {x3 : Int32} {r : Int32} (h : D_X4_isFigure w x1 x2 x3 = some r) : AW 2 X mX4_isFigure 0 (entA 4 [aR 4 0, aI x1, aI x2, aI x3]) [] w (PI r w) := by
  show AW _ _ _ _ [some (aR 4 0), some (aI x1), some (aI x2), some (aI x3)] _ _ _
  unfold D_X4_isFigure at h
  obtain ⟨q1, hq1, h⟩ := bd h
  refine aw_aload_n eX4_isFigure_0 rfl (aw_iload_n eX4_isFigure_1 rfl (aw_callVI (N := mX4_figure) [aI x1] eX4_isFigure_2 tw_0_224 miX4_figure (by decide) (by decide) (by decide) rfl rfl (Nat.le_of_ble_eq_true rfl) (A_X4_figure hq1) (aw_iload_n eX4_isFigure_5 rfl (aw_icmp_lt eX4_isFigure_6 (fun c2 => ?_) (fun c2 => ?_)))))
  · have h := ip c2 h
    exact aw_iconst eX4_isFigure_22 k_iconst_0 (aw_zret eX4_isFigure_23 rfl (by decide +kernel) (pI_p h))
  · have h := iq c2 h
    obtain ⟨q3, hq3, h⟩ := bd h
    refine aw_aload_n eX4_isFigure_9 rfl (aw_iload_n eX4_isFigure_10 rfl (aw_callVI (N := mX4_figure) [aI x1] eX4_isFigure_11 tw_0_224 miX4_figure (by decide) (by decide) (by decide) rfl rfl (Nat.le_of_ble_eq_true rfl) (A_X4_figure hq3) (aw_iload_n eX4_isFigure_14 rfl (aw_icmp_gt eX4_isFigure_15 (fun c4 => ?_) (fun c4 => ?_)))))
    · have h := ip c4 h
      exact aw_iconst eX4_isFigure_22 k_iconst_0 (aw_zret eX4_isFigure_23 rfl (by decide +kernel) (pI_p h))
    · have h := iq c4 h
      exact aw_iconst eX4_isFigure_18 k_iconst_1 (aw_goto eX4_isFigure_19 (aw_zret eX4_isFigure_23 rfl (by decide +kernel) (pI_p h)))
def D_X4_fitsWedding (w : Wd) (x1 : Int32) : Option (Int32) := if x1 < 44 then (lt (((x1 - (8 : Int32)) - (x1 - (8 : Int32)) / (6 : Int32) * (6 : Int32)) - (1 : Int32)) fun t2 => if t2 = 0 then ((D_X4_isFigure w x1 0 5).bind fun q5 => if q5 = 0 ∨ q5 = 1 then some (q5) else none) else (if t2 = 1 then ((D_X4_isFigure w x1 0 9).bind fun q8 => if q8 = 0 ∨ q8 = 1 then some (q8) else none) else (if t2 = 2 then ((D_X4_figure w (x1 - (1 : Int32))).bind fun q11 => (D_X4_isFigure w x1 q11 9).bind fun q12 => if q12 = 0 ∨ q12 = 1 then some (q12) else none) else (if t2 = 3 then ((D_X4_isFigure w x1 1 3).bind fun q15 => if q15 = 0 ∨ q15 = 1 then some (q15) else none) else (if t2 = 4 then ((D_X4_isFigure w x1 0 3).bind fun q18 => if q18 = 0 ∨ q18 = 1 then some (q18) else none) else ((D_X5_at w 10 0 x1).bind fun q3 => if q3 = 87 then (some (1)) else (some (0)))))))) else (some (0))
set_option maxHeartbeats 4000000 in
set_option maxRecDepth 100000 in
theorem A_X4_fitsWedding {X : XS} {w : Wd} {x1 : Int32} {r : Int32} (h : D_X4_fitsWedding w x1 = some r) : AW 3 X mX4_fitsWedding 0 (entA 2 [aR 4 0, aI x1]) [] w (PI r w) := by
  show AW _ _ _ _ [some (aR 4 0), some (aI x1)] _ _ _
  unfold D_X4_fitsWedding at h
  refine aw_iload_n eX4_fitsWedding_0 rfl (aw_bipush eX4_fitsWedding_1 k_bipush_44 (aw_icmp_lt eX4_fitsWedding_3 (fun c1 => ?_) (fun c1 => ?_)))
  · have h := ip c1 h
    obtain ⟨t2, et2, h⟩ := lt_e h
    refine aw_iload_n eX4_fitsWedding_8 rfl (aw_bipush eX4_fitsWedding_9 k_bipush_8 (aw_isub eX4_fitsWedding_11 (aw_bipush eX4_fitsWedding_12 k_bipush_6 (aw_irem eX4_fitsWedding_14 (by decide) (aw_iconst eX4_fitsWedding_15 k_iconst_1 (aw_isub eX4_fitsWedding_16 ?_))))))
    by_cases c7 : t2 = 0
    · have h := ip c7 h
      refine aw_tabIn eX4_fitsWedding_17 (by rw [← et2, c7]; decide) (by rw [← et2, c7]; decide) (off := 35) (tgt := 52) (by rw [← et2, c7]; decide) (by decide) ?_
      obtain ⟨q5, hq5, h⟩ := bd h
      obtain ⟨hc6, h⟩ := ck h
      exact aw_aload_n eX4_fitsWedding_52 rfl (aw_iload_n eX4_fitsWedding_53 rfl (aw_iconst eX4_fitsWedding_54 k_iconst_0 (aw_iconst eX4_fitsWedding_55 k_iconst_5 (aw_callVI (N := mX4_isFigure) [aI x1, aI 0, aI 5] eX4_fitsWedding_56 tw_0_220 miX4_isFigure (by decide) (by decide) (by decide) rfl rfl (Nat.le_of_ble_eq_true rfl) (A_X4_isFigure hq5) (aw_zret eX4_fitsWedding_59 rfl (nar01 hc6) (pI_p h))))))
    · have h := iq c7 h
      by_cases c10 : t2 = 1
      · have h := ip c10 h
        refine aw_tabIn eX4_fitsWedding_17 (by rw [← et2, c10]; decide) (by rw [← et2, c10]; decide) (off := 43) (tgt := 60) (by rw [← et2, c10]; decide) (by decide) ?_
        obtain ⟨q8, hq8, h⟩ := bd h
        obtain ⟨hc9, h⟩ := ck h
        exact aw_aload_n eX4_fitsWedding_60 rfl (aw_iload_n eX4_fitsWedding_61 rfl (aw_iconst eX4_fitsWedding_62 k_iconst_0 (aw_bipush eX4_fitsWedding_63 k_bipush_9 (aw_callVI (N := mX4_isFigure) [aI x1, aI 0, aI 9] eX4_fitsWedding_65 tw_0_220 miX4_isFigure (by decide) (by decide) (by decide) rfl rfl (Nat.le_of_ble_eq_true rfl) (A_X4_isFigure hq8) (aw_zret eX4_fitsWedding_68 rfl (nar01 hc9) (pI_p h))))))
      · have h := iq c10 h
        by_cases c14 : t2 = 2
        · have h := ip c14 h
          refine aw_tabIn eX4_fitsWedding_17 (by rw [← et2, c14]; decide) (by rw [← et2, c14]; decide) (off := 52) (tgt := 69) (by rw [← et2, c14]; decide) (by decide) ?_
          obtain ⟨q11, hq11, h⟩ := bd h
          obtain ⟨q12, hq12, h⟩ := bd h
          obtain ⟨hc13, h⟩ := ck h
          exact aw_aload_n eX4_fitsWedding_69 rfl (aw_iload_n eX4_fitsWedding_70 rfl (aw_aload_n eX4_fitsWedding_71 rfl (aw_iload_n eX4_fitsWedding_72 rfl (aw_iconst eX4_fitsWedding_73 k_iconst_1 (aw_isub eX4_fitsWedding_74 (aw_callVI (N := mX4_figure) [aI (x1 - (1 : Int32))] eX4_fitsWedding_75 tw_0_224 miX4_figure (by decide) (by decide) (by decide) rfl rfl (Nat.le_of_ble_eq_true rfl) (A_X4_figure hq11) (aw_bipush eX4_fitsWedding_78 k_bipush_9 (aw_callVI (N := mX4_isFigure) [aI x1, aI q11, aI 9] eX4_fitsWedding_80 tw_0_220 miX4_isFigure (by decide) (by decide) (by decide) rfl rfl (Nat.le_of_ble_eq_true rfl) (A_X4_isFigure hq12) (aw_zret eX4_fitsWedding_83 rfl (nar01 hc13) (pI_p h))))))))))
        · have h := iq c14 h
          by_cases c17 : t2 = 3
          · have h := ip c17 h
            refine aw_tabIn eX4_fitsWedding_17 (by rw [← et2, c17]; decide) (by rw [← et2, c17]; decide) (off := 67) (tgt := 84) (by rw [← et2, c17]; decide) (by decide) ?_
            obtain ⟨q15, hq15, h⟩ := bd h
            obtain ⟨hc16, h⟩ := ck h
            exact aw_aload_n eX4_fitsWedding_84 rfl (aw_iload_n eX4_fitsWedding_85 rfl (aw_iconst eX4_fitsWedding_86 k_iconst_1 (aw_iconst eX4_fitsWedding_87 k_iconst_3 (aw_callVI (N := mX4_isFigure) [aI x1, aI 1, aI 3] eX4_fitsWedding_88 tw_0_220 miX4_isFigure (by decide) (by decide) (by decide) rfl rfl (Nat.le_of_ble_eq_true rfl) (A_X4_isFigure hq15) (aw_zret eX4_fitsWedding_91 rfl (nar01 hc16) (pI_p h))))))
          · have h := iq c17 h
            by_cases c20 : t2 = 4
            · have h := ip c20 h
              refine aw_tabIn eX4_fitsWedding_17 (by rw [← et2, c20]; decide) (by rw [← et2, c20]; decide) (off := 75) (tgt := 92) (by rw [← et2, c20]; decide) (by decide) ?_
              obtain ⟨q18, hq18, h⟩ := bd h
              obtain ⟨hc19, h⟩ := ck h
              exact aw_aload_n eX4_fitsWedding_92 rfl (aw_iload_n eX4_fitsWedding_93 rfl (aw_iconst eX4_fitsWedding_94 k_iconst_0 (aw_iconst eX4_fitsWedding_95 k_iconst_3 (aw_callVI (N := mX4_isFigure) [aI x1, aI 0, aI 3] eX4_fitsWedding_96 tw_0_220 miX4_isFigure (by decide) (by decide) (by decide) rfl rfl (Nat.le_of_ble_eq_true rfl) (A_X4_isFigure hq18) (aw_zret eX4_fitsWedding_99 rfl (nar01 hc19) (pI_p h))))))
            · have h := iq c20 h
              have hto : t2.toInt < 0 ∨ 4 < t2.toInt := tab_out (fun c h1 h2 => by
                have hcc : c = 0 ∨ c = 1 ∨ c = 2 ∨ c = 3 ∨ c = 4 := by omega
                rcases hcc with rfl | rfl | rfl | rfl | rfl
                · exact fun z => c7 (z.trans (by decide))
                · exact fun z => c10 (z.trans (by decide))
                · exact fun z => c14 (z.trans (by decide))
                · exact fun z => c17 (z.trans (by decide))
                · exact fun z => c20 (z.trans (by decide)))
              refine aw_tabOut eX4_fitsWedding_17 (by rw [← et2]; exact hto) (tgt := 100) (by decide) ?_
              obtain ⟨q3, hq3, h⟩ := bd h
              refine aw_aload_n eX4_fitsWedding_100 rfl (aw_getf (k := 4) (f := 0) eX4_fitsWedding_101 tw_0_24 ⟨by decide, by decide⟩ (by decide) (v := aR 10 0) rfl (aw_iload_n eX4_fitsWedding_104 rfl (aw_callNI (N := mX5_at) [aR 10 0, aI x1] eX4_fitsWedding_105 (by simp only [nestsA]; decide +kernel) msX5_at (by decide) rfl rfl (Nat.le_of_ble_eq_true rfl) (A_X5_at hq3) (aw_bipush eX4_fitsWedding_108 k_bipush_87 (aw_icmp_ne eX4_fitsWedding_110 (fun c4 => ?_) (fun c4 => ?_))))))
              · have h := iq c4 h
                exact aw_iconst eX4_fitsWedding_117 k_iconst_0 (aw_zret eX4_fitsWedding_118 rfl (by decide +kernel) (pI_p h))
              · have h := ip c4 h
                exact aw_iconst eX4_fitsWedding_113 k_iconst_1 (aw_goto eX4_fitsWedding_114 (aw_zret eX4_fitsWedding_118 rfl (by decide +kernel) (pI_p h)))
  · have h := iq c1 h
    exact aw_iconst eX4_fitsWedding_6 k_iconst_0 (aw_zret eX4_fitsWedding_7 rfl (by decide +kernel) (pI_p h))
def D_X4_fits (w : Wd) (x1 : Int32) : Option (Int32) := if x1 < 8 then (if x1 = 0 then ((D_X5_at w 10 0 x1).bind fun q4 => if q4 = 78 then (some (1)) else (some (0))) else (if x1 = 1 then ((D_X4_isFigure w x1 1 9).bind fun q7 => if q7 = 0 ∨ q7 = 1 then some (q7) else none) else (if x1 = 2 then ((D_X4_isFigure w x1 0 5).bind fun q10 => if q10 = 0 ∨ q10 = 1 then some (q10) else none) else ((D_X4_isFigure w x1 0 3).bind fun q2 => if q2 = 0 ∨ q2 = 1 then some (q2) else none)))) else ((D_X4_fitsWedding w x1).bind fun q13 => if q13 = 0 ∨ q13 = 1 then some (q13) else none)
set_option maxHeartbeats 4000000 in
set_option maxRecDepth 100000 in
theorem A_X4_fits {X : XS} {w : Wd} {x1 : Int32} {r : Int32} (h : D_X4_fits w x1 = some r) : AW 4 X mX4_fits 0 (entA 2 [aR 4 0, aI x1]) [] w (PI r w) := by
  show AW _ _ _ _ [some (aR 4 0), some (aI x1)] _ _ _
  unfold D_X4_fits at h
  refine aw_iload_n eX4_fits_0 rfl (aw_bipush eX4_fits_1 k_bipush_8 (aw_icmp_lt eX4_fits_3 (fun c1 => ?_) (fun c1 => ?_)))
  · have h := ip c1 h
    refine aw_iload_n eX4_fits_12 rfl ?_
    by_cases c6 : x1 = 0
    · have h := ip c6 h
      refine aw_tabIn eX4_fits_13 (by rw [c6]; decide) (by rw [c6]; decide) (off := 27) (tgt := 40) (by rw [c6]; decide) (by decide) ?_
      obtain ⟨q4, hq4, h⟩ := bd h
      refine aw_aload_n eX4_fits_40 rfl (aw_getf (k := 4) (f := 0) eX4_fits_41 tw_0_24 ⟨by decide, by decide⟩ (by decide) (v := aR 10 0) rfl (aw_iload_n eX4_fits_44 rfl (aw_callNI (N := mX5_at) [aR 10 0, aI x1] eX4_fits_45 (by simp only [nestsA]; decide +kernel) msX5_at (by decide) rfl rfl (Nat.le_of_ble_eq_true rfl) (A_X5_at hq4) (aw_bipush eX4_fits_48 k_bipush_78 (aw_icmp_ne eX4_fits_50 (fun c5 => ?_) (fun c5 => ?_))))))
      · have h := iq c5 h
        exact aw_iconst eX4_fits_57 k_iconst_0 (aw_zret eX4_fits_58 rfl (by decide +kernel) (pI_p h))
      · have h := ip c5 h
        exact aw_iconst eX4_fits_53 k_iconst_1 (aw_goto eX4_fits_54 (aw_zret eX4_fits_58 rfl (by decide +kernel) (pI_p h)))
    · have h := iq c6 h
      by_cases c9 : x1 = 1
      · have h := ip c9 h
        refine aw_tabIn eX4_fits_13 (by rw [c9]; decide) (by rw [c9]; decide) (off := 46) (tgt := 59) (by rw [c9]; decide) (by decide) ?_
        obtain ⟨q7, hq7, h⟩ := bd h
        obtain ⟨hc8, h⟩ := ck h
        exact aw_aload_n eX4_fits_59 rfl (aw_iload_n eX4_fits_60 rfl (aw_iconst eX4_fits_61 k_iconst_1 (aw_bipush eX4_fits_62 k_bipush_9 (aw_callVI (N := mX4_isFigure) [aI x1, aI 1, aI 9] eX4_fits_64 tw_0_220 miX4_isFigure (by decide) (by decide) (by decide) rfl rfl (Nat.le_of_ble_eq_true rfl) (A_X4_isFigure hq7) (aw_zret eX4_fits_67 rfl (nar01 hc8) (pI_p h))))))
      · have h := iq c9 h
        by_cases c12 : x1 = 2
        · have h := ip c12 h
          refine aw_tabIn eX4_fits_13 (by rw [c12]; decide) (by rw [c12]; decide) (off := 55) (tgt := 68) (by rw [c12]; decide) (by decide) ?_
          obtain ⟨q10, hq10, h⟩ := bd h
          obtain ⟨hc11, h⟩ := ck h
          exact aw_aload_n eX4_fits_68 rfl (aw_iload_n eX4_fits_69 rfl (aw_iconst eX4_fits_70 k_iconst_0 (aw_iconst eX4_fits_71 k_iconst_5 (aw_callVI (N := mX4_isFigure) [aI x1, aI 0, aI 5] eX4_fits_72 tw_0_220 miX4_isFigure (by decide) (by decide) (by decide) rfl rfl (Nat.le_of_ble_eq_true rfl) (A_X4_isFigure hq10) (aw_zret eX4_fits_75 rfl (nar01 hc11) (pI_p h))))))
        · have h := iq c12 h
          have hto : x1.toInt < 0 ∨ 2 < x1.toInt := tab_out (fun c h1 h2 => by
            have hcc : c = 0 ∨ c = 1 ∨ c = 2 := by omega
            rcases hcc with rfl | rfl | rfl
            · exact fun z => c6 (z.trans (by decide))
            · exact fun z => c9 (z.trans (by decide))
            · exact fun z => c12 (z.trans (by decide)))
          refine aw_tabOut eX4_fits_13 (by exact hto) (tgt := 76) (by decide) ?_
          obtain ⟨q2, hq2, h⟩ := bd h
          obtain ⟨hc3, h⟩ := ck h
          exact aw_aload_n eX4_fits_76 rfl (aw_iload_n eX4_fits_77 rfl (aw_iconst eX4_fits_78 k_iconst_0 (aw_iconst eX4_fits_79 k_iconst_3 (aw_callVI (N := mX4_isFigure) [aI x1, aI 0, aI 3] eX4_fits_80 tw_0_220 miX4_isFigure (by decide) (by decide) (by decide) rfl rfl (Nat.le_of_ble_eq_true rfl) (A_X4_isFigure hq2) (aw_zret eX4_fits_83 rfl (nar01 hc3) (pI_p h))))))
  · have h := iq c1 h
    obtain ⟨q13, hq13, h⟩ := bd h
    obtain ⟨hc14, h⟩ := ck h
    exact aw_aload_n eX4_fits_6 rfl (aw_iload_n eX4_fits_7 rfl (aw_callVI (N := mX4_fitsWedding) [aI x1] eX4_fits_8 tw_0_216 miX4_fitsWedding (by decide) (by decide) (by decide) rfl rfl (Nat.le_of_ble_eq_true rfl) (A_X4_fitsWedding hq13) (aw_zret eX4_fits_11 rfl (nar01 hc14) (pI_p h))))
def D_X4_firstFault_2 (w : Wd) : Nat → Int32 → Option (Int32)
  | 0, _ => none
  | n + 1, x1 => if (w.1 4 0 1) ≤ x1 then (if (w.1 4 0 1) < 8 then (some (w.1 4 0 1)) else (if (((w.1 4 0 1) - (8 : Int32)) - ((w.1 4 0 1) - (8 : Int32)) / (6 : Int32) * (6 : Int32)) = 0 then (some ((-9))) else (some (w.1 4 0 1)))) else ((D_X4_fits w x1).bind fun q4 => if q4 = 0 then (some (x1)) else (lt (x1 + 1) fun x1_6 => D_X4_firstFault_2 w n x1_6))
set_option maxHeartbeats 4000000 in
set_option maxRecDepth 100000 in
theorem A_X4_firstFault_2 {X : XS} {w : Wd} : ∀ (nn : Nat) {x1 : Int32} {r : Int32}, D_X4_firstFault_2 w nn x1 = some r → AW 5 X mX4_firstFault 2 [some (aR 4 0), some (aI x1)] [] w (PI r w) := by
  intro nn
  induction nn with
  | zero => intros; rename_i h; cases h
  | succ n ih =>
    intro x1 r h
    rw [D_X4_firstFault_2] at h
    refine aw_iload_n eX4_firstFault_2 rfl (aw_aload_n eX4_firstFault_3 rfl (aw_getf (k := 4) (f := 1) eX4_firstFault_4 tw_0_25 ⟨by decide, by decide⟩ (by decide) (v := aI (w.1 4 0 1)) rfl (aw_icmp_ge eX4_firstFault_7 (fun c1 => ?_) (fun c1 => ?_))))
    · have h := ip c1 h
      refine aw_aload_n eX4_firstFault_26 rfl (aw_getf (k := 4) (f := 1) eX4_firstFault_27 tw_0_25 ⟨by decide, by decide⟩ (by decide) (v := aI (w.1 4 0 1)) rfl (aw_bipush eX4_firstFault_30 k_bipush_8 (aw_icmp_lt eX4_firstFault_32 (fun c2 => ?_) (fun c2 => ?_))))
      · have h := ip c2 h
        exact aw_aload_n eX4_firstFault_53 rfl (aw_getf (k := 4) (f := 1) eX4_firstFault_54 tw_0_25 ⟨by decide, by decide⟩ (by decide) (v := aI (w.1 4 0 1)) rfl (aw_iret eX4_firstFault_57 rfl (pI_p h)))
      · have h := iq c2 h
        refine aw_aload_n eX4_firstFault_35 rfl (aw_getf (k := 4) (f := 1) eX4_firstFault_36 tw_0_25 ⟨by decide, by decide⟩ (by decide) (v := aI (w.1 4 0 1)) rfl (aw_bipush eX4_firstFault_39 k_bipush_8 (aw_isub eX4_firstFault_41 (aw_bipush eX4_firstFault_42 k_bipush_6 (aw_irem eX4_firstFault_44 (by decide) (aw_if_ne eX4_firstFault_45 (fun c3 => ?_) (fun c3 => ?_)))))))
        · have h := iq c3 h
          exact aw_aload_n eX4_firstFault_53 rfl (aw_getf (k := 4) (f := 1) eX4_firstFault_54 tw_0_25 ⟨by decide, by decide⟩ (by decide) (v := aI (w.1 4 0 1)) rfl (aw_iret eX4_firstFault_57 rfl (pI_p h)))
        · have h := ip c3 h
          exact aw_bipush eX4_firstFault_48 k_bipush_m9 (aw_goto eX4_firstFault_50 (aw_iret eX4_firstFault_57 rfl (pI_p h)))
    · have h := iq c1 h
      obtain ⟨q4, hq4, h⟩ := bd h
      refine aw_aload_n eX4_firstFault_10 rfl (aw_iload_n eX4_firstFault_11 rfl (aw_callVI (N := mX4_fits) [aI x1] eX4_firstFault_12 tw_0_212 miX4_fits (by decide) (by decide) (by decide) rfl rfl (Nat.le_of_ble_eq_true rfl) (A_X4_fits hq4) (aw_if_ne eX4_firstFault_15 (fun c5 => ?_) (fun c5 => ?_))))
      · have h := iq c5 h
        obtain ⟨x1_6, ex1_6, h⟩ := lt_e h
        refine aw_iincY (iinc_k k_iconst_1 ex1_6) eX4_firstFault_20 rfl (by decide) rfl (ls' := [some (aR 4 0), some (aI x1_6)]) rfl (aw_goto eX4_firstFault_23 ?_)
        exact ih h
      · have h := ip c5 h
        exact aw_iload_n eX4_firstFault_18 rfl (aw_iret eX4_firstFault_19 rfl (pI_p h))
def D_X4_firstFault (w : Wd) : Option (Int32) := D_X4_firstFault_2 w fuelZ 0
set_option maxHeartbeats 4000000 in
set_option maxRecDepth 100000 in
theorem A_X4_firstFault {X : XS} {w : Wd} {r : Int32} (h : D_X4_firstFault w = some r) : AW 5 X mX4_firstFault 0 (entA 2 [aR 4 0]) [] w (PI r w) := by
  show AW _ _ _ _ [some (aR 4 0), none] _ _ _
  unfold D_X4_firstFault at h
  refine aw_iconst eX4_firstFault_0 k_iconst_0 (aw_istore_nY rfl eX4_firstFault_1 (by decide) rfl (ls' := [some (aR 4 0), some (aI 0)]) rfl ?_)
  exact A_X4_firstFault_2 fuelZ h
def D_X5_write (w : Wd) (x1 : Int32) : Option (Int32 × Wd) := if x1 < 0 then (some ((-2), w)) else (if x1 ≤ 255 then ((D_X4_add w x1).bind fun q3 => if q3.1 = 0 then (some ((-4), q3.2)) else (some (q3.2.1 4 0 1, q3.2))) else (some ((-2), w)))
set_option maxHeartbeats 4000000 in
set_option maxRecDepth 100000 in
theorem A_X5_write {X : XS} {w : Wd} {x1 : Int32} {r : Int32 × Wd} (h : D_X5_write w x1 = some r) : AW 1 X mX5_write 0 (entA 2 [aR 5 0, aI x1]) [] w (PI r.1 r.2) := by
  show AW _ _ _ _ [some (aR 5 0), some (aI x1)] _ _ _
  unfold D_X5_write at h
  refine aw_iload_n eX5_write_0 rfl (aw_if_lt eX5_write_1 (fun c1 => ?_) (fun c1 => ?_))
  · have h := ip c1 h
    exact aw_bipush eX5_write_11 k_bipush_m2 (aw_iret eX5_write_13 rfl (pI_i h))
  · have h := iq c1 h
    refine aw_iload_n eX5_write_4 rfl (aw_sipush eX5_write_5 k_sipush_255 (aw_icmp_le eX5_write_8 (fun c2 => ?_) (fun c2 => ?_)))
    · have h := ip c2 h
      obtain ⟨q3, hq3, h⟩ := bd h
      refine aw_aload_n eX5_write_14 rfl (aw_getf (k := 5) (f := 0) eX5_write_15 tw_0_151 ⟨by decide, by decide⟩ (by decide) (v := aR 4 0) rfl (aw_iload_n eX5_write_18 rfl (aw_callVI (N := mX4_add) [aI x1] eX5_write_19 tw_0_196 miX4_add (by decide) (by decide) (by decide) rfl rfl (Nat.le_of_ble_eq_true rfl) (A_X4_add hq3) (aw_if_eq eX5_write_22 (fun c4 => ?_) (fun c4 => ?_)))))
      · have h := ip c4 h
        exact aw_bipush eX5_write_35 k_bipush_m4 (aw_iret eX5_write_37 rfl (pI_i h))
      · have h := iq c4 h
        exact aw_aload_n eX5_write_25 rfl (aw_getf (k := 5) (f := 0) eX5_write_26 tw_0_151 ⟨by decide, by decide⟩ (by decide) (v := aR 4 0) rfl (aw_getf (k := 4) (f := 1) eX5_write_29 tw_0_27 ⟨by decide, by decide⟩ (by decide) (v := aI (q3.2.1 4 0 1)) rfl (aw_goto eX5_write_32 (aw_iret eX5_write_37 rfl (pI_i h)))))
    · have h := iq c2 h
      exact aw_bipush eX5_write_11 k_bipush_m2 (aw_iret eX5_write_13 rfl (pI_i h))
def D_X5_wipe (w : Wd) : Option (Int32 × Wd) := lt (w.1 4 0 1) fun x1_1 => lt (wS w 4 0 1 0) fun w2 => some (x1_1, w2)
set_option maxHeartbeats 4000000 in
set_option maxRecDepth 100000 in
theorem A_X5_wipe {X : XS} {w : Wd} {r : Int32 × Wd} (h : D_X5_wipe w = some r) : AW 0 X mX5_wipe 0 (entA 2 [aR 5 0]) [] w (PI r.1 r.2) := by
  show AW _ _ _ _ [some (aR 5 0), none] _ _ _
  unfold D_X5_wipe at h
  obtain ⟨x1_1, ex1_1, h⟩ := lt_e h
  obtain ⟨w2, ew2, h⟩ := lt_e h
  exact aw_aload_n eX5_wipe_0 rfl (aw_getf (k := 5) (f := 0) eX5_wipe_1 tw_0_151 ⟨by decide, by decide⟩ (by decide) (v := aR 4 0) rfl (aw_getf (k := 4) (f := 1) eX5_wipe_4 tw_0_27 ⟨by decide, by decide⟩ (by decide) (v := aI (w.1 4 0 1)) rfl (aw_istore_nY ex1_1 eX5_wipe_7 (by decide) rfl (ls' := [some (aR 5 0), some (aI x1_1)]) rfl (aw_aload_n eX5_wipe_8 rfl (aw_getf (k := 5) (f := 0) eX5_wipe_9 tw_0_151 ⟨by decide, by decide⟩ (by decide) (v := aR 4 0) rfl (aw_iconst eX5_wipe_12 k_iconst_0 (aw_putI (k := 4) (f := 1) eX5_wipe_13 tw_0_27 ⟨by decide, by decide⟩ (by decide) ⟨rfl, rfl, rfl, rfl⟩ (aw_wn ew2 (aw_iload_n eX5_wipe_16 rfl (aw_iret eX5_wipe_17 rfl (pI_i h)))))))))))
def D_X5_fault (w : Wd) : Option (Int32) := (D_X4_firstFault w).bind fun q1 => some (q1)
set_option maxHeartbeats 4000000 in
set_option maxRecDepth 100000 in
theorem A_X5_fault {X : XS} {w : Wd} {r : Int32} (h : D_X5_fault w = some r) : AW 6 X mX5_fault 0 (entA 1 [aR 5 0]) [] w (PI r w) := by
  show AW _ _ _ _ [some (aR 5 0)] _ _ _
  unfold D_X5_fault at h
  obtain ⟨q1, hq1, h⟩ := bd h
  exact aw_aload_n eX5_fault_0 rfl (aw_getf (k := 5) (f := 0) eX5_fault_1 tw_0_151 ⟨by decide, by decide⟩ (by decide) (v := aR 4 0) rfl (aw_callVI (N := mX4_firstFault) [] eX5_fault_4 tw_0_208 miX4_firstFault (by decide) (by decide) (by decide) rfl rfl (Nat.le_of_ble_eq_true rfl) (A_X4_firstFault hq1) (aw_iret eX5_fault_7 rfl (pI_p h))))
