abbrev mL_law : MD := (yL_law, cL_law, 4, some .boolean)
def D_L_law_923 (X : XS) (k18 : Int32 → Wd → Option (Int32 × Wd)) (x3 : Int32) (w : Wd) : Option (Int32 × Wd) := lt (x3 + 5) fun x3_4 => k18 x3_4 w
set_option maxHeartbeats 4000000 in
set_option maxRecDepth 100000 in
theorem A_L_law_923 {X : XS} {k18 : Int32 → Wd → Option (Int32 × Wd)} (hk18 : ∀ {x3 : Int32} {w : Wd} {r : Int32 × Wd}, k18 x3 w = some r → AW 15 X mL_law 18 [some (aR 42 0), some (aR 5 0), some (aR 6 0), some (aI x3)] [] w (PI r.1 r.2)) {x3 : Int32} {w : Wd} {r : Int32 × Wd} (h : D_L_law_923 X k18 x3 w = some r) : AW 15 X mL_law 923 [some (aR 42 0), some (aR 5 0), some (aR 6 0), some (aI x3)] [] w (PI r.1 r.2) := by
  unfold D_L_law_923 at h
  obtain ⟨x3_4, ex3_4, h⟩ := lt_e h
  refine aw_iincY (iinc_k k_iconst_5 ex3_4) eL_law_923 rfl (by decide) rfl (ls' := [some (aR 42 0), some (aR 5 0), some (aR 6 0), some (aI x3_4)]) rfl (aw_goto eL_law_926 ?_)
  exact hk18 h
def D_L_law_737 (X : XS) (k18 : Int32 → Wd → Option (Int32 × Wd)) (x3 : Int32) (s4 : Int32) (s3 : Int32) (s2 : Int32) (s1 : Int32) (w : Wd) : Option (Int32 × Wd) := (D_X5_falls w s1 s2 s3 s4).bind fun q167 => if inB (x3 + (1 : Int32)) X.1 then if inB (x3 + (2 : Int32)) X.1 then if inB (x3 + (3 : Int32)) X.1 then if inB (x3 + (4 : Int32)) X.1 then if (X.2 (Int32.toNatClampNeg (x3 + (4 : Int32)))) = 0 then ((D_X6_falls q167.2 (X.2 (Int32.toNatClampNeg (x3 + (1 : Int32)))) (X.2 (Int32.toNatClampNeg (x3 + (2 : Int32)))) (X.2 (Int32.toNatClampNeg (x3 + (3 : Int32)))) 0).bind fun q173 => if q167.1 = q173 then (D_L_law_923 X k18 x3 q167.2) else (some (0, q167.2))) else ((D_X6_falls q167.2 (X.2 (Int32.toNatClampNeg (x3 + (1 : Int32)))) (X.2 (Int32.toNatClampNeg (x3 + (2 : Int32)))) (X.2 (Int32.toNatClampNeg (x3 + (3 : Int32)))) 1).bind fun q175 => if q167.1 = q175 then (D_L_law_923 X k18 x3 q167.2) else (some (0, q167.2))) else none else none else none else none
set_option maxHeartbeats 4000000 in
set_option maxRecDepth 100000 in
theorem A_L_law_737 {X : XS} {k18 : Int32 → Wd → Option (Int32 × Wd)} (hk18 : ∀ {x3 : Int32} {w : Wd} {r : Int32 × Wd}, k18 x3 w = some r → AW 15 X mL_law 18 [some (aR 42 0), some (aR 5 0), some (aR 6 0), some (aI x3)] [] w (PI r.1 r.2)) {x3 : Int32} {s4 : Int32} {s3 : Int32} {s2 : Int32} {s1 : Int32} {w : Wd} {r : Int32 × Wd} (h : D_L_law_737 X k18 x3 s4 s3 s2 s1 w = some r) : AW 15 X mL_law 737 [some (aR 42 0), some (aR 5 0), some (aR 6 0), some (aI x3)] [aI s4, aI s3, aI s2, aI s1, aR 5 0] w (PI r.1 r.2) := by
  unfold D_L_law_737 at h
  obtain ⟨q167, hq167, h⟩ := bd h
  obtain ⟨hc168, h⟩ := ck h
  obtain ⟨hc169, h⟩ := ck h
  obtain ⟨hc170, h⟩ := ck h
  obtain ⟨hc171, h⟩ := ck h
  refine aw_callVI (N := mX5_falls) [aI s1, aI s2, aI s3, aI s4] eL_law_737 tw_1_235 miX5_falls (by decide) (by decide) (by decide) rfl rfl (Nat.le_of_ble_eq_true rfl) (A_X5_falls hq167) (aw_aload_n eL_law_740 rfl (aw_aload_n eL_law_741 rfl (aw_iload_n eL_law_742 rfl (aw_iconst eL_law_743 k_iconst_1 (aw_iadd eL_law_744 (aw_iald eL_law_745 rfl hc168 (v := X.2 (Int32.toNatClampNeg (x3 + (1 : Int32)))) rfl (aw_aload_n eL_law_746 rfl (aw_iload_n eL_law_747 rfl (aw_iconst eL_law_748 k_iconst_2 (aw_iadd eL_law_749 (aw_iald eL_law_750 rfl hc169 (v := X.2 (Int32.toNatClampNeg (x3 + (2 : Int32)))) rfl (aw_aload_n eL_law_751 rfl (aw_iload_n eL_law_752 rfl (aw_iconst eL_law_753 k_iconst_3 (aw_iadd eL_law_754 (aw_iald eL_law_755 rfl hc170 (v := X.2 (Int32.toNatClampNeg (x3 + (3 : Int32)))) rfl (aw_aload_n eL_law_756 rfl (aw_iload_n eL_law_757 rfl (aw_iconst eL_law_758 k_iconst_4 (aw_iadd eL_law_759 (aw_iald eL_law_760 rfl hc171 (v := X.2 (Int32.toNatClampNeg (x3 + (4 : Int32)))) rfl (aw_if_eq eL_law_761 (fun c172 => ?_) (fun c172 => ?_)))))))))))))))))))))))
  · have h := ip c172 h
    obtain ⟨q173, hq173, h⟩ := bd h
    refine aw_iconst eL_law_768 k_iconst_0 (aw_callVI (N := mX6_falls) [aI (X.2 (Int32.toNatClampNeg (x3 + (1 : Int32)))), aI (X.2 (Int32.toNatClampNeg (x3 + (2 : Int32)))), aI (X.2 (Int32.toNatClampNeg (x3 + (3 : Int32)))), aI 0] eL_law_769 tw_3_76 miX6_falls (by decide) (by decide) (by decide) rfl rfl (Nat.le_of_ble_eq_true rfl) (A_X6_falls hq173) (aw_icmp_eq eL_law_772 (fun c174 => ?_) (fun c174 => ?_)))
    · have h := ip c174 h
      exact A_L_law_923 (fun h => hk18 h) h
    · have h := iq c174 h
      exact aw_iconst eL_law_775 k_iconst_0 (aw_zret eL_law_776 rfl (by decide +kernel) (pI_i h))
  · have h := iq c172 h
    obtain ⟨q175, hq175, h⟩ := bd h
    refine aw_iconst eL_law_764 k_iconst_1 (aw_goto eL_law_765 (aw_callVI (N := mX6_falls) [aI (X.2 (Int32.toNatClampNeg (x3 + (1 : Int32)))), aI (X.2 (Int32.toNatClampNeg (x3 + (2 : Int32)))), aI (X.2 (Int32.toNatClampNeg (x3 + (3 : Int32)))), aI 1] eL_law_769 tw_3_76 miX6_falls (by decide) (by decide) (by decide) rfl rfl (Nat.le_of_ble_eq_true rfl) (A_X6_falls hq175) (aw_icmp_eq eL_law_772 (fun c176 => ?_) (fun c176 => ?_))))
    · have h := ip c176 h
      exact A_L_law_923 (fun h => hk18 h) h
    · have h := iq c176 h
      exact aw_iconst eL_law_775 k_iconst_0 (aw_zret eL_law_776 rfl (by decide +kernel) (pI_i h))
def D_L_law_18 (X : XS) : Nat → Int32 → Wd → Option (Int32 × Wd)
  | 0, _, _ => none
  | n + 1, x3, w => if ((Int32.ofNat X.1) - (5 : Int32)) < x3 then (some (1, w)) else (if inB x3 X.1 then lt ((X.2 (Int32.toNatClampNeg x3)) &&& (31 : Int32)) fun t3 => if t3 = 0 then (if inB (x3 + (1 : Int32)) X.1 then (D_X5_write w (X.2 (Int32.toNatClampNeg (x3 + (1 : Int32))))).bind fun q6 => if inB (x3 + (1 : Int32)) X.1 then (D_X6_write q6.2 (X.2 (Int32.toNatClampNeg (x3 + (1 : Int32))))).bind fun q8 => if q6.1 = q8.1 then (D_L_law_923 X (fun y0 wy => D_L_law_18 X n y0 wy) x3 q8.2) else (some (0, q8.2)) else none else none) else (if t3 = 1 then ((D_X5_wipe w).bind fun q11 => (D_X6_wipe q11.2).bind fun q12 => if q11.1 = q12.1 then (D_L_law_923 X (fun y0 wy => D_L_law_18 X n y0 wy) x3 q12.2) else (some (0, q12.2))) else (if t3 = 2 then ((D_X5_fault w).bind fun q15 => (D_X6_fault w).bind fun q16 => if q15 = q16 then (D_L_law_923 X (fun y0 wy => D_L_law_18 X n y0 wy) x3 w) else (some (0, w))) else (if t3 = 3 then ((D_X5_parish w).bind fun q19 => (D_X6_parish q19.2).bind fun q20 => if q19.1 = q20.1 then (D_L_law_923 X (fun y0 wy => D_L_law_18 X n y0 wy) x3 q20.2) else (some (0, q20.2))) else (if t3 = 4 then (if inB (x3 + (1 : Int32)) X.1 then if inB (x3 + (2 : Int32)) X.1 then (D_X5_wedding w (X.2 (Int32.toNatClampNeg (x3 + (1 : Int32)))) (X.2 (Int32.toNatClampNeg (x3 + (2 : Int32))))).bind fun q25 => if inB (x3 + (1 : Int32)) X.1 then if inB (x3 + (2 : Int32)) X.1 then (D_X6_wedding w (X.2 (Int32.toNatClampNeg (x3 + (1 : Int32)))) (X.2 (Int32.toNatClampNeg (x3 + (2 : Int32))))).bind fun q28 => if q25 = q28 then (D_L_law_923 X (fun y0 wy => D_L_law_18 X n y0 wy) x3 w) else (some (0, w)) else none else none else none else none) else (if t3 = 5 then (if inB (x3 + (1 : Int32)) X.1 then (D_X5_road w (X.2 (Int32.toNatClampNeg (x3 + (1 : Int32))))).bind fun q32 => if inB (x3 + (1 : Int32)) X.1 then (D_X6_road w (X.2 (Int32.toNatClampNeg (x3 + (1 : Int32))))).bind fun q34 => if q32 = q34 then (D_L_law_923 X (fun y0 wy => D_L_law_18 X n y0 wy) x3 w) else (some (0, w)) else none else none) else (if t3 = 6 then (if inB (x3 + (1 : Int32)) X.1 then if inB (x3 + (2 : Int32)) X.1 then (D_X5_way w (X.2 (Int32.toNatClampNeg (x3 + (1 : Int32)))) (X.2 (Int32.toNatClampNeg (x3 + (2 : Int32))))).bind fun q39 => if inB (x3 + (1 : Int32)) X.1 then if inB (x3 + (2 : Int32)) X.1 then (D_X6_way w (X.2 (Int32.toNatClampNeg (x3 + (1 : Int32)))) (X.2 (Int32.toNatClampNeg (x3 + (2 : Int32))))).bind fun q42 => if q39 = q42 then (D_L_law_923 X (fun y0 wy => D_L_law_18 X n y0 wy) x3 w) else (some (0, w)) else none else none else none else none) else (if t3 = 7 then (if inB (x3 + (1 : Int32)) X.1 then (D_X5_wed w (X.2 (Int32.toNatClampNeg (x3 + (1 : Int32))))).bind fun q46 => if inB (x3 + (1 : Int32)) X.1 then (D_X6_wed q46.2 (X.2 (Int32.toNatClampNeg (x3 + (1 : Int32))))).bind fun q48 => if q46.1 = q48.1 then (D_L_law_923 X (fun y0 wy => D_L_law_18 X n y0 wy) x3 q48.2) else (some (0, q48.2)) else none else none) else (if t3 = 8 then (if inB (x3 + (1 : Int32)) X.1 then (D_X5_carry w (X.2 (Int32.toNatClampNeg (x3 + (1 : Int32))))).bind fun q52 => if inB (x3 + (1 : Int32)) X.1 then (D_X6_carry q52.2 (X.2 (Int32.toNatClampNeg (x3 + (1 : Int32))))).bind fun q54 => if q52.1 = q54.1 then (D_L_law_923 X (fun y0 wy => D_L_law_18 X n y0 wy) x3 q54.2) else (some (0, q54.2)) else none else none) else (if t3 = 9 then ((D_X5_linger w).bind fun q57 => (D_X6_linger q57.2).bind fun q58 => if q57.1 = q58.1 then (D_L_law_923 X (fun y0 wy => D_L_law_18 X n y0 wy) x3 q58.2) else (some (0, q58.2))) else (if t3 = 10 then (if inB (x3 + (1 : Int32)) X.1 then (D_X5_mend w (X.2 (Int32.toNatClampNeg (x3 + (1 : Int32))))).bind fun q62 => if inB (x3 + (1 : Int32)) X.1 then (D_X6_mend q62.2 (X.2 (Int32.toNatClampNeg (x3 + (1 : Int32))))).bind fun q64 => if q62.1 = q64.1 then (D_L_law_923 X (fun y0 wy => D_L_law_18 X n y0 wy) x3 q64.2) else (some (0, q64.2)) else none else none) else (if t3 = 11 then ((D_X5_undo w).bind fun q67 => (D_X6_undo q67.2).bind fun q68 => if q67.1 = q68.1 then (D_L_law_923 X (fun y0 wy => D_L_law_18 X n y0 wy) x3 q68.2) else (some (0, q68.2))) else (if t3 = 12 then (if inB (x3 + (1 : Int32)) X.1 then (D_X5_most w (X.2 (Int32.toNatClampNeg (x3 + (1 : Int32))))).bind fun q72 => if inB (x3 + (1 : Int32)) X.1 then (D_X6_most q72.2 (X.2 (Int32.toNatClampNeg (x3 + (1 : Int32))))).bind fun q74 => if q72.1 = q74.1 then (D_L_law_923 X (fun y0 wy => D_L_law_18 X n y0 wy) x3 q74.2) else (some (0, q74.2)) else none else none) else (if t3 = 13 then ((D_X5_slack w).bind fun q77 => (D_X6_slack q77.2).bind fun q78 => if q77.1 = q78.1 then (D_L_law_923 X (fun y0 wy => D_L_law_18 X n y0 wy) x3 q78.2) else (some (0, q78.2))) else (if t3 = 14 then (if inB (x3 + (1 : Int32)) X.1 then if (X.2 (Int32.toNatClampNeg (x3 + (1 : Int32)))) = 0 then ((D_X5_mending w 0).bind fun q83 => if inB (x3 + (1 : Int32)) X.1 then if (X.2 (Int32.toNatClampNeg (x3 + (1 : Int32)))) = 0 then ((D_X6_mending q83.2 0).bind fun q86 => if q83.1 = q86.1 then (D_L_law_923 X (fun y0 wy => D_L_law_18 X n y0 wy) x3 q86.2) else (some (0, q86.2))) else ((D_X6_mending q83.2 1).bind fun q88 => if q83.1 = q88.1 then (D_L_law_923 X (fun y0 wy => D_L_law_18 X n y0 wy) x3 q88.2) else (some (0, q88.2))) else none) else ((D_X5_mending w 1).bind fun q90 => if inB (x3 + (1 : Int32)) X.1 then if (X.2 (Int32.toNatClampNeg (x3 + (1 : Int32)))) = 0 then ((D_X6_mending q90.2 0).bind fun q93 => if q90.1 = q93.1 then (D_L_law_923 X (fun y0 wy => D_L_law_18 X n y0 wy) x3 q93.2) else (some (0, q93.2))) else ((D_X6_mending q90.2 1).bind fun q95 => if q90.1 = q95.1 then (D_L_law_923 X (fun y0 wy => D_L_law_18 X n y0 wy) x3 q95.2) else (some (0, q95.2))) else none) else none) else (if t3 = 15 then (if inB (x3 + (1 : Int32)) X.1 then if inB (x3 + (2 : Int32)) X.1 then (D_X5_judge w (X.2 (Int32.toNatClampNeg (x3 + (1 : Int32)))) (X.2 (Int32.toNatClampNeg (x3 + (2 : Int32))))).bind fun q100 => if inB (x3 + (1 : Int32)) X.1 then if inB (x3 + (2 : Int32)) X.1 then (D_X6_judge q100.2 (X.2 (Int32.toNatClampNeg (x3 + (1 : Int32)))) (X.2 (Int32.toNatClampNeg (x3 + (2 : Int32))))).bind fun q103 => if q100.1 = q103.1 then (D_L_law_923 X (fun y0 wy => D_L_law_18 X n y0 wy) x3 q103.2) else (some (0, q103.2)) else none else none else none else none) else (if t3 = 16 then (if inB (x3 + (1 : Int32)) X.1 then (D_X5_later w (X.2 (Int32.toNatClampNeg (x3 + (1 : Int32))))).bind fun q107 => if inB (x3 + (1 : Int32)) X.1 then (D_X6_later w (X.2 (Int32.toNatClampNeg (x3 + (1 : Int32))))).bind fun q109 => if q107 = q109 then (D_L_law_923 X (fun y0 wy => D_L_law_18 X n y0 wy) x3 w) else (some (0, w)) else none else none) else (if t3 = 17 then (if inB (x3 + (1 : Int32)) X.1 then if inB (x3 + (2 : Int32)) X.1 then (D_X5_see w (X.2 (Int32.toNatClampNeg (x3 + (1 : Int32)))) (X.2 (Int32.toNatClampNeg (x3 + (2 : Int32))))).bind fun q114 => if inB (x3 + (1 : Int32)) X.1 then if inB (x3 + (2 : Int32)) X.1 then (D_X6_see q114.2 (X.2 (Int32.toNatClampNeg (x3 + (1 : Int32)))) (X.2 (Int32.toNatClampNeg (x3 + (2 : Int32))))).bind fun q117 => if q114.1 = q117.1 then (D_L_law_923 X (fun y0 wy => D_L_law_18 X n y0 wy) x3 q117.2) else (some (0, q117.2)) else none else none else none else none) else (if t3 = 18 then ((D_X5_unsee w).bind fun q120 => (D_X6_unsee q120.2).bind fun q121 => if q120.1 = q121.1 then (D_L_law_923 X (fun y0 wy => D_L_law_18 X n y0 wy) x3 q121.2) else (some (0, q121.2))) else (if t3 = 19 then (if inB (x3 + (1 : Int32)) X.1 then if inB (x3 + (2 : Int32)) X.1 then (D_X5_rows w (X.2 (Int32.toNatClampNeg (x3 + (1 : Int32)))) (X.2 (Int32.toNatClampNeg (x3 + (2 : Int32))))).bind fun q126 => if inB (x3 + (1 : Int32)) X.1 then if inB (x3 + (2 : Int32)) X.1 then (D_X6_rows q126.2 (X.2 (Int32.toNatClampNeg (x3 + (1 : Int32)))) (X.2 (Int32.toNatClampNeg (x3 + (2 : Int32))))).bind fun q129 => if q126.1 = q129.1 then (D_L_law_923 X (fun y0 wy => D_L_law_18 X n y0 wy) x3 q129.2) else (some (0, q129.2)) else none else none else none else none) else (if t3 = 20 then (if inB (x3 + (1 : Int32)) X.1 then if inB (x3 + (2 : Int32)) X.1 then if (X.2 (Int32.toNatClampNeg (x3 + (2 : Int32)))) = 0 then ((D_X5_share w (X.2 (Int32.toNatClampNeg (x3 + (1 : Int32)))) 0).bind fun q135 => if inB (x3 + (1 : Int32)) X.1 then if inB (x3 + (2 : Int32)) X.1 then if (X.2 (Int32.toNatClampNeg (x3 + (2 : Int32)))) = 0 then ((D_X6_share q135.2 (X.2 (Int32.toNatClampNeg (x3 + (1 : Int32)))) 0).bind fun q139 => if q135.1 = q139.1 then (D_L_law_923 X (fun y0 wy => D_L_law_18 X n y0 wy) x3 q139.2) else (some (0, q139.2))) else ((D_X6_share q135.2 (X.2 (Int32.toNatClampNeg (x3 + (1 : Int32)))) 1).bind fun q141 => if q135.1 = q141.1 then (D_L_law_923 X (fun y0 wy => D_L_law_18 X n y0 wy) x3 q141.2) else (some (0, q141.2))) else none else none) else ((D_X5_share w (X.2 (Int32.toNatClampNeg (x3 + (1 : Int32)))) 1).bind fun q143 => if inB (x3 + (1 : Int32)) X.1 then if inB (x3 + (2 : Int32)) X.1 then if (X.2 (Int32.toNatClampNeg (x3 + (2 : Int32)))) = 0 then ((D_X6_share q143.2 (X.2 (Int32.toNatClampNeg (x3 + (1 : Int32)))) 0).bind fun q147 => if q143.1 = q147.1 then (D_L_law_923 X (fun y0 wy => D_L_law_18 X n y0 wy) x3 q147.2) else (some (0, q147.2))) else ((D_X6_share q143.2 (X.2 (Int32.toNatClampNeg (x3 + (1 : Int32)))) 1).bind fun q149 => if q143.1 = q149.1 then (D_L_law_923 X (fun y0 wy => D_L_law_18 X n y0 wy) x3 q149.2) else (some (0, q149.2))) else none else none) else none else none) else (if t3 = 21 then (if inB (x3 + (1 : Int32)) X.1 then if inB (x3 + (2 : Int32)) X.1 then if inB (x3 + (3 : Int32)) X.1 then (D_X5_rests w (X.2 (Int32.toNatClampNeg (x3 + (1 : Int32)))) (X.2 (Int32.toNatClampNeg (x3 + (2 : Int32)))) (X.2 (Int32.toNatClampNeg (x3 + (3 : Int32))))).bind fun q155 => if inB (x3 + (1 : Int32)) X.1 then if inB (x3 + (2 : Int32)) X.1 then if inB (x3 + (3 : Int32)) X.1 then (D_X6_rests q155.2 (X.2 (Int32.toNatClampNeg (x3 + (1 : Int32)))) (X.2 (Int32.toNatClampNeg (x3 + (2 : Int32)))) (X.2 (Int32.toNatClampNeg (x3 + (3 : Int32))))).bind fun q159 => if q155.1 = q159.1 then (D_L_law_923 X (fun y0 wy => D_L_law_18 X n y0 wy) x3 q159.2) else (some (0, q159.2)) else none else none else none else none else none else none) else (if t3 = 22 then (if inB (x3 + (1 : Int32)) X.1 then if inB (x3 + (2 : Int32)) X.1 then if inB (x3 + (3 : Int32)) X.1 then if inB (x3 + (4 : Int32)) X.1 then if (X.2 (Int32.toNatClampNeg (x3 + (4 : Int32)))) = 0 then (D_L_law_737 X (fun y0 wy => D_L_law_18 X n y0 wy) x3 0 (X.2 (Int32.toNatClampNeg (x3 + (3 : Int32)))) (X.2 (Int32.toNatClampNeg (x3 + (2 : Int32)))) (X.2 (Int32.toNatClampNeg (x3 + (1 : Int32)))) w) else (D_L_law_737 X (fun y0 wy => D_L_law_18 X n y0 wy) x3 1 (X.2 (Int32.toNatClampNeg (x3 + (3 : Int32)))) (X.2 (Int32.toNatClampNeg (x3 + (2 : Int32)))) (X.2 (Int32.toNatClampNeg (x3 + (1 : Int32)))) w) else none else none else none else none) else (if t3 = 23 then (if inB (x3 + (1 : Int32)) X.1 then if inB (x3 + (2 : Int32)) X.1 then (D_X5_seed w (((Int32.toInt64 (X.2 (Int32.toNatClampNeg (x3 + (1 : Int32))))) <<< (Int32.toInt64 (32 : Int32) &&& 63)) ||| ((Int32.toInt64 (X.2 (Int32.toNatClampNeg (x3 + (2 : Int32))))) &&& (4294967295 : Int64)))).bind fun q180 => if inB (x3 + (1 : Int32)) X.1 then if inB (x3 + (2 : Int32)) X.1 then (D_X6_seed q180.2 (((Int32.toInt64 (X.2 (Int32.toNatClampNeg (x3 + (1 : Int32))))) <<< (Int32.toInt64 (32 : Int32) &&& 63)) ||| ((Int32.toInt64 (X.2 (Int32.toNatClampNeg (x3 + (2 : Int32))))) &&& (4294967295 : Int64)))).bind fun q183 => if (lg_cmp q180.1 q183.1) = 0 then (D_L_law_923 X (fun y0 wy => D_L_law_18 X n y0 wy) x3 q183.2) else (some (0, q183.2)) else none else none else none else none) else (if t3 = 24 then (if inB (x3 + (1 : Int32)) X.1 then (D_X5_summers w (X.2 (Int32.toNatClampNeg (x3 + (1 : Int32))))).bind fun q187 => if inB (x3 + (1 : Int32)) X.1 then (D_X6_summers q187.2 (X.2 (Int32.toNatClampNeg (x3 + (1 : Int32))))).bind fun q189 => if q187.1 = q189.1 then (D_L_law_923 X (fun y0 wy => D_L_law_18 X n y0 wy) x3 q189.2) else (some (0, q189.2)) else none else none) else (if t3 = 25 then (if inB (x3 + (1 : Int32)) X.1 then (D_X5_keep w (X.2 (Int32.toNatClampNeg (x3 + (1 : Int32))))).bind fun q193 => if inB (x3 + (1 : Int32)) X.1 then (D_X6_keep q193.2 (X.2 (Int32.toNatClampNeg (x3 + (1 : Int32))))).bind fun q195 => if q193.1 = q195.1 then (D_L_law_923 X (fun y0 wy => D_L_law_18 X n y0 wy) x3 q195.2) else (some (0, q195.2)) else none else none) else (if t3 = 26 then (if inB (x3 + (1 : Int32)) X.1 then (D_X5_again w (X.2 (Int32.toNatClampNeg (x3 + (1 : Int32))))).bind fun q199 => if inB (x3 + (1 : Int32)) X.1 then (D_X6_again q199.2 (X.2 (Int32.toNatClampNeg (x3 + (1 : Int32))))).bind fun q201 => if q199.1 = q201.1 then (D_L_law_923 X (fun y0 wy => D_L_law_18 X n y0 wy) x3 q201.2) else (some (0, q201.2)) else none else none) else (if t3 = 27 then (if inB (x3 + (1 : Int32)) X.1 then (D_X5_count w (X.2 (Int32.toNatClampNeg (x3 + (1 : Int32))))).bind fun q205 => if inB (x3 + (1 : Int32)) X.1 then (D_X6_count w (X.2 (Int32.toNatClampNeg (x3 + (1 : Int32))))).bind fun q207 => if q205 = q207 then (D_L_law_923 X (fun y0 wy => D_L_law_18 X n y0 wy) x3 w) else (some (0, w)) else none else none) else (D_L_law_923 X (fun y0 wy => D_L_law_18 X n y0 wy) x3 w)))))))))))))))))))))))))))) else none)
set_option maxHeartbeats 4000000 in
set_option maxRecDepth 100000 in
theorem A_L_law_18 {X : XS} : ∀ (nn : Nat) {x3 : Int32} {w : Wd} {r : Int32 × Wd}, D_L_law_18 X nn x3 w = some r → AW 15 X mL_law 18 [some (aR 42 0), some (aR 5 0), some (aR 6 0), some (aI x3)] [] w (PI r.1 r.2) := by
  intro nn
  induction nn with
  | zero => intros; rename_i h; cases h
  | succ n ih =>
    intro x3 w r h
    rw [D_L_law_18] at h
    refine aw_iload_n eL_law_18 rfl (aw_aload_n eL_law_19 rfl (aw_alenI eL_law_20 rfl rfl (aw_iconst eL_law_21 k_iconst_5 (aw_isub eL_law_22 (aw_icmp_gt eL_law_23 (fun c1 => ?_) (fun c1 => ?_))))))
    · have h := ip c1 h
      exact aw_iconst eL_law_929 k_iconst_1 (aw_zret eL_law_930 rfl (by decide +kernel) (pI_i h))
    · have h := iq c1 h
      obtain ⟨hc2, h⟩ := ck h
      obtain ⟨t3, et3, h⟩ := lt_e h
      refine aw_aload_n eL_law_26 rfl (aw_iload_n eL_law_27 rfl (aw_iald eL_law_28 rfl hc2 (v := X.2 (Int32.toNatClampNeg x3)) rfl (aw_bipush eL_law_29 k_bipush_31 (aw_iand eL_law_31 ?_))))
      by_cases c10 : t3 = 0
      · have h := ip c10 h
        refine aw_tabIn eL_law_32 (by rw [← et3, c10]; decide) (by rw [← et3, c10]; decide) (off := 128) (tgt := 160) (by rw [← et3, c10]; decide) (by decide) ?_
        obtain ⟨hc5, h⟩ := ck h
        obtain ⟨q6, hq6, h⟩ := bd h
        obtain ⟨hc7, h⟩ := ck h
        obtain ⟨q8, hq8, h⟩ := bd h
        refine aw_aload_n eL_law_160 rfl (aw_aload_n eL_law_161 rfl (aw_iload_n eL_law_162 rfl (aw_iconst eL_law_163 k_iconst_1 (aw_iadd eL_law_164 (aw_iald eL_law_165 rfl hc5 (v := X.2 (Int32.toNatClampNeg (x3 + (1 : Int32)))) rfl (aw_callVI (N := mX5_write) [aI (X.2 (Int32.toNatClampNeg (x3 + (1 : Int32))))] eL_law_166 tw_0_192 miX5_write (by decide) (by decide) (by decide) rfl rfl (Nat.le_of_ble_eq_true rfl) (A_X5_write hq6) (aw_aload_n eL_law_169 rfl (aw_aload_n eL_law_170 rfl (aw_iload_n eL_law_171 rfl (aw_iconst eL_law_172 k_iconst_1 (aw_iadd eL_law_173 (aw_iald eL_law_174 rfl hc7 (v := X.2 (Int32.toNatClampNeg (x3 + (1 : Int32)))) rfl (aw_callVI (N := mX6_write) [aI (X.2 (Int32.toNatClampNeg (x3 + (1 : Int32))))] eL_law_175 tw_2_111 miX6_write (by decide) (by decide) (by decide) rfl rfl (Nat.le_of_ble_eq_true rfl) (A_X6_write hq8) (aw_icmp_eq eL_law_178 (fun c9 => ?_) (fun c9 => ?_)))))))))))))))
        · have h := ip c9 h
          exact A_L_law_923 (fun h => ih h) h
        · have h := iq c9 h
          exact aw_iconst eL_law_181 k_iconst_0 (aw_zret eL_law_182 rfl (by decide +kernel) (pI_i h))
      · have h := iq c10 h
        by_cases c14 : t3 = 1
        · have h := ip c14 h
          refine aw_tabIn eL_law_32 (by rw [← et3, c14]; decide) (by rw [← et3, c14]; decide) (off := 151) (tgt := 183) (by rw [← et3, c14]; decide) (by decide) ?_
          obtain ⟨q11, hq11, h⟩ := bd h
          obtain ⟨q12, hq12, h⟩ := bd h
          refine aw_aload_n eL_law_183 rfl (aw_callVI (N := mX5_wipe) [] eL_law_184 tw_0_200 miX5_wipe (by decide) (by decide) (by decide) rfl rfl (Nat.le_of_ble_eq_true rfl) (A_X5_wipe hq11) (aw_aload_n eL_law_187 rfl (aw_callVI (N := mX6_wipe) [] eL_law_188 tw_2_119 miX6_wipe (by decide) (by decide) (by decide) rfl rfl (Nat.le_of_ble_eq_true rfl) (A_X6_wipe hq12) (aw_icmp_eq eL_law_191 (fun c13 => ?_) (fun c13 => ?_)))))
          · have h := ip c13 h
            exact A_L_law_923 (fun h => ih h) h
          · have h := iq c13 h
            exact aw_iconst eL_law_194 k_iconst_0 (aw_zret eL_law_195 rfl (by decide +kernel) (pI_i h))
        · have h := iq c14 h
          by_cases c18 : t3 = 2
          · have h := ip c18 h
            refine aw_tabIn eL_law_32 (by rw [← et3, c18]; decide) (by rw [← et3, c18]; decide) (off := 164) (tgt := 196) (by rw [← et3, c18]; decide) (by decide) ?_
            obtain ⟨q15, hq15, h⟩ := bd h
            obtain ⟨q16, hq16, h⟩ := bd h
            refine aw_aload_n eL_law_196 rfl (aw_callVI (N := mX5_fault) [] eL_law_197 tw_0_204 miX5_fault (by decide) (by decide) (by decide) rfl rfl (Nat.le_of_ble_eq_true rfl) (A_X5_fault hq15) (aw_aload_n eL_law_200 rfl (aw_callVI (N := mX6_fault) [] eL_law_201 tw_2_123 miX6_fault (by decide) (by decide) (by decide) rfl rfl (Nat.le_of_ble_eq_true rfl) (A_X6_fault hq16) (aw_icmp_eq eL_law_204 (fun c17 => ?_) (fun c17 => ?_)))))
            · have h := ip c17 h
              exact A_L_law_923 (fun h => ih h) h
            · have h := iq c17 h
              exact aw_iconst eL_law_207 k_iconst_0 (aw_zret eL_law_208 rfl (by decide +kernel) (pI_i h))
          · have h := iq c18 h
            by_cases c22 : t3 = 3
            · have h := ip c22 h
              refine aw_tabIn eL_law_32 (by rw [← et3, c22]; decide) (by rw [← et3, c22]; decide) (off := 177) (tgt := 209) (by rw [← et3, c22]; decide) (by decide) ?_
              obtain ⟨q19, hq19, h⟩ := bd h
              obtain ⟨q20, hq20, h⟩ := bd h
              refine aw_aload_n eL_law_209 rfl (aw_callVI (N := mX5_parish) [] eL_law_210 tw_0_231 miX5_parish (by decide) (by decide) (by decide) rfl rfl (Nat.le_of_ble_eq_true rfl) (A_X5_parish hq19) (aw_aload_n eL_law_213 rfl (aw_callVI (N := mX6_parish) [] eL_law_214 tw_2_134 miX6_parish (by decide) (by decide) (by decide) rfl rfl (Nat.le_of_ble_eq_true rfl) (A_X6_parish hq20) (aw_icmp_eq eL_law_217 (fun c21 => ?_) (fun c21 => ?_)))))
              · have h := ip c21 h
                exact A_L_law_923 (fun h => ih h) h
              · have h := iq c21 h
                exact aw_iconst eL_law_220 k_iconst_0 (aw_zret eL_law_221 rfl (by decide +kernel) (pI_i h))
            · have h := iq c22 h
              by_cases c30 : t3 = 4
              · have h := ip c30 h
                refine aw_tabIn eL_law_32 (by rw [← et3, c30]; decide) (by rw [← et3, c30]; decide) (off := 190) (tgt := 222) (by rw [← et3, c30]; decide) (by decide) ?_
                obtain ⟨hc23, h⟩ := ck h
                obtain ⟨hc24, h⟩ := ck h
                obtain ⟨q25, hq25, h⟩ := bd h
                obtain ⟨hc26, h⟩ := ck h
                obtain ⟨hc27, h⟩ := ck h
                obtain ⟨q28, hq28, h⟩ := bd h
                refine aw_aload_n eL_law_222 rfl (aw_aload_n eL_law_223 rfl (aw_iload_n eL_law_224 rfl (aw_iconst eL_law_225 k_iconst_1 (aw_iadd eL_law_226 (aw_iald eL_law_227 rfl hc23 (v := X.2 (Int32.toNatClampNeg (x3 + (1 : Int32)))) rfl (aw_aload_n eL_law_228 rfl (aw_iload_n eL_law_229 rfl (aw_iconst eL_law_230 k_iconst_2 (aw_iadd eL_law_231 (aw_iald eL_law_232 rfl hc24 (v := X.2 (Int32.toNatClampNeg (x3 + (2 : Int32)))) rfl (aw_callVI (N := mX5_wedding) [aI (X.2 (Int32.toNatClampNeg (x3 + (1 : Int32)))), aI (X.2 (Int32.toNatClampNeg (x3 + (2 : Int32))))] eL_law_233 tw_1_16 miX5_wedding (by decide) (by decide) (by decide) rfl rfl (Nat.le_of_ble_eq_true rfl) (A_X5_wedding hq25) (aw_aload_n eL_law_236 rfl (aw_aload_n eL_law_237 rfl (aw_iload_n eL_law_238 rfl (aw_iconst eL_law_239 k_iconst_1 (aw_iadd eL_law_240 (aw_iald eL_law_241 rfl hc26 (v := X.2 (Int32.toNatClampNeg (x3 + (1 : Int32)))) rfl (aw_aload_n eL_law_242 rfl (aw_iload_n eL_law_243 rfl (aw_iconst eL_law_244 k_iconst_2 (aw_iadd eL_law_245 (aw_iald eL_law_246 rfl hc27 (v := X.2 (Int32.toNatClampNeg (x3 + (2 : Int32)))) rfl (aw_callVI (N := mX6_wedding) [aI (X.2 (Int32.toNatClampNeg (x3 + (1 : Int32)))), aI (X.2 (Int32.toNatClampNeg (x3 + (2 : Int32))))] eL_law_247 tw_2_139 miX6_wedding (by decide) (by decide) (by decide) rfl rfl (Nat.le_of_ble_eq_true rfl) (A_X6_wedding hq28) (aw_icmp_eq eL_law_250 (fun c29 => ?_) (fun c29 => ?_)))))))))))))))))))))))))
                · have h := ip c29 h
                  exact A_L_law_923 (fun h => ih h) h
                · have h := iq c29 h
                  exact aw_iconst eL_law_253 k_iconst_0 (aw_zret eL_law_254 rfl (by decide +kernel) (pI_i h))
              · have h := iq c30 h
                by_cases c36 : t3 = 5
                · have h := ip c36 h
                  refine aw_tabIn eL_law_32 (by rw [← et3, c36]; decide) (by rw [← et3, c36]; decide) (off := 223) (tgt := 255) (by rw [← et3, c36]; decide) (by decide) ?_
                  obtain ⟨hc31, h⟩ := ck h
                  obtain ⟨q32, hq32, h⟩ := bd h
                  obtain ⟨hc33, h⟩ := ck h
                  obtain ⟨q34, hq34, h⟩ := bd h
                  refine aw_aload_n eL_law_255 rfl (aw_aload_n eL_law_256 rfl (aw_iload_n eL_law_257 rfl (aw_iconst eL_law_258 k_iconst_1 (aw_iadd eL_law_259 (aw_iald eL_law_260 rfl hc31 (v := X.2 (Int32.toNatClampNeg (x3 + (1 : Int32)))) rfl (aw_callVI (N := mX5_road) [aI (X.2 (Int32.toNatClampNeg (x3 + (1 : Int32))))] eL_law_261 tw_1_49 miX5_road (by decide) (by decide) (by decide) rfl rfl (Nat.le_of_ble_eq_true rfl) (A_X5_road hq32) (aw_aload_n eL_law_264 rfl (aw_aload_n eL_law_265 rfl (aw_iload_n eL_law_266 rfl (aw_iconst eL_law_267 k_iconst_1 (aw_iadd eL_law_268 (aw_iald eL_law_269 rfl hc33 (v := X.2 (Int32.toNatClampNeg (x3 + (1 : Int32)))) rfl (aw_callVI (N := mX6_road) [aI (X.2 (Int32.toNatClampNeg (x3 + (1 : Int32))))] eL_law_270 tw_2_166 miX6_road (by decide) (by decide) (by decide) rfl rfl (Nat.le_of_ble_eq_true rfl) (A_X6_road hq34) (aw_icmp_eq eL_law_273 (fun c35 => ?_) (fun c35 => ?_)))))))))))))))
                  · have h := ip c35 h
                    exact A_L_law_923 (fun h => ih h) h
                  · have h := iq c35 h
                    exact aw_iconst eL_law_276 k_iconst_0 (aw_zret eL_law_277 rfl (by decide +kernel) (pI_i h))
                · have h := iq c36 h
                  by_cases c44 : t3 = 6
                  · have h := ip c44 h
                    refine aw_tabIn eL_law_32 (by rw [← et3, c44]; decide) (by rw [← et3, c44]; decide) (off := 246) (tgt := 278) (by rw [← et3, c44]; decide) (by decide) ?_
                    obtain ⟨hc37, h⟩ := ck h
                    obtain ⟨hc38, h⟩ := ck h
                    obtain ⟨q39, hq39, h⟩ := bd h
                    obtain ⟨hc40, h⟩ := ck h
                    obtain ⟨hc41, h⟩ := ck h
                    obtain ⟨q42, hq42, h⟩ := bd h
                    refine aw_aload_n eL_law_278 rfl (aw_aload_n eL_law_279 rfl (aw_iload_n eL_law_280 rfl (aw_iconst eL_law_281 k_iconst_1 (aw_iadd eL_law_282 (aw_iald eL_law_283 rfl hc37 (v := X.2 (Int32.toNatClampNeg (x3 + (1 : Int32)))) rfl (aw_aload_n eL_law_284 rfl (aw_iload_n eL_law_285 rfl (aw_iconst eL_law_286 k_iconst_2 (aw_iadd eL_law_287 (aw_iald eL_law_288 rfl hc38 (v := X.2 (Int32.toNatClampNeg (x3 + (2 : Int32)))) rfl (aw_callVI (N := mX5_way) [aI (X.2 (Int32.toNatClampNeg (x3 + (1 : Int32)))), aI (X.2 (Int32.toNatClampNeg (x3 + (2 : Int32))))] eL_law_289 tw_1_57 miX5_way (by decide) (by decide) (by decide) rfl rfl (Nat.le_of_ble_eq_true rfl) (A_X5_way hq39) (aw_aload_n eL_law_292 rfl (aw_aload_n eL_law_293 rfl (aw_iload_n eL_law_294 rfl (aw_iconst eL_law_295 k_iconst_1 (aw_iadd eL_law_296 (aw_iald eL_law_297 rfl hc40 (v := X.2 (Int32.toNatClampNeg (x3 + (1 : Int32)))) rfl (aw_aload_n eL_law_298 rfl (aw_iload_n eL_law_299 rfl (aw_iconst eL_law_300 k_iconst_2 (aw_iadd eL_law_301 (aw_iald eL_law_302 rfl hc41 (v := X.2 (Int32.toNatClampNeg (x3 + (2 : Int32)))) rfl (aw_callVI (N := mX6_way) [aI (X.2 (Int32.toNatClampNeg (x3 + (1 : Int32)))), aI (X.2 (Int32.toNatClampNeg (x3 + (2 : Int32))))] eL_law_303 tw_2_171 miX6_way (by decide) (by decide) (by decide) rfl rfl (Nat.le_of_ble_eq_true rfl) (A_X6_way hq42) (aw_icmp_eq eL_law_306 (fun c43 => ?_) (fun c43 => ?_)))))))))))))))))))))))))
                    · have h := ip c43 h
                      exact A_L_law_923 (fun h => ih h) h
                    · have h := iq c43 h
                      exact aw_iconst eL_law_309 k_iconst_0 (aw_zret eL_law_310 rfl (by decide +kernel) (pI_i h))
                  · have h := iq c44 h
                    by_cases c50 : t3 = 7
                    · have h := ip c50 h
                      refine aw_tabIn eL_law_32 (by rw [← et3, c50]; decide) (by rw [← et3, c50]; decide) (off := 279) (tgt := 311) (by rw [← et3, c50]; decide) (by decide) ?_
                      obtain ⟨hc45, h⟩ := ck h
                      obtain ⟨q46, hq46, h⟩ := bd h
                      obtain ⟨hc47, h⟩ := ck h
                      obtain ⟨q48, hq48, h⟩ := bd h
                      refine aw_aload_n eL_law_311 rfl (aw_aload_n eL_law_312 rfl (aw_iload_n eL_law_313 rfl (aw_iconst eL_law_314 k_iconst_1 (aw_iadd eL_law_315 (aw_iald eL_law_316 rfl hc45 (v := X.2 (Int32.toNatClampNeg (x3 + (1 : Int32)))) rfl (aw_callVI (N := mX5_wed) [aI (X.2 (Int32.toNatClampNeg (x3 + (1 : Int32))))] eL_law_317 tw_1_65 miX5_wed (by decide) (by decide) (by decide) rfl rfl (Nat.le_of_ble_eq_true rfl) (A_X5_wed hq46) (aw_aload_n eL_law_320 rfl (aw_aload_n eL_law_321 rfl (aw_iload_n eL_law_322 rfl (aw_iconst eL_law_323 k_iconst_1 (aw_iadd eL_law_324 (aw_iald eL_law_325 rfl hc47 (v := X.2 (Int32.toNatClampNeg (x3 + (1 : Int32)))) rfl (aw_callVI (N := mX6_wed) [aI (X.2 (Int32.toNatClampNeg (x3 + (1 : Int32))))] eL_law_326 tw_2_178 miX6_wed (by decide) (by decide) (by decide) rfl rfl (Nat.le_of_ble_eq_true rfl) (A_X6_wed hq48) (aw_icmp_eq eL_law_329 (fun c49 => ?_) (fun c49 => ?_)))))))))))))))
                      · have h := ip c49 h
                        exact A_L_law_923 (fun h => ih h) h
                      · have h := iq c49 h
                        exact aw_iconst eL_law_332 k_iconst_0 (aw_zret eL_law_333 rfl (by decide +kernel) (pI_i h))
                    · have h := iq c50 h
                      by_cases c56 : t3 = 8
                      · have h := ip c56 h
                        refine aw_tabIn eL_law_32 (by rw [← et3, c56]; decide) (by rw [← et3, c56]; decide) (off := 302) (tgt := 334) (by rw [← et3, c56]; decide) (by decide) ?_
                        obtain ⟨hc51, h⟩ := ck h
                        obtain ⟨q52, hq52, h⟩ := bd h
                        obtain ⟨hc53, h⟩ := ck h
                        obtain ⟨q54, hq54, h⟩ := bd h
                        refine aw_aload_n eL_law_334 rfl (aw_aload_n eL_law_335 rfl (aw_iload_n eL_law_336 rfl (aw_iconst eL_law_337 k_iconst_1 (aw_iadd eL_law_338 (aw_iald eL_law_339 rfl hc51 (v := X.2 (Int32.toNatClampNeg (x3 + (1 : Int32)))) rfl (aw_callVI (N := mX5_carry) [aI (X.2 (Int32.toNatClampNeg (x3 + (1 : Int32))))] eL_law_340 tw_1_90 miX5_carry (by decide) (by decide) (by decide) rfl rfl (Nat.le_of_ble_eq_true rfl) (A_X5_carry hq52) (aw_aload_n eL_law_343 rfl (aw_aload_n eL_law_344 rfl (aw_iload_n eL_law_345 rfl (aw_iconst eL_law_346 k_iconst_1 (aw_iadd eL_law_347 (aw_iald eL_law_348 rfl hc53 (v := X.2 (Int32.toNatClampNeg (x3 + (1 : Int32)))) rfl (aw_callVI (N := mX6_carry) [aI (X.2 (Int32.toNatClampNeg (x3 + (1 : Int32))))] eL_law_349 tw_2_194 miX6_carry (by decide) (by decide) (by decide) rfl rfl (Nat.le_of_ble_eq_true rfl) (A_X6_carry hq54) (aw_icmp_eq eL_law_352 (fun c55 => ?_) (fun c55 => ?_)))))))))))))))
                        · have h := ip c55 h
                          exact A_L_law_923 (fun h => ih h) h
                        · have h := iq c55 h
                          exact aw_iconst eL_law_355 k_iconst_0 (aw_zret eL_law_356 rfl (by decide +kernel) (pI_i h))
                      · have h := iq c56 h
                        by_cases c60 : t3 = 9
                        · have h := ip c60 h
                          refine aw_tabIn eL_law_32 (by rw [← et3, c60]; decide) (by rw [← et3, c60]; decide) (off := 325) (tgt := 357) (by rw [← et3, c60]; decide) (by decide) ?_
                          obtain ⟨q57, hq57, h⟩ := bd h
                          obtain ⟨q58, hq58, h⟩ := bd h
                          refine aw_aload_n eL_law_357 rfl (aw_callVI (N := mX5_linger) [] eL_law_358 tw_1_94 miX5_linger (by decide) (by decide) (by decide) rfl rfl (Nat.le_of_ble_eq_true rfl) (A_X5_linger hq57) (aw_aload_n eL_law_361 rfl (aw_callVI (N := mX6_linger) [] eL_law_362 tw_2_198 miX6_linger (by decide) (by decide) (by decide) rfl rfl (Nat.le_of_ble_eq_true rfl) (A_X6_linger hq58) (aw_icmp_eq eL_law_365 (fun c59 => ?_) (fun c59 => ?_)))))
                          · have h := ip c59 h
                            exact A_L_law_923 (fun h => ih h) h
                          · have h := iq c59 h
                            exact aw_iconst eL_law_368 k_iconst_0 (aw_zret eL_law_369 rfl (by decide +kernel) (pI_i h))
                        · have h := iq c60 h
                          by_cases c66 : t3 = 10
                          · have h := ip c66 h
                            refine aw_tabIn eL_law_32 (by rw [← et3, c66]; decide) (by rw [← et3, c66]; decide) (off := 338) (tgt := 370) (by rw [← et3, c66]; decide) (by decide) ?_
                            obtain ⟨hc61, h⟩ := ck h
                            obtain ⟨q62, hq62, h⟩ := bd h
                            obtain ⟨hc63, h⟩ := ck h
                            obtain ⟨q64, hq64, h⟩ := bd h
                            refine aw_aload_n eL_law_370 rfl (aw_aload_n eL_law_371 rfl (aw_iload_n eL_law_372 rfl (aw_iconst eL_law_373 k_iconst_1 (aw_iadd eL_law_374 (aw_iald eL_law_375 rfl hc61 (v := X.2 (Int32.toNatClampNeg (x3 + (1 : Int32)))) rfl (aw_callVI (N := mX5_mend) [aI (X.2 (Int32.toNatClampNeg (x3 + (1 : Int32))))] eL_law_376 tw_1_98 miX5_mend (by decide) (by decide) (by decide) rfl rfl (Nat.le_of_ble_eq_true rfl) (A_X5_mend hq62) (aw_aload_n eL_law_379 rfl (aw_aload_n eL_law_380 rfl (aw_iload_n eL_law_381 rfl (aw_iconst eL_law_382 k_iconst_1 (aw_iadd eL_law_383 (aw_iald eL_law_384 rfl hc63 (v := X.2 (Int32.toNatClampNeg (x3 + (1 : Int32)))) rfl (aw_callVI (N := mX6_mend) [aI (X.2 (Int32.toNatClampNeg (x3 + (1 : Int32))))] eL_law_385 tw_2_202 miX6_mend (by decide) (by decide) (by decide) rfl rfl (Nat.le_of_ble_eq_true rfl) (A_X6_mend hq64) (aw_icmp_eq eL_law_388 (fun c65 => ?_) (fun c65 => ?_)))))))))))))))
                            · have h := ip c65 h
                              exact A_L_law_923 (fun h => ih h) h
                            · have h := iq c65 h
                              exact aw_iconst eL_law_391 k_iconst_0 (aw_zret eL_law_392 rfl (by decide +kernel) (pI_i h))
                          · have h := iq c66 h
                            by_cases c70 : t3 = 11
                            · have h := ip c70 h
                              refine aw_tabIn eL_law_32 (by rw [← et3, c70]; decide) (by rw [← et3, c70]; decide) (off := 361) (tgt := 393) (by rw [← et3, c70]; decide) (by decide) ?_
                              obtain ⟨q67, hq67, h⟩ := bd h
                              obtain ⟨q68, hq68, h⟩ := bd h
                              refine aw_aload_n eL_law_393 rfl (aw_callVI (N := mX5_undo) [] eL_law_394 tw_1_106 miX5_undo (by decide) (by decide) (by decide) rfl rfl (Nat.le_of_ble_eq_true rfl) (A_X5_undo hq67) (aw_aload_n eL_law_397 rfl (aw_callVI (N := mX6_undo) [] eL_law_398 tw_2_206 miX6_undo (by decide) (by decide) (by decide) rfl rfl (Nat.le_of_ble_eq_true rfl) (A_X6_undo hq68) (aw_icmp_eq eL_law_401 (fun c69 => ?_) (fun c69 => ?_)))))
                              · have h := ip c69 h
                                exact A_L_law_923 (fun h => ih h) h
                              · have h := iq c69 h
                                exact aw_iconst eL_law_404 k_iconst_0 (aw_zret eL_law_405 rfl (by decide +kernel) (pI_i h))
                            · have h := iq c70 h
                              by_cases c76 : t3 = 12
                              · have h := ip c76 h
                                refine aw_tabIn eL_law_32 (by rw [← et3, c76]; decide) (by rw [← et3, c76]; decide) (off := 374) (tgt := 406) (by rw [← et3, c76]; decide) (by decide) ?_
                                obtain ⟨hc71, h⟩ := ck h
                                obtain ⟨q72, hq72, h⟩ := bd h
                                obtain ⟨hc73, h⟩ := ck h
                                obtain ⟨q74, hq74, h⟩ := bd h
                                refine aw_aload_n eL_law_406 rfl (aw_aload_n eL_law_407 rfl (aw_iload_n eL_law_408 rfl (aw_iconst eL_law_409 k_iconst_1 (aw_iadd eL_law_410 (aw_iald eL_law_411 rfl hc71 (v := X.2 (Int32.toNatClampNeg (x3 + (1 : Int32)))) rfl (aw_callVI (N := mX5_most) [aI (X.2 (Int32.toNatClampNeg (x3 + (1 : Int32))))] eL_law_412 tw_1_114 miX5_most (by decide) (by decide) (by decide) rfl rfl (Nat.le_of_ble_eq_true rfl) (A_X5_most hq72) (aw_aload_n eL_law_415 rfl (aw_aload_n eL_law_416 rfl (aw_iload_n eL_law_417 rfl (aw_iconst eL_law_418 k_iconst_1 (aw_iadd eL_law_419 (aw_iald eL_law_420 rfl hc73 (v := X.2 (Int32.toNatClampNeg (x3 + (1 : Int32)))) rfl (aw_callVI (N := mX6_most) [aI (X.2 (Int32.toNatClampNeg (x3 + (1 : Int32))))] eL_law_421 tw_2_210 miX6_most (by decide) (by decide) (by decide) rfl rfl (Nat.le_of_ble_eq_true rfl) (A_X6_most hq74) (aw_icmp_eq eL_law_424 (fun c75 => ?_) (fun c75 => ?_)))))))))))))))
                                · have h := ip c75 h
                                  exact A_L_law_923 (fun h => ih h) h
                                · have h := iq c75 h
                                  exact aw_iconst eL_law_427 k_iconst_0 (aw_zret eL_law_428 rfl (by decide +kernel) (pI_i h))
                              · have h := iq c76 h
                                by_cases c80 : t3 = 13
                                · have h := ip c80 h
                                  refine aw_tabIn eL_law_32 (by rw [← et3, c80]; decide) (by rw [← et3, c80]; decide) (off := 397) (tgt := 429) (by rw [← et3, c80]; decide) (by decide) ?_
                                  obtain ⟨q77, hq77, h⟩ := bd h
                                  obtain ⟨q78, hq78, h⟩ := bd h
                                  refine aw_aload_n eL_law_429 rfl (aw_callVI (N := mX5_slack) [] eL_law_430 tw_1_148 miX5_slack (by decide) (by decide) (by decide) rfl rfl (Nat.le_of_ble_eq_true rfl) (A_X5_slack hq77) (aw_aload_n eL_law_433 rfl (aw_callVI (N := mX6_slack) [] eL_law_434 tw_3_7 miX6_slack (by decide) (by decide) (by decide) rfl rfl (Nat.le_of_ble_eq_true rfl) (A_X6_slack hq78) (aw_icmp_eq eL_law_437 (fun c79 => ?_) (fun c79 => ?_)))))
                                  · have h := ip c79 h
                                    exact A_L_law_923 (fun h => ih h) h
                                  · have h := iq c79 h
                                    exact aw_iconst eL_law_440 k_iconst_0 (aw_zret eL_law_441 rfl (by decide +kernel) (pI_i h))
                                · have h := iq c80 h
                                  by_cases c97 : t3 = 14
                                  · have h := ip c97 h
                                    refine aw_tabIn eL_law_32 (by rw [← et3, c97]; decide) (by rw [← et3, c97]; decide) (off := 410) (tgt := 442) (by rw [← et3, c97]; decide) (by decide) ?_
                                    obtain ⟨hc81, h⟩ := ck h
                                    refine aw_aload_n eL_law_442 rfl (aw_aload_n eL_law_443 rfl (aw_iload_n eL_law_444 rfl (aw_iconst eL_law_445 k_iconst_1 (aw_iadd eL_law_446 (aw_iald eL_law_447 rfl hc81 (v := X.2 (Int32.toNatClampNeg (x3 + (1 : Int32)))) rfl (aw_if_eq eL_law_448 (fun c82 => ?_) (fun c82 => ?_)))))))
                                    · have h := ip c82 h
                                      obtain ⟨q83, hq83, h⟩ := bd h
                                      obtain ⟨hc84, h⟩ := ck h
                                      refine aw_iconst eL_law_455 k_iconst_0 (aw_callVI (N := mX5_mending) [aI 0] eL_law_456 tw_1_157 miX5_mending (by decide) (by decide) (by decide) rfl rfl (Nat.le_of_ble_eq_true rfl) (A_X5_mending hq83) (aw_aload_n eL_law_459 rfl (aw_aload_n eL_law_460 rfl (aw_iload_n eL_law_461 rfl (aw_iconst eL_law_462 k_iconst_1 (aw_iadd eL_law_463 (aw_iald eL_law_464 rfl hc84 (v := X.2 (Int32.toNatClampNeg (x3 + (1 : Int32)))) rfl (aw_if_eq eL_law_465 (fun c85 => ?_) (fun c85 => ?_)))))))))
                                      · have h := ip c85 h
                                        obtain ⟨q86, hq86, h⟩ := bd h
                                        refine aw_iconst eL_law_472 k_iconst_0 (aw_callVI (N := mX6_mending) [aI 0] eL_law_473 tw_3_11 miX6_mending (by decide) (by decide) (by decide) rfl rfl (Nat.le_of_ble_eq_true rfl) (A_X6_mending hq86) (aw_icmp_eq eL_law_476 (fun c87 => ?_) (fun c87 => ?_)))
                                        · have h := ip c87 h
                                          exact A_L_law_923 (fun h => ih h) h
                                        · have h := iq c87 h
                                          exact aw_iconst eL_law_479 k_iconst_0 (aw_zret eL_law_480 rfl (by decide +kernel) (pI_i h))
                                      · have h := iq c85 h
                                        obtain ⟨q88, hq88, h⟩ := bd h
                                        refine aw_iconst eL_law_468 k_iconst_1 (aw_goto eL_law_469 (aw_callVI (N := mX6_mending) [aI 1] eL_law_473 tw_3_11 miX6_mending (by decide) (by decide) (by decide) rfl rfl (Nat.le_of_ble_eq_true rfl) (A_X6_mending hq88) (aw_icmp_eq eL_law_476 (fun c89 => ?_) (fun c89 => ?_))))
                                        · have h := ip c89 h
                                          exact A_L_law_923 (fun h => ih h) h
                                        · have h := iq c89 h
                                          exact aw_iconst eL_law_479 k_iconst_0 (aw_zret eL_law_480 rfl (by decide +kernel) (pI_i h))
                                    · have h := iq c82 h
                                      obtain ⟨q90, hq90, h⟩ := bd h
                                      obtain ⟨hc91, h⟩ := ck h
                                      refine aw_iconst eL_law_451 k_iconst_1 (aw_goto eL_law_452 (aw_callVI (N := mX5_mending) [aI 1] eL_law_456 tw_1_157 miX5_mending (by decide) (by decide) (by decide) rfl rfl (Nat.le_of_ble_eq_true rfl) (A_X5_mending hq90) (aw_aload_n eL_law_459 rfl (aw_aload_n eL_law_460 rfl (aw_iload_n eL_law_461 rfl (aw_iconst eL_law_462 k_iconst_1 (aw_iadd eL_law_463 (aw_iald eL_law_464 rfl hc91 (v := X.2 (Int32.toNatClampNeg (x3 + (1 : Int32)))) rfl (aw_if_eq eL_law_465 (fun c92 => ?_) (fun c92 => ?_))))))))))
                                      · have h := ip c92 h
                                        obtain ⟨q93, hq93, h⟩ := bd h
                                        refine aw_iconst eL_law_472 k_iconst_0 (aw_callVI (N := mX6_mending) [aI 0] eL_law_473 tw_3_11 miX6_mending (by decide) (by decide) (by decide) rfl rfl (Nat.le_of_ble_eq_true rfl) (A_X6_mending hq93) (aw_icmp_eq eL_law_476 (fun c94 => ?_) (fun c94 => ?_)))
                                        · have h := ip c94 h
                                          exact A_L_law_923 (fun h => ih h) h
                                        · have h := iq c94 h
                                          exact aw_iconst eL_law_479 k_iconst_0 (aw_zret eL_law_480 rfl (by decide +kernel) (pI_i h))
                                      · have h := iq c92 h
                                        obtain ⟨q95, hq95, h⟩ := bd h
                                        refine aw_iconst eL_law_468 k_iconst_1 (aw_goto eL_law_469 (aw_callVI (N := mX6_mending) [aI 1] eL_law_473 tw_3_11 miX6_mending (by decide) (by decide) (by decide) rfl rfl (Nat.le_of_ble_eq_true rfl) (A_X6_mending hq95) (aw_icmp_eq eL_law_476 (fun c96 => ?_) (fun c96 => ?_))))
                                        · have h := ip c96 h
                                          exact A_L_law_923 (fun h => ih h) h
                                        · have h := iq c96 h
                                          exact aw_iconst eL_law_479 k_iconst_0 (aw_zret eL_law_480 rfl (by decide +kernel) (pI_i h))
                                  · have h := iq c97 h
                                    by_cases c105 : t3 = 15
                                    · have h := ip c105 h
                                      refine aw_tabIn eL_law_32 (by rw [← et3, c105]; decide) (by rw [← et3, c105]; decide) (off := 449) (tgt := 481) (by rw [← et3, c105]; decide) (by decide) ?_
                                      obtain ⟨hc98, h⟩ := ck h
                                      obtain ⟨hc99, h⟩ := ck h
                                      obtain ⟨q100, hq100, h⟩ := bd h
                                      obtain ⟨hc101, h⟩ := ck h
                                      obtain ⟨hc102, h⟩ := ck h
                                      obtain ⟨q103, hq103, h⟩ := bd h
                                      refine aw_aload_n eL_law_481 rfl (aw_aload_n eL_law_482 rfl (aw_iload_n eL_law_483 rfl (aw_iconst eL_law_484 k_iconst_1 (aw_iadd eL_law_485 (aw_iald eL_law_486 rfl hc98 (v := X.2 (Int32.toNatClampNeg (x3 + (1 : Int32)))) rfl (aw_aload_n eL_law_487 rfl (aw_iload_n eL_law_488 rfl (aw_iconst eL_law_489 k_iconst_2 (aw_iadd eL_law_490 (aw_iald eL_law_491 rfl hc99 (v := X.2 (Int32.toNatClampNeg (x3 + (2 : Int32)))) rfl (aw_callVI (N := mX5_judge) [aI (X.2 (Int32.toNatClampNeg (x3 + (1 : Int32)))), aI (X.2 (Int32.toNatClampNeg (x3 + (2 : Int32))))] eL_law_492 tw_1_161 miX5_judge (by decide) (by decide) (by decide) rfl rfl (Nat.le_of_ble_eq_true rfl) (A_X5_judge hq100) (aw_aload_n eL_law_495 rfl (aw_aload_n eL_law_496 rfl (aw_iload_n eL_law_497 rfl (aw_iconst eL_law_498 k_iconst_1 (aw_iadd eL_law_499 (aw_iald eL_law_500 rfl hc101 (v := X.2 (Int32.toNatClampNeg (x3 + (1 : Int32)))) rfl (aw_aload_n eL_law_501 rfl (aw_iload_n eL_law_502 rfl (aw_iconst eL_law_503 k_iconst_2 (aw_iadd eL_law_504 (aw_iald eL_law_505 rfl hc102 (v := X.2 (Int32.toNatClampNeg (x3 + (2 : Int32)))) rfl (aw_callVI (N := mX6_judge) [aI (X.2 (Int32.toNatClampNeg (x3 + (1 : Int32)))), aI (X.2 (Int32.toNatClampNeg (x3 + (2 : Int32))))] eL_law_506 tw_3_15 miX6_judge (by decide) (by decide) (by decide) rfl rfl (Nat.le_of_ble_eq_true rfl) (A_X6_judge hq103) (aw_icmp_eq eL_law_509 (fun c104 => ?_) (fun c104 => ?_)))))))))))))))))))))))))
                                      · have h := ip c104 h
                                        exact A_L_law_923 (fun h => ih h) h
                                      · have h := iq c104 h
                                        exact aw_iconst eL_law_512 k_iconst_0 (aw_zret eL_law_513 rfl (by decide +kernel) (pI_i h))
                                    · have h := iq c105 h
                                      by_cases c111 : t3 = 16
                                      · have h := ip c111 h
                                        refine aw_tabIn eL_law_32 (by rw [← et3, c111]; decide) (by rw [← et3, c111]; decide) (off := 482) (tgt := 514) (by rw [← et3, c111]; decide) (by decide) ?_
                                        obtain ⟨hc106, h⟩ := ck h
                                        obtain ⟨q107, hq107, h⟩ := bd h
                                        obtain ⟨hc108, h⟩ := ck h
                                        obtain ⟨q109, hq109, h⟩ := bd h
                                        refine aw_aload_n eL_law_514 rfl (aw_aload_n eL_law_515 rfl (aw_iload_n eL_law_516 rfl (aw_iconst eL_law_517 k_iconst_1 (aw_iadd eL_law_518 (aw_iald eL_law_519 rfl hc106 (v := X.2 (Int32.toNatClampNeg (x3 + (1 : Int32)))) rfl (aw_callVI (N := mX5_later) [aI (X.2 (Int32.toNatClampNeg (x3 + (1 : Int32))))] eL_law_520 tw_1_173 miX5_later (by decide) (by decide) (by decide) rfl rfl (Nat.le_of_ble_eq_true rfl) (A_X5_later hq107) (aw_aload_n eL_law_523 rfl (aw_aload_n eL_law_524 rfl (aw_iload_n eL_law_525 rfl (aw_iconst eL_law_526 k_iconst_1 (aw_iadd eL_law_527 (aw_iald eL_law_528 rfl hc108 (v := X.2 (Int32.toNatClampNeg (x3 + (1 : Int32)))) rfl (aw_callVI (N := mX6_later) [aI (X.2 (Int32.toNatClampNeg (x3 + (1 : Int32))))] eL_law_529 tw_3_23 miX6_later (by decide) (by decide) (by decide) rfl rfl (Nat.le_of_ble_eq_true rfl) (A_X6_later hq109) (aw_icmp_eq eL_law_532 (fun c110 => ?_) (fun c110 => ?_)))))))))))))))
                                        · have h := ip c110 h
                                          exact A_L_law_923 (fun h => ih h) h
                                        · have h := iq c110 h
                                          exact aw_iconst eL_law_535 k_iconst_0 (aw_zret eL_law_536 rfl (by decide +kernel) (pI_i h))
                                      · have h := iq c111 h
                                        by_cases c119 : t3 = 17
                                        · have h := ip c119 h
                                          refine aw_tabIn eL_law_32 (by rw [← et3, c119]; decide) (by rw [← et3, c119]; decide) (off := 505) (tgt := 537) (by rw [← et3, c119]; decide) (by decide) ?_
                                          obtain ⟨hc112, h⟩ := ck h
                                          obtain ⟨hc113, h⟩ := ck h
                                          obtain ⟨q114, hq114, h⟩ := bd h
                                          obtain ⟨hc115, h⟩ := ck h
                                          obtain ⟨hc116, h⟩ := ck h
                                          obtain ⟨q117, hq117, h⟩ := bd h
                                          refine aw_aload_n eL_law_537 rfl (aw_aload_n eL_law_538 rfl (aw_iload_n eL_law_539 rfl (aw_iconst eL_law_540 k_iconst_1 (aw_iadd eL_law_541 (aw_iald eL_law_542 rfl hc112 (v := X.2 (Int32.toNatClampNeg (x3 + (1 : Int32)))) rfl (aw_aload_n eL_law_543 rfl (aw_iload_n eL_law_544 rfl (aw_iconst eL_law_545 k_iconst_2 (aw_iadd eL_law_546 (aw_iald eL_law_547 rfl hc113 (v := X.2 (Int32.toNatClampNeg (x3 + (2 : Int32)))) rfl (aw_callVI (N := mX5_see) [aI (X.2 (Int32.toNatClampNeg (x3 + (1 : Int32)))), aI (X.2 (Int32.toNatClampNeg (x3 + (2 : Int32))))] eL_law_548 tw_1_178 miX5_see (by decide) (by decide) (by decide) rfl rfl (Nat.le_of_ble_eq_true rfl) (A_X5_see hq114) (aw_aload_n eL_law_551 rfl (aw_aload_n eL_law_552 rfl (aw_iload_n eL_law_553 rfl (aw_iconst eL_law_554 k_iconst_1 (aw_iadd eL_law_555 (aw_iald eL_law_556 rfl hc115 (v := X.2 (Int32.toNatClampNeg (x3 + (1 : Int32)))) rfl (aw_aload_n eL_law_557 rfl (aw_iload_n eL_law_558 rfl (aw_iconst eL_law_559 k_iconst_2 (aw_iadd eL_law_560 (aw_iald eL_law_561 rfl hc116 (v := X.2 (Int32.toNatClampNeg (x3 + (2 : Int32)))) rfl (aw_callVI (N := mX6_see) [aI (X.2 (Int32.toNatClampNeg (x3 + (1 : Int32)))), aI (X.2 (Int32.toNatClampNeg (x3 + (2 : Int32))))] eL_law_562 tw_3_27 miX6_see (by decide) (by decide) (by decide) rfl rfl (Nat.le_of_ble_eq_true rfl) (A_X6_see hq117) (aw_icmp_eq eL_law_565 (fun c118 => ?_) (fun c118 => ?_)))))))))))))))))))))))))
                                          · have h := ip c118 h
                                            exact A_L_law_923 (fun h => ih h) h
                                          · have h := iq c118 h
                                            exact aw_iconst eL_law_568 k_iconst_0 (aw_zret eL_law_569 rfl (by decide +kernel) (pI_i h))
                                        · have h := iq c119 h
                                          by_cases c123 : t3 = 18
                                          · have h := ip c123 h
                                            refine aw_tabIn eL_law_32 (by rw [← et3, c123]; decide) (by rw [← et3, c123]; decide) (off := 538) (tgt := 570) (by rw [← et3, c123]; decide) (by decide) ?_
                                            obtain ⟨q120, hq120, h⟩ := bd h
                                            obtain ⟨q121, hq121, h⟩ := bd h
                                            refine aw_aload_n eL_law_570 rfl (aw_callVI (N := mX5_unsee) [] eL_law_571 tw_1_182 miX5_unsee (by decide) (by decide) (by decide) rfl rfl (Nat.le_of_ble_eq_true rfl) (A_X5_unsee hq120) (aw_aload_n eL_law_574 rfl (aw_callVI (N := mX6_unsee) [] eL_law_575 tw_3_31 miX6_unsee (by decide) (by decide) (by decide) rfl rfl (Nat.le_of_ble_eq_true rfl) (A_X6_unsee hq121) (aw_icmp_eq eL_law_578 (fun c122 => ?_) (fun c122 => ?_)))))
                                            · have h := ip c122 h
                                              exact A_L_law_923 (fun h => ih h) h
                                            · have h := iq c122 h
                                              exact aw_iconst eL_law_581 k_iconst_0 (aw_zret eL_law_582 rfl (by decide +kernel) (pI_i h))
                                          · have h := iq c123 h
                                            by_cases c131 : t3 = 19
                                            · have h := ip c131 h
                                              refine aw_tabIn eL_law_32 (by rw [← et3, c131]; decide) (by rw [← et3, c131]; decide) (off := 551) (tgt := 583) (by rw [← et3, c131]; decide) (by decide) ?_
                                              obtain ⟨hc124, h⟩ := ck h
                                              obtain ⟨hc125, h⟩ := ck h
                                              obtain ⟨q126, hq126, h⟩ := bd h
                                              obtain ⟨hc127, h⟩ := ck h
                                              obtain ⟨hc128, h⟩ := ck h
                                              obtain ⟨q129, hq129, h⟩ := bd h
                                              refine aw_aload_n eL_law_583 rfl (aw_aload_n eL_law_584 rfl (aw_iload_n eL_law_585 rfl (aw_iconst eL_law_586 k_iconst_1 (aw_iadd eL_law_587 (aw_iald eL_law_588 rfl hc124 (v := X.2 (Int32.toNatClampNeg (x3 + (1 : Int32)))) rfl (aw_aload_n eL_law_589 rfl (aw_iload_n eL_law_590 rfl (aw_iconst eL_law_591 k_iconst_2 (aw_iadd eL_law_592 (aw_iald eL_law_593 rfl hc125 (v := X.2 (Int32.toNatClampNeg (x3 + (2 : Int32)))) rfl (aw_callVI (N := mX5_rows) [aI (X.2 (Int32.toNatClampNeg (x3 + (1 : Int32)))), aI (X.2 (Int32.toNatClampNeg (x3 + (2 : Int32))))] eL_law_594 tw_1_186 miX5_rows (by decide) (by decide) (by decide) rfl rfl (Nat.le_of_ble_eq_true rfl) (A_X5_rows hq126) (aw_aload_n eL_law_597 rfl (aw_aload_n eL_law_598 rfl (aw_iload_n eL_law_599 rfl (aw_iconst eL_law_600 k_iconst_1 (aw_iadd eL_law_601 (aw_iald eL_law_602 rfl hc127 (v := X.2 (Int32.toNatClampNeg (x3 + (1 : Int32)))) rfl (aw_aload_n eL_law_603 rfl (aw_iload_n eL_law_604 rfl (aw_iconst eL_law_605 k_iconst_2 (aw_iadd eL_law_606 (aw_iald eL_law_607 rfl hc128 (v := X.2 (Int32.toNatClampNeg (x3 + (2 : Int32)))) rfl (aw_callVI (N := mX6_rows) [aI (X.2 (Int32.toNatClampNeg (x3 + (1 : Int32)))), aI (X.2 (Int32.toNatClampNeg (x3 + (2 : Int32))))] eL_law_608 tw_3_35 miX6_rows (by decide) (by decide) (by decide) rfl rfl (Nat.le_of_ble_eq_true rfl) (A_X6_rows hq129) (aw_icmp_eq eL_law_611 (fun c130 => ?_) (fun c130 => ?_)))))))))))))))))))))))))
                                              · have h := ip c130 h
                                                exact A_L_law_923 (fun h => ih h) h
                                              · have h := iq c130 h
                                                exact aw_iconst eL_law_614 k_iconst_0 (aw_zret eL_law_615 rfl (by decide +kernel) (pI_i h))
                                            · have h := iq c131 h
                                              by_cases c151 : t3 = 20
                                              · have h := ip c151 h
                                                refine aw_tabIn eL_law_32 (by rw [← et3, c151]; decide) (by rw [← et3, c151]; decide) (off := 584) (tgt := 616) (by rw [← et3, c151]; decide) (by decide) ?_
                                                obtain ⟨hc132, h⟩ := ck h
                                                obtain ⟨hc133, h⟩ := ck h
                                                refine aw_aload_n eL_law_616 rfl (aw_aload_n eL_law_617 rfl (aw_iload_n eL_law_618 rfl (aw_iconst eL_law_619 k_iconst_1 (aw_iadd eL_law_620 (aw_iald eL_law_621 rfl hc132 (v := X.2 (Int32.toNatClampNeg (x3 + (1 : Int32)))) rfl (aw_aload_n eL_law_622 rfl (aw_iload_n eL_law_623 rfl (aw_iconst eL_law_624 k_iconst_2 (aw_iadd eL_law_625 (aw_iald eL_law_626 rfl hc133 (v := X.2 (Int32.toNatClampNeg (x3 + (2 : Int32)))) rfl (aw_if_eq eL_law_627 (fun c134 => ?_) (fun c134 => ?_))))))))))))
                                                · have h := ip c134 h
                                                  obtain ⟨q135, hq135, h⟩ := bd h
                                                  obtain ⟨hc136, h⟩ := ck h
                                                  obtain ⟨hc137, h⟩ := ck h
                                                  refine aw_iconst eL_law_634 k_iconst_0 (aw_callVI (N := mX5_share) [aI (X.2 (Int32.toNatClampNeg (x3 + (1 : Int32)))), aI 0] eL_law_635 tw_1_200 miX5_share (by decide) (by decide) (by decide) rfl rfl (Nat.le_of_ble_eq_true rfl) (A_X5_share hq135) (aw_aload_n eL_law_638 rfl (aw_aload_n eL_law_639 rfl (aw_iload_n eL_law_640 rfl (aw_iconst eL_law_641 k_iconst_1 (aw_iadd eL_law_642 (aw_iald eL_law_643 rfl hc136 (v := X.2 (Int32.toNatClampNeg (x3 + (1 : Int32)))) rfl (aw_aload_n eL_law_644 rfl (aw_iload_n eL_law_645 rfl (aw_iconst eL_law_646 k_iconst_2 (aw_iadd eL_law_647 (aw_iald eL_law_648 rfl hc137 (v := X.2 (Int32.toNatClampNeg (x3 + (2 : Int32)))) rfl (aw_if_eq eL_law_649 (fun c138 => ?_) (fun c138 => ?_))))))))))))))
                                                  · have h := ip c138 h
                                                    obtain ⟨q139, hq139, h⟩ := bd h
                                                    refine aw_iconst eL_law_656 k_iconst_0 (aw_callVI (N := mX6_share) [aI (X.2 (Int32.toNatClampNeg (x3 + (1 : Int32)))), aI 0] eL_law_657 tw_3_50 miX6_share (by decide) (by decide) (by decide) rfl rfl (Nat.le_of_ble_eq_true rfl) (A_X6_share hq139) (aw_icmp_eq eL_law_660 (fun c140 => ?_) (fun c140 => ?_)))
                                                    · have h := ip c140 h
                                                      exact A_L_law_923 (fun h => ih h) h
                                                    · have h := iq c140 h
                                                      exact aw_iconst eL_law_663 k_iconst_0 (aw_zret eL_law_664 rfl (by decide +kernel) (pI_i h))
                                                  · have h := iq c138 h
                                                    obtain ⟨q141, hq141, h⟩ := bd h
                                                    refine aw_iconst eL_law_652 k_iconst_1 (aw_goto eL_law_653 (aw_callVI (N := mX6_share) [aI (X.2 (Int32.toNatClampNeg (x3 + (1 : Int32)))), aI 1] eL_law_657 tw_3_50 miX6_share (by decide) (by decide) (by decide) rfl rfl (Nat.le_of_ble_eq_true rfl) (A_X6_share hq141) (aw_icmp_eq eL_law_660 (fun c142 => ?_) (fun c142 => ?_))))
                                                    · have h := ip c142 h
                                                      exact A_L_law_923 (fun h => ih h) h
                                                    · have h := iq c142 h
                                                      exact aw_iconst eL_law_663 k_iconst_0 (aw_zret eL_law_664 rfl (by decide +kernel) (pI_i h))
                                                · have h := iq c134 h
                                                  obtain ⟨q143, hq143, h⟩ := bd h
                                                  obtain ⟨hc144, h⟩ := ck h
                                                  obtain ⟨hc145, h⟩ := ck h
                                                  refine aw_iconst eL_law_630 k_iconst_1 (aw_goto eL_law_631 (aw_callVI (N := mX5_share) [aI (X.2 (Int32.toNatClampNeg (x3 + (1 : Int32)))), aI 1] eL_law_635 tw_1_200 miX5_share (by decide) (by decide) (by decide) rfl rfl (Nat.le_of_ble_eq_true rfl) (A_X5_share hq143) (aw_aload_n eL_law_638 rfl (aw_aload_n eL_law_639 rfl (aw_iload_n eL_law_640 rfl (aw_iconst eL_law_641 k_iconst_1 (aw_iadd eL_law_642 (aw_iald eL_law_643 rfl hc144 (v := X.2 (Int32.toNatClampNeg (x3 + (1 : Int32)))) rfl (aw_aload_n eL_law_644 rfl (aw_iload_n eL_law_645 rfl (aw_iconst eL_law_646 k_iconst_2 (aw_iadd eL_law_647 (aw_iald eL_law_648 rfl hc145 (v := X.2 (Int32.toNatClampNeg (x3 + (2 : Int32)))) rfl (aw_if_eq eL_law_649 (fun c146 => ?_) (fun c146 => ?_)))))))))))))))
                                                  · have h := ip c146 h
                                                    obtain ⟨q147, hq147, h⟩ := bd h
                                                    refine aw_iconst eL_law_656 k_iconst_0 (aw_callVI (N := mX6_share) [aI (X.2 (Int32.toNatClampNeg (x3 + (1 : Int32)))), aI 0] eL_law_657 tw_3_50 miX6_share (by decide) (by decide) (by decide) rfl rfl (Nat.le_of_ble_eq_true rfl) (A_X6_share hq147) (aw_icmp_eq eL_law_660 (fun c148 => ?_) (fun c148 => ?_)))
                                                    · have h := ip c148 h
                                                      exact A_L_law_923 (fun h => ih h) h
                                                    · have h := iq c148 h
                                                      exact aw_iconst eL_law_663 k_iconst_0 (aw_zret eL_law_664 rfl (by decide +kernel) (pI_i h))
                                                  · have h := iq c146 h
                                                    obtain ⟨q149, hq149, h⟩ := bd h
                                                    refine aw_iconst eL_law_652 k_iconst_1 (aw_goto eL_law_653 (aw_callVI (N := mX6_share) [aI (X.2 (Int32.toNatClampNeg (x3 + (1 : Int32)))), aI 1] eL_law_657 tw_3_50 miX6_share (by decide) (by decide) (by decide) rfl rfl (Nat.le_of_ble_eq_true rfl) (A_X6_share hq149) (aw_icmp_eq eL_law_660 (fun c150 => ?_) (fun c150 => ?_))))
                                                    · have h := ip c150 h
                                                      exact A_L_law_923 (fun h => ih h) h
                                                    · have h := iq c150 h
                                                      exact aw_iconst eL_law_663 k_iconst_0 (aw_zret eL_law_664 rfl (by decide +kernel) (pI_i h))
                                              · have h := iq c151 h
                                                by_cases c161 : t3 = 21
                                                · have h := ip c161 h
                                                  refine aw_tabIn eL_law_32 (by rw [← et3, c161]; decide) (by rw [← et3, c161]; decide) (off := 633) (tgt := 665) (by rw [← et3, c161]; decide) (by decide) ?_
                                                  obtain ⟨hc152, h⟩ := ck h
                                                  obtain ⟨hc153, h⟩ := ck h
                                                  obtain ⟨hc154, h⟩ := ck h
                                                  obtain ⟨q155, hq155, h⟩ := bd h
                                                  obtain ⟨hc156, h⟩ := ck h
                                                  obtain ⟨hc157, h⟩ := ck h
                                                  obtain ⟨hc158, h⟩ := ck h
                                                  obtain ⟨q159, hq159, h⟩ := bd h
                                                  refine aw_aload_n eL_law_665 rfl (aw_aload_n eL_law_666 rfl (aw_iload_n eL_law_667 rfl (aw_iconst eL_law_668 k_iconst_1 (aw_iadd eL_law_669 (aw_iald eL_law_670 rfl hc152 (v := X.2 (Int32.toNatClampNeg (x3 + (1 : Int32)))) rfl (aw_aload_n eL_law_671 rfl (aw_iload_n eL_law_672 rfl (aw_iconst eL_law_673 k_iconst_2 (aw_iadd eL_law_674 (aw_iald eL_law_675 rfl hc153 (v := X.2 (Int32.toNatClampNeg (x3 + (2 : Int32)))) rfl (aw_aload_n eL_law_676 rfl (aw_iload_n eL_law_677 rfl (aw_iconst eL_law_678 k_iconst_3 (aw_iadd eL_law_679 (aw_iald eL_law_680 rfl hc154 (v := X.2 (Int32.toNatClampNeg (x3 + (3 : Int32)))) rfl (aw_callVI (N := mX5_rests) [aI (X.2 (Int32.toNatClampNeg (x3 + (1 : Int32)))), aI (X.2 (Int32.toNatClampNeg (x3 + (2 : Int32)))), aI (X.2 (Int32.toNatClampNeg (x3 + (3 : Int32))))] eL_law_681 tw_1_223 miX5_rests (by decide) (by decide) (by decide) rfl rfl (Nat.le_of_ble_eq_true rfl) (A_X5_rests hq155) (aw_aload_n eL_law_684 rfl (aw_aload_n eL_law_685 rfl (aw_iload_n eL_law_686 rfl (aw_iconst eL_law_687 k_iconst_1 (aw_iadd eL_law_688 (aw_iald eL_law_689 rfl hc156 (v := X.2 (Int32.toNatClampNeg (x3 + (1 : Int32)))) rfl (aw_aload_n eL_law_690 rfl (aw_iload_n eL_law_691 rfl (aw_iconst eL_law_692 k_iconst_2 (aw_iadd eL_law_693 (aw_iald eL_law_694 rfl hc157 (v := X.2 (Int32.toNatClampNeg (x3 + (2 : Int32)))) rfl (aw_aload_n eL_law_695 rfl (aw_iload_n eL_law_696 rfl (aw_iconst eL_law_697 k_iconst_3 (aw_iadd eL_law_698 (aw_iald eL_law_699 rfl hc158 (v := X.2 (Int32.toNatClampNeg (x3 + (3 : Int32)))) rfl (aw_callVI (N := mX6_rests) [aI (X.2 (Int32.toNatClampNeg (x3 + (1 : Int32)))), aI (X.2 (Int32.toNatClampNeg (x3 + (2 : Int32)))), aI (X.2 (Int32.toNatClampNeg (x3 + (3 : Int32))))] eL_law_700 tw_3_60 miX6_rests (by decide) (by decide) (by decide) rfl rfl (Nat.le_of_ble_eq_true rfl) (A_X6_rests hq159) (aw_icmp_eq eL_law_703 (fun c160 => ?_) (fun c160 => ?_)))))))))))))))))))))))))))))))))))
                                                  · have h := ip c160 h
                                                    exact A_L_law_923 (fun h => ih h) h
                                                  · have h := iq c160 h
                                                    exact aw_iconst eL_law_706 k_iconst_0 (aw_zret eL_law_707 rfl (by decide +kernel) (pI_i h))
                                                · have h := iq c161 h
                                                  by_cases c177 : t3 = 22
                                                  · have h := ip c177 h
                                                    refine aw_tabIn eL_law_32 (by rw [← et3, c177]; decide) (by rw [← et3, c177]; decide) (off := 676) (tgt := 708) (by rw [← et3, c177]; decide) (by decide) ?_
                                                    obtain ⟨hc162, h⟩ := ck h
                                                    obtain ⟨hc163, h⟩ := ck h
                                                    obtain ⟨hc164, h⟩ := ck h
                                                    obtain ⟨hc165, h⟩ := ck h
                                                    refine aw_aload_n eL_law_708 rfl (aw_aload_n eL_law_709 rfl (aw_iload_n eL_law_710 rfl (aw_iconst eL_law_711 k_iconst_1 (aw_iadd eL_law_712 (aw_iald eL_law_713 rfl hc162 (v := X.2 (Int32.toNatClampNeg (x3 + (1 : Int32)))) rfl (aw_aload_n eL_law_714 rfl (aw_iload_n eL_law_715 rfl (aw_iconst eL_law_716 k_iconst_2 (aw_iadd eL_law_717 (aw_iald eL_law_718 rfl hc163 (v := X.2 (Int32.toNatClampNeg (x3 + (2 : Int32)))) rfl (aw_aload_n eL_law_719 rfl (aw_iload_n eL_law_720 rfl (aw_iconst eL_law_721 k_iconst_3 (aw_iadd eL_law_722 (aw_iald eL_law_723 rfl hc164 (v := X.2 (Int32.toNatClampNeg (x3 + (3 : Int32)))) rfl (aw_aload_n eL_law_724 rfl (aw_iload_n eL_law_725 rfl (aw_iconst eL_law_726 k_iconst_4 (aw_iadd eL_law_727 (aw_iald eL_law_728 rfl hc165 (v := X.2 (Int32.toNatClampNeg (x3 + (4 : Int32)))) rfl (aw_if_eq eL_law_729 (fun c166 => ?_) (fun c166 => ?_))))))))))))))))))))))
                                                    · have h := ip c166 h
                                                      refine aw_iconst eL_law_736 k_iconst_0 ?_
                                                      exact A_L_law_737 (fun h => ih h) h
                                                    · have h := iq c166 h
                                                      refine aw_iconst eL_law_732 k_iconst_1 (aw_goto eL_law_733 ?_)
                                                      exact A_L_law_737 (fun h => ih h) h
                                                  · have h := iq c177 h
                                                    by_cases c185 : t3 = 23
                                                    · have h := ip c185 h
                                                      refine aw_tabIn eL_law_32 (by rw [← et3, c185]; decide) (by rw [← et3, c185]; decide) (off := 745) (tgt := 777) (by rw [← et3, c185]; decide) (by decide) ?_
                                                      obtain ⟨hc178, h⟩ := ck h
                                                      obtain ⟨hc179, h⟩ := ck h
                                                      obtain ⟨q180, hq180, h⟩ := bd h
                                                      obtain ⟨hc181, h⟩ := ck h
                                                      obtain ⟨hc182, h⟩ := ck h
                                                      obtain ⟨q183, hq183, h⟩ := bd h
                                                      refine aw_aload_n eL_law_777 rfl (aw_aload_n eL_law_778 rfl (aw_iload_n eL_law_779 rfl (aw_iconst eL_law_780 k_iconst_1 (aw_iadd eL_law_781 (aw_iald eL_law_782 rfl hc178 (v := X.2 (Int32.toNatClampNeg (x3 + (1 : Int32)))) rfl (aw_i2l eL_law_783 (aw_bipush eL_law_784 k_bipush_32 (aw_lshl eL_law_786 (aw_aload_n eL_law_787 rfl (aw_iload_n eL_law_788 rfl (aw_iconst eL_law_789 k_iconst_2 (aw_iadd eL_law_790 (aw_iald eL_law_791 rfl hc179 (v := X.2 (Int32.toNatClampNeg (x3 + (2 : Int32)))) rfl (aw_i2l eL_law_792 (aw_ldc2 eL_law_793 tw_3_120 (aw_land eL_law_796 (aw_lor eL_law_797 (aw_callVL (N := mX5_seed) [aL (((Int32.toInt64 (X.2 (Int32.toNatClampNeg (x3 + (1 : Int32))))) <<< (Int32.toInt64 (32 : Int32) &&& 63)) ||| ((Int32.toInt64 (X.2 (Int32.toNatClampNeg (x3 + (2 : Int32))))) &&& (4294967295 : Int64)))] eL_law_798 tw_2_11 miX5_seed (by decide) (by decide) (by decide) rfl rfl (Nat.le_of_ble_eq_true rfl) (A_X5_seed hq180) (aw_aload_n eL_law_801 rfl (aw_aload_n eL_law_802 rfl (aw_iload_n eL_law_803 rfl (aw_iconst eL_law_804 k_iconst_1 (aw_iadd eL_law_805 (aw_iald eL_law_806 rfl hc181 (v := X.2 (Int32.toNatClampNeg (x3 + (1 : Int32)))) rfl (aw_i2l eL_law_807 (aw_bipush eL_law_808 k_bipush_32 (aw_lshl eL_law_810 (aw_aload_n eL_law_811 rfl (aw_iload_n eL_law_812 rfl (aw_iconst eL_law_813 k_iconst_2 (aw_iadd eL_law_814 (aw_iald eL_law_815 rfl hc182 (v := X.2 (Int32.toNatClampNeg (x3 + (2 : Int32)))) rfl (aw_i2l eL_law_816 (aw_ldc2 eL_law_817 tw_3_120 (aw_land eL_law_820 (aw_lor eL_law_821 (aw_callVL (N := mX6_seed) [aL (((Int32.toInt64 (X.2 (Int32.toNatClampNeg (x3 + (1 : Int32))))) <<< (Int32.toInt64 (32 : Int32) &&& 63)) ||| ((Int32.toInt64 (X.2 (Int32.toNatClampNeg (x3 + (2 : Int32))))) &&& (4294967295 : Int64)))] eL_law_822 tw_3_96 miX6_seed (by decide) (by decide) (by decide) rfl rfl (Nat.le_of_ble_eq_true rfl) (A_X6_seed hq183) (aw_lcmp eL_law_825 (aw_if_eq eL_law_826 (fun c184 => ?_) (fun c184 => ?_))))))))))))))))))))))))))))))))))))))))
                                                      · have h := ip c184 h
                                                        exact A_L_law_923 (fun h => ih h) h
                                                      · have h := iq c184 h
                                                        exact aw_iconst eL_law_829 k_iconst_0 (aw_zret eL_law_830 rfl (by decide +kernel) (pI_i h))
                                                    · have h := iq c185 h
                                                      by_cases c191 : t3 = 24
                                                      · have h := ip c191 h
                                                        refine aw_tabIn eL_law_32 (by rw [← et3, c191]; decide) (by rw [← et3, c191]; decide) (off := 799) (tgt := 831) (by rw [← et3, c191]; decide) (by decide) ?_
                                                        obtain ⟨hc186, h⟩ := ck h
                                                        obtain ⟨q187, hq187, h⟩ := bd h
                                                        obtain ⟨hc188, h⟩ := ck h
                                                        obtain ⟨q189, hq189, h⟩ := bd h
                                                        refine aw_aload_n eL_law_831 rfl (aw_aload_n eL_law_832 rfl (aw_iload_n eL_law_833 rfl (aw_iconst eL_law_834 k_iconst_1 (aw_iadd eL_law_835 (aw_iald eL_law_836 rfl hc186 (v := X.2 (Int32.toNatClampNeg (x3 + (1 : Int32)))) rfl (aw_callVI (N := mX5_summers) [aI (X.2 (Int32.toNatClampNeg (x3 + (1 : Int32))))] eL_law_837 tw_2_15 miX5_summers (by decide) (by decide) (by decide) rfl rfl (Nat.le_of_ble_eq_true rfl) (A_X5_summers hq187) (aw_aload_n eL_law_840 rfl (aw_aload_n eL_law_841 rfl (aw_iload_n eL_law_842 rfl (aw_iconst eL_law_843 k_iconst_1 (aw_iadd eL_law_844 (aw_iald eL_law_845 rfl hc188 (v := X.2 (Int32.toNatClampNeg (x3 + (1 : Int32)))) rfl (aw_callVI (N := mX6_summers) [aI (X.2 (Int32.toNatClampNeg (x3 + (1 : Int32))))] eL_law_846 tw_3_100 miX6_summers (by decide) (by decide) (by decide) rfl rfl (Nat.le_of_ble_eq_true rfl) (A_X6_summers hq189) (aw_icmp_eq eL_law_849 (fun c190 => ?_) (fun c190 => ?_)))))))))))))))
                                                        · have h := ip c190 h
                                                          exact A_L_law_923 (fun h => ih h) h
                                                        · have h := iq c190 h
                                                          exact aw_iconst eL_law_852 k_iconst_0 (aw_zret eL_law_853 rfl (by decide +kernel) (pI_i h))
                                                      · have h := iq c191 h
                                                        by_cases c197 : t3 = 25
                                                        · have h := ip c197 h
                                                          refine aw_tabIn eL_law_32 (by rw [← et3, c197]; decide) (by rw [← et3, c197]; decide) (off := 822) (tgt := 854) (by rw [← et3, c197]; decide) (by decide) ?_
                                                          obtain ⟨hc192, h⟩ := ck h
                                                          obtain ⟨q193, hq193, h⟩ := bd h
                                                          obtain ⟨hc194, h⟩ := ck h
                                                          obtain ⟨q195, hq195, h⟩ := bd h
                                                          refine aw_aload_n eL_law_854 rfl (aw_aload_n eL_law_855 rfl (aw_iload_n eL_law_856 rfl (aw_iconst eL_law_857 k_iconst_1 (aw_iadd eL_law_858 (aw_iald eL_law_859 rfl hc192 (v := X.2 (Int32.toNatClampNeg (x3 + (1 : Int32)))) rfl (aw_callVI (N := mX5_keep) [aI (X.2 (Int32.toNatClampNeg (x3 + (1 : Int32))))] eL_law_860 tw_2_21 miX5_keep (by decide) (by decide) (by decide) rfl rfl (Nat.le_of_ble_eq_true rfl) (A_X5_keep hq193) (aw_aload_n eL_law_863 rfl (aw_aload_n eL_law_864 rfl (aw_iload_n eL_law_865 rfl (aw_iconst eL_law_866 k_iconst_1 (aw_iadd eL_law_867 (aw_iald eL_law_868 rfl hc194 (v := X.2 (Int32.toNatClampNeg (x3 + (1 : Int32)))) rfl (aw_callVI (N := mX6_keep) [aI (X.2 (Int32.toNatClampNeg (x3 + (1 : Int32))))] eL_law_869 tw_3_108 miX6_keep (by decide) (by decide) (by decide) rfl rfl (Nat.le_of_ble_eq_true rfl) (A_X6_keep hq195) (aw_icmp_eq eL_law_872 (fun c196 => ?_) (fun c196 => ?_)))))))))))))))
                                                          · have h := ip c196 h
                                                            exact A_L_law_923 (fun h => ih h) h
                                                          · have h := iq c196 h
                                                            exact aw_iconst eL_law_875 k_iconst_0 (aw_zret eL_law_876 rfl (by decide +kernel) (pI_i h))
                                                        · have h := iq c197 h
                                                          by_cases c203 : t3 = 26
                                                          · have h := ip c203 h
                                                            refine aw_tabIn eL_law_32 (by rw [← et3, c203]; decide) (by rw [← et3, c203]; decide) (off := 845) (tgt := 877) (by rw [← et3, c203]; decide) (by decide) ?_
                                                            obtain ⟨hc198, h⟩ := ck h
                                                            obtain ⟨q199, hq199, h⟩ := bd h
                                                            obtain ⟨hc200, h⟩ := ck h
                                                            obtain ⟨q201, hq201, h⟩ := bd h
                                                            refine aw_aload_n eL_law_877 rfl (aw_aload_n eL_law_878 rfl (aw_iload_n eL_law_879 rfl (aw_iconst eL_law_880 k_iconst_1 (aw_iadd eL_law_881 (aw_iald eL_law_882 rfl hc198 (v := X.2 (Int32.toNatClampNeg (x3 + (1 : Int32)))) rfl (aw_callVI (N := mX5_again) [aI (X.2 (Int32.toNatClampNeg (x3 + (1 : Int32))))] eL_law_883 tw_2_29 miX5_again (by decide) (by decide) (by decide) rfl rfl (Nat.le_of_ble_eq_true rfl) (A_X5_again hq199) (aw_aload_n eL_law_886 rfl (aw_aload_n eL_law_887 rfl (aw_iload_n eL_law_888 rfl (aw_iconst eL_law_889 k_iconst_1 (aw_iadd eL_law_890 (aw_iald eL_law_891 rfl hc200 (v := X.2 (Int32.toNatClampNeg (x3 + (1 : Int32)))) rfl (aw_callVI (N := mX6_again) [aI (X.2 (Int32.toNatClampNeg (x3 + (1 : Int32))))] eL_law_892 tw_3_112 miX6_again (by decide) (by decide) (by decide) rfl rfl (Nat.le_of_ble_eq_true rfl) (A_X6_again hq201) (aw_icmp_eq eL_law_895 (fun c202 => ?_) (fun c202 => ?_)))))))))))))))
                                                            · have h := ip c202 h
                                                              exact A_L_law_923 (fun h => ih h) h
                                                            · have h := iq c202 h
                                                              exact aw_iconst eL_law_898 k_iconst_0 (aw_zret eL_law_899 rfl (by decide +kernel) (pI_i h))
                                                          · have h := iq c203 h
                                                            by_cases c209 : t3 = 27
                                                            · have h := ip c209 h
                                                              refine aw_tabIn eL_law_32 (by rw [← et3, c209]; decide) (by rw [← et3, c209]; decide) (off := 868) (tgt := 900) (by rw [← et3, c209]; decide) (by decide) ?_
                                                              obtain ⟨hc204, h⟩ := ck h
                                                              obtain ⟨q205, hq205, h⟩ := bd h
                                                              obtain ⟨hc206, h⟩ := ck h
                                                              obtain ⟨q207, hq207, h⟩ := bd h
                                                              refine aw_aload_n eL_law_900 rfl (aw_aload_n eL_law_901 rfl (aw_iload_n eL_law_902 rfl (aw_iconst eL_law_903 k_iconst_1 (aw_iadd eL_law_904 (aw_iald eL_law_905 rfl hc204 (v := X.2 (Int32.toNatClampNeg (x3 + (1 : Int32)))) rfl (aw_callVI (N := mX5_count) [aI (X.2 (Int32.toNatClampNeg (x3 + (1 : Int32))))] eL_law_906 tw_2_33 miX5_count (by decide) (by decide) (by decide) rfl rfl (Nat.le_of_ble_eq_true rfl) (A_X5_count hq205) (aw_aload_n eL_law_909 rfl (aw_aload_n eL_law_910 rfl (aw_iload_n eL_law_911 rfl (aw_iconst eL_law_912 k_iconst_1 (aw_iadd eL_law_913 (aw_iald eL_law_914 rfl hc206 (v := X.2 (Int32.toNatClampNeg (x3 + (1 : Int32)))) rfl (aw_callVI (N := mX6_count) [aI (X.2 (Int32.toNatClampNeg (x3 + (1 : Int32))))] eL_law_915 tw_3_116 miX6_count (by decide) (by decide) (by decide) rfl rfl (Nat.le_of_ble_eq_true rfl) (A_X6_count hq207) (aw_icmp_eq eL_law_918 (fun c208 => ?_) (fun c208 => ?_)))))))))))))))
                                                              · have h := ip c208 h
                                                                exact A_L_law_923 (fun h => ih h) h
                                                              · have h := iq c208 h
                                                                exact aw_iconst eL_law_921 k_iconst_0 (aw_zret eL_law_922 rfl (by decide +kernel) (pI_i h))
                                                            · have h := iq c209 h
                                                              have hto : t3.toInt < 0 ∨ 27 < t3.toInt := tab_out (fun c h1 h2 => by
                                                                have hcc : c = 0 ∨ c = 1 ∨ c = 2 ∨ c = 3 ∨ c = 4 ∨ c = 5 ∨ c = 6 ∨ c = 7 ∨ c = 8 ∨ c = 9 ∨ c = 10 ∨ c = 11 ∨ c = 12 ∨ c = 13 ∨ c = 14 ∨ c = 15 ∨ c = 16 ∨ c = 17 ∨ c = 18 ∨ c = 19 ∨ c = 20 ∨ c = 21 ∨ c = 22 ∨ c = 23 ∨ c = 24 ∨ c = 25 ∨ c = 26 ∨ c = 27 := by omega
                                                                rcases hcc with rfl | rfl | rfl | rfl | rfl | rfl | rfl | rfl | rfl | rfl | rfl | rfl | rfl | rfl | rfl | rfl | rfl | rfl | rfl | rfl | rfl | rfl | rfl | rfl | rfl | rfl | rfl | rfl
                                                                · exact fun z => c10 (z.trans (by decide))
                                                                · exact fun z => c14 (z.trans (by decide))
                                                                · exact fun z => c18 (z.trans (by decide))
                                                                · exact fun z => c22 (z.trans (by decide))
                                                                · exact fun z => c30 (z.trans (by decide))
                                                                · exact fun z => c36 (z.trans (by decide))
                                                                · exact fun z => c44 (z.trans (by decide))
                                                                · exact fun z => c50 (z.trans (by decide))
                                                                · exact fun z => c56 (z.trans (by decide))
                                                                · exact fun z => c60 (z.trans (by decide))
                                                                · exact fun z => c66 (z.trans (by decide))
                                                                · exact fun z => c70 (z.trans (by decide))
                                                                · exact fun z => c76 (z.trans (by decide))
                                                                · exact fun z => c80 (z.trans (by decide))
                                                                · exact fun z => c97 (z.trans (by decide))
                                                                · exact fun z => c105 (z.trans (by decide))
                                                                · exact fun z => c111 (z.trans (by decide))
                                                                · exact fun z => c119 (z.trans (by decide))
                                                                · exact fun z => c123 (z.trans (by decide))
                                                                · exact fun z => c131 (z.trans (by decide))
                                                                · exact fun z => c151 (z.trans (by decide))
                                                                · exact fun z => c161 (z.trans (by decide))
                                                                · exact fun z => c177 (z.trans (by decide))
                                                                · exact fun z => c185 (z.trans (by decide))
                                                                · exact fun z => c191 (z.trans (by decide))
                                                                · exact fun z => c197 (z.trans (by decide))
                                                                · exact fun z => c203 (z.trans (by decide))
                                                                · exact fun z => c209 (z.trans (by decide)))
                                                              refine aw_tabOut eL_law_32 (by rw [← et3]; exact hto) (tgt := 923) (by decide) ?_
                                                              exact A_L_law_923 (fun h => ih h) h
