/-! the law's loop -/
theorem step_I {dx dm : Wd → Option (Int32 × Wd)} (h : OkI dx dm) {c : Nat} {w : Wd} (hc : c < 2 ^ 20) (hi : Inv c w) {K : Wd → Option (Int32 × Wd)} (hK : ∀ w', Inv (c + 1) w' → ∃ r, K w' = some r ∧ r.1 = 1) : ∃ r, ((dx w).bind fun q => (dm q.2).bind fun q' => if q.1 = q'.1 then K q'.2 else some (0, q'.2)) = some r ∧ r.1 = 1 := by
  obtain ⟨r, w1, w2, a1, a2, a3⟩ := h c w hc hi
  rw [a1, sb, a2, sb, if_pos rfl]
  exact hK w2 a3
theorem step_V {dx dm : Wd → Option Int32} (h : OkV dx dm) {c : Nat} {w : Wd} (hc : c < 2 ^ 20) (hi : Inv c w) {K : Wd → Option (Int32 × Wd)} (hK : ∀ w', Inv (c + 1) w' → ∃ r, K w' = some r ∧ r.1 = 1) : ∃ r, ((dx w).bind fun q => (dm w).bind fun q' => if q = q' then K w else some (0, w)) = some r ∧ r.1 = 1 := by
  obtain ⟨r, a1, a2⟩ := h c w hc hi
  rw [a1, sb, a2, sb, if_pos rfl]
  exact hK w (hi.same Sm.rf)
theorem step_L {dx dm : Wd → Option (Int64 × Wd)} (h : OkI dx dm) {c : Nat} {w : Wd} (hc : c < 2 ^ 20) (hi : Inv c w) {K : Wd → Option (Int32 × Wd)} (hK : ∀ w', Inv (c + 1) w' → ∃ r, K w' = some r ∧ r.1 = 1) : ∃ r, ((dx w).bind fun q => (dm q.2).bind fun q' => if (lg_cmp q.1 q'.1) = 0 then K q'.2 else some (0, q'.2)) = some r ∧ r.1 = 1 := by
  obtain ⟨r, w1, w2, a1, a2, a3⟩ := h c w hc hi
  have e : lg_cmp r r = 0 := by
    unfold lg_cmp
    have g : ¬ r > r := by rw [gt_iff_lt, Int64.lt_iff_toInt_lt]; omega
    rw [if_neg g, if_pos rfl]
  rw [a1, sb, a2, sb, if_pos e]
  exact hK w2 a3
/-- the falls of the reference change no world -/
theorem step_F {dx : Wd → Option (Int32 × Wd)} {dm : Wd → Option Int32} (h : OkI dx (fun w => (dm w).bind fun r => some (r, w))) {c : Nat} {w : Wd} (hc : c < 2 ^ 20) (hi : Inv c w) {K : Wd → Option (Int32 × Wd)} (hK : ∀ w', Inv (c + 1) w' → ∃ r, K w' = some r ∧ r.1 = 1) : ∃ r, ((dx w).bind fun q => (dm q.2).bind fun q' => if q.1 = q' then K q.2 else some (0, q.2)) = some r ∧ r.1 = 1 := by
  obtain ⟨r, w1, w2, a1, a2, a3⟩ := h c w hc hi
  dsimp only at a2
  cases hm : dm w1 with
  | none => rw [hm] at a2; cases a2
  | some r' =>
    rw [hm, sb] at a2
    cases a2
    rw [a1, sb, hm, sb, if_pos rfl]
    exact hK w1 a3
set_option maxHeartbeats 4000000 in
set_option maxRecDepth 100000 in
theorem law_loop (X : XS) (hX : X.1 ≤ 2560) : ∀ (n c F : Nat) (w : Wd), 513 - c = n → n ≤ F → c ≤ 512 → Inv c w → ∃ r, D_L_law_18 X F (nI (5 * c)) w = some r ∧ r.1 = 1 := by
  intro n
  induction n with
  | zero => intro c F w h; omega
  | succ n ih =>
    intro c F w hn hF hc hi
    obtain ⟨F, rfl⟩ : ∃ G, F = G + 1 := ⟨F - 1, by omega⟩
    have e5 : (Int32.ofNat X.1 - (5 : Int32)).toInt = (X.1 : Int) - 5 := pk_sub_toInt (a := X.1) (b := 5) (by omega) (by omega)
    rw [D_L_law_18]
    by_cases hend : X.1 < 5 * c + 5
    · rw [if_pos (by rw [Int32.lt_iff_toInt_lt, e5, nI_toInt (by omega)]; omega)]
      exact ⟨_, rfl, rfl⟩
    · have ix : ∀ k, k < 5 → inB (nI (5 * c) + nI k) X.1 := fun k hk => by
        rw [nI_add]
        exact (inB_n (by omega)).mpr (by omega)
      have b0 : inB (nI (5 * c)) X.1 := (inB_n (by omega)).mpr (by omega)
      have b1 : inB (nI (5 * c) + (1 : Int32)) X.1 := ix 1 (by omega)
      have b2 : inB (nI (5 * c) + (2 : Int32)) X.1 := ix 2 (by omega)
      have b3 : inB (nI (5 * c) + (3 : Int32)) X.1 := ix 3 (by omega)
      have b4 : inB (nI (5 * c) + (4 : Int32)) X.1 := ix 4 (by omega)
      have hc2 : c < 2 ^ 20 := by omega
      have next : ∀ w', Inv (c + 1) w' → ∃ r, D_L_law_923 X (fun y0 wy => D_L_law_18 X F y0 wy) (nI (5 * c)) w' = some r ∧ r.1 = 1 := fun w' hw' => by
        unfold D_L_law_923
        rw [ltd, n5, nI_add]
        have := ih (c + 1) F w' (by omega) (by omega) (by omega) hw'
        rw [show 5 * (c + 1) = 5 * c + 5 by omega] at this
        exact this
      rw [if_neg (by rw [Int32.lt_iff_toInt_lt, e5, nI_toInt (by omega)]; omega), if_pos b0, ltd]
      generalize X.2 (Int32.toNatClampNeg (nI (5 * c))) &&& (31 : Int32) = t
      by_cases h0 : t = 0
      · rw [if_pos h0]
        simp only [if_pos b1]
        exact step_I (write_ok (X.2 (Int32.toNatClampNeg (nI (5 * c) + (1 : Int32))))) hc2 hi next
      rw [if_neg h0]
      by_cases h1 : t = 1
      · rw [if_pos h1]
        exact step_I (wipe_ok) hc2 hi next
      rw [if_neg h1]
      by_cases h2 : t = 2
      · rw [if_pos h2]
        exact step_V (fault_ok) hc2 hi next
      rw [if_neg h2]
      by_cases h3 : t = 3
      · rw [if_pos h3]
        exact step_I (parish_ok) hc2 hi next
      rw [if_neg h3]
      by_cases h4 : t = 4
      · rw [if_pos h4]
        simp only [if_pos b1, if_pos b2]
        exact step_V (OkV.p (fun P B N hB => wedding_ok (by omega) (X.2 (Int32.toNatClampNeg (nI (5 * c) + (1 : Int32)))) (X.2 (Int32.toNatClampNeg (nI (5 * c) + (2 : Int32)))))) hc2 hi next
      rw [if_neg h4]
      by_cases h5 : t = 5
      · rw [if_pos h5]
        simp only [if_pos b1]
        exact step_V (OkV.p (fun P B N hB => road_ok (X.2 (Int32.toNatClampNeg (nI (5 * c) + (1 : Int32)))))) hc2 hi next
      rw [if_neg h5]
      by_cases h6 : t = 6
      · rw [if_pos h6]
        simp only [if_pos b1, if_pos b2]
        exact step_V (OkV.p (fun P B N hB => way_ok (X.2 (Int32.toNatClampNeg (nI (5 * c) + (1 : Int32)))) (X.2 (Int32.toNatClampNeg (nI (5 * c) + (2 : Int32)))))) hc2 hi next
      rw [if_neg h6]
      by_cases h7 : t = 7
      · rw [if_pos h7]
        simp only [if_pos b1]
        exact step_I (wed_ok (X.2 (Int32.toNatClampNeg (nI (5 * c) + (1 : Int32))))) hc2 hi next
      rw [if_neg h7]
      by_cases h8 : t = 8
      · rw [if_pos h8]
        simp only [if_pos b1]
        exact step_I (carry_ok (X.2 (Int32.toNatClampNeg (nI (5 * c) + (1 : Int32))))) hc2 hi next
      rw [if_neg h8]
      by_cases h9 : t = 9
      · rw [if_pos h9]
        exact step_I (linger_ok) hc2 hi next
      rw [if_neg h9]
      by_cases h10 : t = 10
      · rw [if_pos h10]
        simp only [if_pos b1]
        exact step_I (mend_ok (X.2 (Int32.toNatClampNeg (nI (5 * c) + (1 : Int32))))) hc2 hi next
      rw [if_neg h10]
      by_cases h11 : t = 11
      · rw [if_pos h11]
        exact step_I (undo_ok) hc2 hi next
      rw [if_neg h11]
      by_cases h12 : t = 12
      · rw [if_pos h12]
        simp only [if_pos b1]
        exact step_I (OkI.q (fun P B N hB => most_ok hB (X.2 (Int32.toNatClampNeg (nI (5 * c) + (1 : Int32)))))) hc2 hi next
      rw [if_neg h12]
      by_cases h13 : t = 13
      · rw [if_pos h13]
        exact step_I (OkI.q (fun P B N hB => slack_ok hB)) hc2 hi next
      rw [if_neg h13]
      by_cases h14 : t = 14
      · rw [if_pos h14]
        simp only [if_pos b1]
        by_cases hz : (X.2 (Int32.toNatClampNeg (nI (5 * c) + (1 : Int32)))) = 0
        · simp only [if_pos hz]
          exact step_I (OkI.q (fun P B N hB => mending_ok hB 0)) hc2 hi next
        · simp only [if_neg hz]
          exact step_I (OkI.q (fun P B N hB => mending_ok hB 1)) hc2 hi next
      rw [if_neg h14]
      by_cases h15 : t = 15
      · rw [if_pos h15]
        simp only [if_pos b1, if_pos b2]
        exact step_I (judge_ok (X.2 (Int32.toNatClampNeg (nI (5 * c) + (1 : Int32)))) (X.2 (Int32.toNatClampNeg (nI (5 * c) + (2 : Int32))))) hc2 hi next
      rw [if_neg h15]
      by_cases h16 : t = 16
      · rw [if_pos h16]
        simp only [if_pos b1]
        exact step_V (OkV.p (fun P B N hB => later_ok (X.2 (Int32.toNatClampNeg (nI (5 * c) + (1 : Int32)))))) hc2 hi next
      rw [if_neg h16]
      by_cases h17 : t = 17
      · rw [if_pos h17]
        simp only [if_pos b1, if_pos b2]
        exact step_I (see_ok (X.2 (Int32.toNatClampNeg (nI (5 * c) + (1 : Int32)))) (X.2 (Int32.toNatClampNeg (nI (5 * c) + (2 : Int32))))) hc2 hi next
      rw [if_neg h17]
      by_cases h18 : t = 18
      · rw [if_pos h18]
        exact step_I (unsee_ok) hc2 hi next
      rw [if_neg h18]
      by_cases h19 : t = 19
      · rw [if_pos h19]
        simp only [if_pos b1, if_pos b2]
        exact step_I (rows_ok (X.2 (Int32.toNatClampNeg (nI (5 * c) + (1 : Int32)))) (X.2 (Int32.toNatClampNeg (nI (5 * c) + (2 : Int32))))) hc2 hi next
      rw [if_neg h19]
      by_cases h20 : t = 20
      · rw [if_pos h20]
        simp only [if_pos b1, if_pos b2]
        by_cases hz : (X.2 (Int32.toNatClampNeg (nI (5 * c) + (2 : Int32)))) = 0
        · simp only [if_pos hz]
          exact step_I (share_ok (X.2 (Int32.toNatClampNeg (nI (5 * c) + (1 : Int32)))) 0) hc2 hi next
        · simp only [if_neg hz]
          exact step_I (share_ok (X.2 (Int32.toNatClampNeg (nI (5 * c) + (1 : Int32)))) 1) hc2 hi next
      rw [if_neg h20]
      by_cases h21 : t = 21
      · rw [if_pos h21]
        simp only [if_pos b1, if_pos b2, if_pos b3]
        exact step_I (rests_ok (X.2 (Int32.toNatClampNeg (nI (5 * c) + (1 : Int32)))) (X.2 (Int32.toNatClampNeg (nI (5 * c) + (2 : Int32)))) (X.2 (Int32.toNatClampNeg (nI (5 * c) + (3 : Int32))))) hc2 hi next
      rw [if_neg h21]
      by_cases h22 : t = 22
      · rw [if_pos h22]
        simp only [if_pos b1, if_pos b2, if_pos b3, if_pos b4]
        by_cases hz : (X.2 (Int32.toNatClampNeg (nI (5 * c) + (4 : Int32)))) = 0
        · rw [if_pos hz]
          unfold D_L_law_737
          simp only [if_pos b1, if_pos b2, if_pos b3, if_pos b4, if_pos hz]
          exact step_F (falls_ok (X.2 (Int32.toNatClampNeg (nI (5 * c) + (1 : Int32)))) (X.2 (Int32.toNatClampNeg (nI (5 * c) + (2 : Int32)))) (X.2 (Int32.toNatClampNeg (nI (5 * c) + (3 : Int32)))) 0) hc2 hi next
        · rw [if_neg hz]
          unfold D_L_law_737
          simp only [if_pos b1, if_pos b2, if_pos b3, if_pos b4, if_neg hz]
          exact step_F (falls_ok (X.2 (Int32.toNatClampNeg (nI (5 * c) + (1 : Int32)))) (X.2 (Int32.toNatClampNeg (nI (5 * c) + (2 : Int32)))) (X.2 (Int32.toNatClampNeg (nI (5 * c) + (3 : Int32)))) 1) hc2 hi next
      rw [if_neg h22]
      by_cases h23 : t = 23
      · rw [if_pos h23]
        simp only [if_pos b1, if_pos b2]
        exact step_L (seed_ok ((Int32.toInt64 (X.2 (Int32.toNatClampNeg (nI (5 * c) + (1 : Int32)))) <<< (Int32.toInt64 (32 : Int32) &&& 63)) ||| (Int32.toInt64 (X.2 (Int32.toNatClampNeg (nI (5 * c) + (2 : Int32)))) &&& (4294967295 : Int64)))) hc2 hi next
      rw [if_neg h23]
      by_cases h24 : t = 24
      · rw [if_pos h24]
        simp only [if_pos b1]
        exact step_I (summers_ok (X.2 (Int32.toNatClampNeg (nI (5 * c) + (1 : Int32))))) hc2 hi next
      rw [if_neg h24]
      by_cases h25 : t = 25
      · rw [if_pos h25]
        simp only [if_pos b1]
        exact step_I (keep_ok (X.2 (Int32.toNatClampNeg (nI (5 * c) + (1 : Int32))))) hc2 hi next
      rw [if_neg h25]
      by_cases h26 : t = 26
      · rw [if_pos h26]
        simp only [if_pos b1]
        exact step_I (again_ok (X.2 (Int32.toNatClampNeg (nI (5 * c) + (1 : Int32))))) hc2 hi next
      rw [if_neg h26]
      by_cases h27 : t = 27
      · rw [if_pos h27]
        simp only [if_pos b1]
        exact step_V (count_ok (X.2 (Int32.toNatClampNeg (nI (5 * c) + (1 : Int32))))) hc2 hi next
      rw [if_neg h27]
      exact next w (hi.same Sm.rf)
theorem law_ok (X : XS) (hX : X.1 ≤ 2560) : ∃ r, D_L_law_18 X fuelZ 0 w0 = some r ∧ r.1 = 1 := law_loop X hX 513 0 fuelZ w0 rfl (by decide) (by decide) inv0
