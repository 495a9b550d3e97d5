/-! falls -/
theorem hdS_01 {P : Pa} {n row f : Nat} : ∀ (k p : Nat) (s : Sd), hdS P n row f k p s ≤ 1
  | 0, _, _ => Nat.le_refl _
  | k + 1, p, s => by
    unfold hdS
    split
    · exact Nat.zero_le _
    · exact hdS_01 k (p + 1) _
def hdB (P : Pa) (N : Sd) (n row f : Nat) : Bool := hdS P n row f n 0 N == 1
theorem hdB_t {P : Pa} {N : Sd} {n row f : Nat} (h : hdB P N n row f = true) : hdS P n row f n 0 N = 1 := by unfold hdB at h; simpa using h
theorem hdB_f {P : Pa} {N : Sd} {n row f : Nat} (h : ¬ hdB P N n row f = true) : hdS P n row f n 0 N = 0 := by
  have := hdS_01 (P := P) (n := n) (row := row) (f := f) n 0 N
  unfold hdB at h
  have h2 : hdS P n row f n 0 N ≠ 1 := by simpa using h
  omega
theorem shl7 : ∀ n, n < 7 → ((1 : Int32) <<< (nI n &&& 31)) = nI (2 ^ n) := by decide +kernel
def gXf (P : Pa) (N : Sd) (n row x f : Nat) : Nat := if hdB P N n row f = true then WN (wyP P N n row) x f n else 0
theorem fallsX_loop {P : Pa} {B n row x : Nat} {N : Sd} {x4 : Int32} (hP : okP P) (hB : 10 ≤ B ∧ B < 2 ^ 27) (hs : okS P.1 B N) (hn : n ≤ 6) (hr : row < 10 ^ n) (hx : x ≤ 10) (hop : opX P n row N.2.2.1 0) : ∀ (k f F : Nat) (w : Wd), 2 ^ n - f = k → k < F → f ≤ 2 ^ n → XP P w → XS1 0 N w →
    ∃ w', D_X5_falls_39 F (nI n) (nI row) (nI x) x4 (nI (smN (gXf P N n row x) f)) (nI f) w = ((D_X5_fraction (nI (smN (gXf P N n row x) (2 ^ n))) (nI (10 ^ n)) x4).bind fun q9 => some (q9, w')) ∧ Sm w w' := by
  have h64 : 2 ^ n ≤ 64 := Nat.pow_le_pow_right (n := 2) (by decide) hn
  have h10 := ten_lt (show n < 7 by omega)
  intro k
  induction k with
  | zero =>
    intro f F w hk hF hf hX hN
    obtain ⟨F, rfl⟩ : ∃ M, F = M + 1 := ⟨F - 1, by omega⟩
    have : f = 2 ^ n := by omega
    subst this
    unfold D_X5_falls_39
    rw [shl7 n (by omega), if_pos ((nI_leI (by omega) (by omega)).mpr (Nat.le_refl _)), atT_n (by omega), sb]
    exact ⟨w, rfl, Sm.rf⟩
  | succ k ih =>
    intro f F w hk hF hf hX hN
    obtain ⟨F, rfl⟩ : ∃ M, F = M + 1 := ⟨F - 1, by omega⟩
    have hWle := WN_le (wy := wyP P N n row) (f := f) hx n
    have hwt : D_X5_weightOfFalls w (nI n) (nI row) (nI x) (nI f) = some (nI (WN (wyP P N n row) x f n)) := by
      unfold D_X5_weightOfFalls
      rw [hN.2.1, ltd]
      exact weight_loop hP hX hs hN hn hr (by omega) hx hop n 0 fuelZ rfl (by unfold fuelZ; omega) (Nat.zero_le _)
    unfold D_X5_falls_39
    rw [shl7 n (by omega), if_neg (by rw [nI_leI (by omega) (by omega)]; omega), hwt, sb]
    have up : ∀ w1, Sm w w1 → ∃ w', D_X5_falls_39 F (nI n) (nI row) (nI x) x4 (nI (smN (gXf P N n row x) (f + 1))) (nI (f + 1)) w1 = ((D_X5_fraction (nI (smN (gXf P N n row x) (2 ^ n))) (nI (10 ^ n)) x4).bind fun q9 => some (q9, w')) ∧ Sm w w' := by
      intro w1 sm
      obtain ⟨w2, a1, a2⟩ := ih (f + 1) F w1 (by omega) (by omega) (by omega) (hX.same sm) (hN.same sm (by decide) (by decide))
      exact ⟨w2, a1, sm.tr a2⟩
    have es : smN (gXf P N n row x) (f + 1) = smN (gXf P N n row x) f + gXf P N n row x f := rfl
    by_cases hW : WN (wyP P N n row) x f n = 0
    · have e0 : gXf P N n row x f = 0 := by unfold gXf; rw [hW]; split <;> rfl
      rw [es, e0, Nat.add_zero] at up
      rw [if_pos (by rw [n0, nI_leI (by omega) (by decide)]; omega), ltd, n1, nI_add]
      exact up w Sm.rf
    · obtain ⟨w1, a1, a2, a3⟩ := take_n (a := 1) (b := 0) (by decide) (by decide) (by decide) hN
      have sm1 : Sm w w1 := Sm.off a3 (by decide)
      obtain ⟨w2, b1, b2⟩ := holdX_loop (f := f) hP hB hn hr (by omega) n 0 fuelZ N w1 rfl (by unfold fuelZ; omega) (Nat.zero_le _) (hX.same sm1) hs a2
      have sm2 := sm1.tr (Sm.off b2 (by decide))
      have hh : D_X5_holdsWithFalls w (nI n) (nI row) (nI f) = some (nI (hdS P n row f n 0 N), w2) := by
        unfold D_X5_holdsWithFalls
        rw [a1, sb]; exact b1
      rw [if_neg (by rw [n0, nI_leI (by omega) (by decide)]; omega), hh, sb]
      dsimp only
      by_cases hd : hdB P N n row f = true
      · have e0 : gXf P N n row x f = WN (wyP P N n row) x f n := by unfold gXf; rw [if_pos hd]
        rw [es, e0] at up
        rw [hdB_t hd, if_neg (show ¬ nI 1 = 0 by decide), nI_add, ltd, ltd, n1, nI_add]
        exact up w2 sm2
      · have e0 : gXf P N n row x f = 0 := by unfold gXf; rw [if_neg hd]
        rw [es, e0, Nat.add_zero] at up
        rw [hdB_f hd, if_pos (show nI 0 = 0 from rfl), ltd, n1, nI_add]
        exact up w2 sm2
def gTf (x m f : Nat) : Nat := if subN f m then vM x m f else 0
def gHf (P : Pa) (N : Sd) (n row x m f : Nat) : Nat := if subN f m then (if hdB P N n row f = true then vM x m f else 0) else 0
theorem cnt6_le {f m : Nat} (h : subN f m) : cnt6 f ≤ cnt6 m ∧ cnt6 m ≤ 6 := by
  rw [cnt6_cB, cnt6_cB]
  refine ⟨cB_mono 6 h, ?_⟩
  rw [← cnt6_cB]
  unfold cnt6
  have hb : ∀ b : Bool, (if b = true then 1 else 0) ≤ 1 := fun b => by split <;> omega
  have a0 := hb (m.testBit 0)
  have a1 := hb (m.testBit 1)
  have a2 := hb (m.testBit 2)
  have a3 := hb (m.testBit 3)
  have a4 := hb (m.testBit 4)
  have a5 := hb (m.testBit 5)
  omega
theorem fallsM_loop {P : Pa} {B n row x m : Nat} {N : Sd} {x4 : Int32} {w : Wd} (hP : okP P) (hB : 10 ≤ B ∧ B < 2 ^ 27) (hs : okS P.1 B N) (hn : n ≤ 6) (hr : row < 10 ^ n) (hx : x ≤ 10) (hop : opX P n row N.2.2.1 0) (hm64 : m < 64) (hM : MP P w) (hm : ML 0 N w) : ∀ (k f F : Nat), m + 1 - f = k → k < F → f ≤ m + 1 →
    D_X6_falls_72 w F (nI n) (nI row) (nI x) x4 (nI m) (nI (smN (gHf P N n row x m) f)) (nI (smN (gTf x m) f)) (nI f) = ((D_X6_common (nI (smN (gHf P N n row x m) (m + 1))) (nI (smN (gTf x m) (m + 1)))).bind fun q12 => if x4 = 0 then (if ¬ q12 = 0 then some (nI (smN (gTf x m) (m + 1)) / q12) else none) else (if ¬ q12 = 0 then some (nI (smN (gHf P N n row x m) (m + 1)) / q12) else none)) := by
  intro k
  induction k with
  | zero =>
    intro f F hk hF hf
    obtain ⟨F, rfl⟩ : ∃ M, F = M + 1 := ⟨F - 1, by omega⟩
    have : f = m + 1 := by omega
    subst this
    unfold D_X6_falls_72
    rw [if_pos ((nI_ltI (by omega) (by omega)).mpr (Nat.lt_succ_self m))]
  | succ k ih =>
    intro f F hk hF hf
    obtain ⟨F, rfl⟩ : ∃ M, F = M + 1 := ⟨F - 1, by omega⟩
    have IH := ih (f + 1) F (by omega) (by omega) (by omega)
    have eT : smN (gTf x m) (f + 1) = smN (gTf x m) f + gTf x m f := rfl
    have eH : smN (gHf P N n row x m) (f + 1) = smN (gHf P N n row x m) f + gHf P N n row x m f := rfl
    rw [eT, eH] at IH
    unfold D_X6_falls_72
    rw [if_neg (by rw [nI_ltI (by omega) (by omega)]; omega)]
    by_cases hsub : subN f m
    · obtain ⟨c1, c2⟩ := cnt6_le hsub
      have e1 : gTf x m f = vM x m f := by unfold gTf; rw [if_pos hsub]
      have hh : D_X6_holds w (nI n) (nI row) (nI f) = some (nI (hdS P n row f n 0 N)) := by
        unfold D_X6_holds
        rw [show w.1 25 0 1 = nI N.2.1 from hm.2.1, show w.1 25 0 0 = nI N.1 from hm.1, ltd, ltd]
        exact holdM_loop hP hB hn hr (by omega) hM hs hm n 0 fuelZ N rfl (by unfold fuelZ; omega) (Nat.zero_le _) hs rfl hop
      rw [if_pos ((subN_n f (by omega) m hm64).mpr hsub), onesM_n f (by omega), sb, power_n (by omega), sb, onesM_n m hm64, sb, sb, n10, pk_sub hx, pk_sub c1, power_n (by omega), sb, pk_mul, ltd, nI_add, ltd, hh, sb]
      rw [e1] at IH
      unfold vM at IH
      by_cases hd : hdB P N n row f = true
      · have e2 : gHf P N n row x m f = x ^ cnt6 f * (10 - x) ^ (cnt6 m - cnt6 f) := by unfold gHf; rw [if_pos hsub, if_pos hd]; rfl
        rw [e2] at IH
        rw [hdB_t hd, if_neg (show ¬ nI 1 = 0 by decide), nI_add, ltd, ltd, n1, nI_add]
        exact IH
      · have e2 : gHf P N n row x m f = 0 := by unfold gHf; rw [if_pos hsub, if_neg hd]
        rw [e2, Nat.add_zero] at IH
        rw [hdB_f hd, if_pos (show nI 0 = 0 from rfl), n0, nI_add, ltd, ltd, n1, nI_add, Nat.add_zero]
        exact IH
    · have e1 : gTf x m f = 0 := by unfold gTf; rw [if_neg hsub]
      have e2 : gHf P N n row x m f = 0 := by unfold gHf; rw [if_neg hsub]
      rw [e1, e2, Nat.add_zero, Nat.add_zero] at IH
      rw [if_neg (fun z => hsub ((subN_n f (by omega) m hm64).mp z)), ltd, n1, nI_add]
      exact IH
theorem falls_ok (x1 x2 x3 x4 : Int32) : OkI (fun w => D_X5_falls w x1 x2 x3 (if x4 = 0 then 0 else 1)) (fun w => (D_X6_falls w x1 x2 x3 (if x4 = 0 then 0 else 1)).bind fun r => some (r, w)) := by
  refine OkI.q (fun P B N hB w hq => ?_)
  generalize (if x4 = 0 then (0 : Int32) else 1) = x4
  obtain ⟨hP, hX, hM, hs, hx0, hm⟩ := hq
  unfold D_X5_falls D_X6_falls
  rcases row_cases x1 x2 with ⟨n, row, h1, h6, hr, rfl, rfl⟩ | ⟨o1, o2⟩
  · have h10 := ten_lt (show n < 7 by omega)
    have hp : 0 < 10 ^ n := Nat.pow_pos (by decide)
    have hX1 : D_X5_isRow w (nI n) (nI row) = some 1 := by
      unfold D_X5_isRow
      rw [if_neg (by rw [n1, nI_ltI (by omega) (by decide)]; omega), if_neg (by rw [n6, nI_ltI (by decide) (by omega)]; omega), if_neg (nI_lt0 (by omega)), atT_n (by omega), sb, if_neg (by rw [nI_leI (by omega) (by omega)]; omega)]
    have hin : D_X6_in (Int32.toInt64 (nI n)) 1 6 = some 1 := in_y (B := 1) (C := 6) (by omega) rfl (by decide) (by decide) h1 h6
    have hin2 : D_X6_in (Int32.toInt64 (nI row)) 0 (Int32.toInt64 (nI (10 ^ n) - 1)) = some 1 := inM_y (n := 10 ^ n) (by omega) (by rw [n1, pk_sub (by omega), toI64 (by omega)]; omega) hr
    rcases ix_cases x3 (n := 11) (by decide) with ⟨x, hx, rfl⟩ | ho
    · have hin3 : D_X6_in (Int32.toInt64 (nI x)) 0 10 = some 1 := inM_y (n := 11) (by decide) (by decide) hx
      have g1 : nI x ≤ nI 10 := (nI_leI (by omega) (by decide)).mpr (by omega)
      rw [hX1, sb, if_neg ne10, if_neg (nI_lt0 (by omega)), if_pos (show nI x ≤ 10 from g1)]
      by_cases hop : opX P n row N.2.2.1 0
      · rw [(openX_n hP hX hs hx0 h6 hr).1 hop, sb, if_neg ne10]
        obtain ⟨w1, a1, a2⟩ := fallsX_loop (x := x) (x4 := x4) hP hB hs h6 hr (by omega) hop (2 ^ n) 0 fuelZ w (Nat.sub_zero _) (by have : 2 ^ n ≤ 64 := Nat.pow_le_pow_right (n := 2) (by decide) h6; unfold fuelZ; omega) (Nat.zero_le _) hX hx0
        have hM1 := hM.same a2
        have hm1 := hm.same a2
        have hm64 := pow_le64 h6 (wmN_lt (wy := wyP P N n row) n)
        have b1 := fallsM_loop (x4 := x4) hP hB hs h6 hr (show x ≤ 10 by omega) hop hm64 hM1 hm1 (wmN (wyP P N n row) n + 1) 0 fuelZ (by omega) (by unfold fuelZ; omega) (Nat.zero_le _)
        have b0 : D_X6_waysIn w1 (nI n) (nI row) = some (nI (wmN (wyP P N n row) n)) := by
          unfold D_X6_waysIn
          rw [show w1.1 25 0 1 = nI N.2.1 from hm1.2.1, ltd]
          exact waysIn_loop hP hM1 hs hm1 h6 hr hop n 0 fuelZ rfl (by unfold fuelZ; omega) (Nat.zero_le _)
        generalize hC : 10 ^ (cB (fun q => decide (wyP P N n row q = 0)) n) = C
        have sH : smN (gXf P N n row x) (2 ^ n) = C * smN (gHf P N n row x (wmN (wyP P N n row) n)) (wmN (wyP P N n row) n + 1) := by
          rw [← hC]; exact sums_eq h6 (hdB P N n row)
        have sT : 10 ^ n = C * smN (gTf x (wmN (wyP P N n row) n)) (wmN (wyP P N n row) n + 1) := by
          rw [← hC, ← WN_total (wy := wyP P N n row) (show x ≤ 10 by omega) n]
          have := sums_eq (wy := wyP P N n row) (x := x) h6 (fun _ => true)
          exact (smN_congr _ (fun f _ => rfl)).trans (this.trans (congrArg (fun z => 10 ^ (cB (fun q => decide (wyP P N n row q = 0)) n) * z) (smN_congr _ (fun f _ => rfl))))
        have sle : smN (gXf P N n row x) (2 ^ n) ≤ 10 ^ n := by
          rw [← WN_total (wy := wyP P N n row) (show x ≤ 10 by omega) n]
          refine smN_le _ (fun f hf => ?_)
          unfold gXf
          split
          · exact Nat.le_refl _
          · exact Nat.zero_le _
        generalize smN (gHf P N n row x (wmN (wyP P N n row) n)) (wmN (wyP P N n row) n + 1) = H at *
        generalize smN (gTf x (wmN (wyP P N n row) n)) (wmN (wyP P N n row) n + 1) = T at *
        have hC0 : 0 < C := by rw [← hC]; exact Nat.pow_pos (by decide)
        have hT0 : 0 < T := by
          rcases Nat.eq_zero_or_pos T with z | z
          · rw [z, Nat.mul_zero] at sT; omega
          · exact z
        have hTle : T ≤ 10 ^ n := by rw [sT]; exact Nat.le_mul_of_pos_left _ hC0
        have hHT : H ≤ T := by
          rw [sH, sT] at sle
          exact Nat.le_of_mul_le_mul_left sle hC0
        have hg : 0 < Nat.gcd H T := Nat.gcd_pos_of_pos_right H hT0
        have hgl : Nat.gcd H T ≤ T := Nat.gcd_le_right H hT0
        have hne : ¬ nI (Nat.gcd H T) = 0 := by rw [n0, nI_eq (by omega) (by decide)]; omega
        rw [fracX_n (by omega) (by omega) hp, sb] at a1
        rw [sH, sT, Nat.gcd_mul_left, Nat.mul_div_mul_left _ _ hC0, Nat.mul_div_mul_left _ _ hC0] at a1
        refine ⟨_, w1, w1, a1, a2, ?_, Sm.rf⟩
        rw [hin, sb, if_neg ne10, tenTo_n n (by omega), sb, hin2, sb, if_neg ne10, hin3, sb, if_neg ne10, (openM_n hP hM1 hs hm1 h6 hr).1 hop, sb, if_neg ne10, b0, sb]
        have b2 := b1.trans (by rw [comM_n (by omega) (by omega), sb])
        rw [show D_X6_falls_72 w1 fuelZ (nI n) (nI row) (nI x) x4 (nI (wmN (wyP P N n row) n)) 0 0 0 = _ from b2]
        by_cases hz : x4 = 0
        · rw [if_pos hz, if_pos hz, if_pos hne, pk_div (by omega) hg (by omega)]; rfl
        · rw [if_neg hz, if_neg hz, if_pos hne, pk_div (by omega) hg (by omega)]; rfl
      · refine ⟨-3, w, w, ?_, Sm.rf, ?_, Sm.rf⟩
        · rw [(openX_n hP hX hs hx0 h6 hr).2 hop, sb, if_pos rfl]
        · rw [hin, sb, if_neg ne10, tenTo_n n (by omega), sb, hin2, sb, if_neg ne10, hin3, sb, if_neg ne10, (openM_n hP hM hs hm h6 hr).2 hop]; rfl
    · have hin3 : D_X6_in (Int32.toInt64 x3) 0 10 = some 0 := inM_o (n := 11) (by decide) (by decide) ho
      refine ⟨-2, w, w, ?_, Sm.rf, ?_, Sm.rf⟩
      · rw [hX1, sb, if_neg ne10]
        by_cases h : x3 < 0
        · rw [if_pos h]
        · have g : ¬ x3 ≤ nI 10 := out_le (by decide) ho h (by decide)
          rw [if_neg h, if_neg (show ¬ x3 ≤ 10 from g)]
      · rw [hin, sb, if_neg ne10, tenTo_n n (by omega), sb, hin2, sb, if_neg ne10, hin3]; rfl
  · refine ⟨-2, w, w, by rw [o1]; rfl, Sm.rf, ?_, Sm.rf⟩
    rcases o2 with o2 | ⟨q, q1, q2, q3⟩
    · rw [o2]; rfl
    · rw [q1, sb, if_neg ne10, q2, sb, q3]; rfl
