/-! shares of the reference, and both -/
theorem share90 {P : Pa} {B op i o : Nat} {N : Sd} {x2 : Int32} {w : Wd} (hP : okP P) (hB : 10 ≤ B) (hs : okS P.1 B N) (hop : op < 64) (hi : i < 6) (hio : op.testBit i = true) (ho : cnt6 op = o + 1) (hm : ∀ b, b < op + 1 → subN b op → w.1 31 0 b = nI (mostR P N b)) : ∀ (n a F : Nat), op + 1 - a = n → n < F → a ≤ op + 1 → D_X6_share_90 F (nI i) x2 (nI op) (nI (smN (tmN P N op i o) a)) (nI a) w = ((D_X6_common (nI (smN (tmN P N op i o) (op + 1))) (nI (fcZ (o + 1)))).bind fun q11 => if x2 = 0 then (if ¬ q11 = 0 then some (nI (fcZ (o + 1)) / q11, w) else none) else (if ¬ q11 = 0 then some (nI (smN (tmN P N op i o) (op + 1)) / q11, w) else none)) := by
  have hc6 := cnt_le op hop
  intro n
  induction n with
  | zero =>
    intro a F hn hF ha
    obtain ⟨F, rfl⟩ : ∃ M, F = M + 1 := ⟨F - 1, by omega⟩
    have : a = op + 1 := by omega
    subst this
    unfold D_X6_share_90
    rw [if_pos ((nI_ltI (by omega) (by omega)).mpr (Nat.lt_succ_self op)), onesM_n op hop, sb, ho, facM_n (o + 1) (by omega), sb]
    simp only [sb, facM_n (o + 1) (by omega)]
  | succ n ih =>
    intro a F hn hF ha
    obtain ⟨F, rfl⟩ : ∃ M, F = M + 1 := ⟨F - 1, by omega⟩
    have ha64 : a < 64 := by omega
    have IH := ih (a + 1) F (by omega) (by omega) (by omega)
    have es : smN (tmN P N op i o) (a + 1) = smN (tmN P N op i o) a + tmN P N op i o a := rfl
    rw [es] at IH
    unfold D_X6_share_90
    rw [if_neg (by rw [nI_ltI (by omega) (by omega)]; omega)]
    by_cases hsub : subN a op
    · rw [if_pos ((subN_n a ha64 op hop).mpr hsub), hasM_n a ha64 i hi, sb]
      by_cases ht : a.testBit i = true
      · have e0 : tmN P N op i o a = 0 := by unfold tmN; rw [if_pos hsub, if_pos ht]
        rw [e0, Nat.add_zero] at IH
        rw [if_pos ht, if_neg (by decide), ltd, n1, nI_add]
        exact IH
      · have e0 : tmN P N op i o a = fcZ (cnt6 a) * fcZ (o - cnt6 a) * (mostR P N (a ||| 2 ^ i) - mostR P N a) := by
          unfold tmN
          rw [if_pos hsub, if_neg ht, Nat.mul_assoc, Nat.mul_comm]
        rw [e0] at IH
        have hor : a ||| 2 ^ i < 64 := orb_lt (n := 6) ha64 hi
        have hcs := cnt_self ha64 hop hi hsub ht hio
        have hmo : mostR P N a ≤ mostR P N (a ||| 2 ^ i) := most_sub hP hB hs (fun j _ z => tb_or.mpr (Or.inl z))
        have hsub2 : subN (a ||| 2 ^ i) op := fun j hj z => by
          rcases tb_or.mp z with z | rfl
          · exact hsub j hj z
          · exact hio
        have hle2 := subN_le _ hor _ hop hsub2
        have er1 := hm _ (by omega) hsub2
        have er2 := hm a (by omega) hsub
        have i1 : inB (nI (a ||| 2 ^ i)) 64 := (inB_n (by omega)).mpr hor
        have i2 : inB (nI a) 64 := (inB_n (by omega)).mpr ha64
        rw [if_neg ht, if_pos (by decide), onesM_n a ha64, sb, facM_n (cnt6 a) (by omega), sb, onesM_n op hop, sb, sb, ho, n1, pk_sub (by omega), Nat.add_sub_cancel, pk_sub (by omega), facM_n (o - cnt6 a) (by omega), sb, pk_mul, ltd, ← n1, orb_n a ha64 i hi]
        simp only [if_pos i1, if_pos i2, nI_clamp (show a ||| 2 ^ i < 2 ^ 31 by omega), nI_clamp (show a < 2 ^ 31 by omega), er1, er2]
        rw [pk_sub hmo, pk_mul, nI_add, ltd, ltd, n1, nI_add]
        exact IH
    · have e0 : tmN P N op i o a = 0 := by unfold tmN; rw [if_neg hsub]
      rw [e0, Nat.add_zero] at IH
      rw [if_neg (fun z => hsub ((subN_n a ha64 op hop).mp z)), ltd, n1, nI_add]
      exact IH
theorem share45 {P : Pa} {B op : Nat} {N : Sd} {x1 x2 : Int32} (hP : okP P) (hB : 10 ≤ B ∧ B < 2 ^ 27) (hs : okS P.1 B N) (hop : op < 64) : ∀ (n a F : Nat) (w : Wd), op + 1 - a = n → n < F → a ≤ op + 1 → MP P w → ML 0 N w → (∀ b, b < a → subN b op → w.1 31 0 b = nI (mostR P N b)) →
    ∃ w', D_X6_share_45 F x1 x2 (nI op) (nI a) w = D_X6_share_90 fuelZ x1 x2 (nI op) 0 0 w' ∧ (∀ b, b < op + 1 → subN b op → w'.1 31 0 b = nI (mostR P N b)) ∧ Sm w w' := by
  intro n
  induction n with
  | zero =>
    intro a F w hn hF ha hM hm hg
    obtain ⟨F, rfl⟩ : ∃ M, F = M + 1 := ⟨F - 1, by omega⟩
    have : a = op + 1 := by omega
    subst this
    unfold D_X6_share_45
    rw [if_pos ((nI_ltI (by omega) (by omega)).mpr (Nat.lt_succ_self op))]
    exact ⟨w, rfl, hg, Sm.rf⟩
  | succ n ih =>
    intro a F w hn hF ha hM hm hg
    obtain ⟨F, rfl⟩ : ∃ M, F = M + 1 := ⟨F - 1, by omega⟩
    have ha64 : a < 64 := by omega
    have i2 : inB (nI a) 64 := (inB_n (by omega)).mpr ha64
    have hca : Int32.toNatClampNeg (nI a) = a := nI_clamp (by omega)
    unfold D_X6_share_45
    rw [if_neg (by rw [nI_ltI (by omega) (by omega)]; omega)]
    by_cases hsub : subN a op
    · obtain ⟨e, w1, a1, a2, a3, a4⟩ := mostOn_n (l := 0) hP ⟨hB.1, by omega⟩ (by omega) hM hm hs ha64
      have a1' : D_X6_mostOn w 0 (nI a) = some (nI (mostR P N a), w1) := a1
      have sm1 : Sm w w1 := Sm.off a4 (by decide)
      have o2 : Off [(31, 0)] w1 (wS w1 31 0 a (nI (mostR P N a))) := Off.wS
      have sm2 := sm1.tr (Sm.off o2 (by decide))
      obtain ⟨w2, b1, b2, b3⟩ := ih (a + 1) F _ (by omega) (by omega) (by omega) (hM.same sm2) (hm.same sm2) (fun b hb hbs => by
        by_cases hba : b = a
        · rw [hba, wS_at]
        · rw [wS_ne hba, a4.1 31 0 (by decide)]; exact hg b (by omega) hbs)
      refine ⟨w2, ?_, b2, sm2.tr b3⟩
      rw [if_pos ((subN_n a ha64 op hop).mpr hsub), a1', sb, if_pos i2, hca, ltd, ltd, n1, nI_add]
      exact b1
    · have o2 : Off [(31, 0)] w (wS w 31 0 a 0) := Off.wS
      have sm2 : Sm w (wS w 31 0 a 0) := Sm.off o2 (by decide)
      obtain ⟨w2, b1, b2, b3⟩ := ih (a + 1) F _ (by omega) (by omega) (by omega) (hM.same sm2) (hm.same sm2) (fun b hb hbs => by
        by_cases hba : b = a
        · rw [hba] at hbs; exact absurd hbs hsub
        · rw [wS_ne hba]; exact hg b (by omega) hbs)
      refine ⟨w2, ?_, b2, sm2.tr b3⟩
      rw [if_neg (fun z => hsub ((subN_n a ha64 op hop).mp z)), if_pos i2, hca, ltd, ltd, n1, nI_add]
      exact b1
theorem cnt_pos : ∀ a, a < 64 → ∀ i, i < 6 → a.testBit i = true → 1 ≤ cnt6 a := by decide +kernel
theorem everyX_n {P : Pa} {w : Wd} (hP : okP P) (hX : XP P w) : D_X1_everyone w = some (nI (2 ^ P.1 - 1)) := by
  unfold D_X1_everyone
  rw [hX.1, all_n P.1 hP.1]
theorem share_ok (x x2 : Int32) : OkI (fun w => D_X5_share w x x2) (fun w => D_X6_share w x x2) := by
  refine OkI.q (fun P B N hB w hq => ?_)
  obtain ⟨hP, hX, hM, hs, hx, hm⟩ := hq
  have h6 := hP.1
  have hwd := pow_le64 h6 hs.2.2.1
  unfold D_X5_share D_X6_share
  rcases ix_cases x (n := P.1) (by omega) with ⟨i, hi, rfl⟩ | ho
  · obtain ⟨m1, m2⟩ := msk_b P.1 h6 N.2.2.1 hwd
    rw [has_n hX hP hi, sb, if_neg ne10, isWed_n (by decide) hx.2.2.1 hwd (by omega), sb]
    by_cases ht : N.2.2.1.testBit i = true
    · have hnb : ¬ (mskN P.1 N.2.2.1).testBit i = true := fun z => ((m2 i (by omega)).mp z).2 ht
      have ef : D_X5_fraction 0 1 x2 = some (if x2 = 0 then nI (1 / Nat.gcd 0 1) else nI (0 / Nat.gcd 0 1)) := fracX_n (a := 0) (b := 1) (by decide) (by decide) (by decide)
      refine ⟨if x2 = 0 then nI 1 else nI 0, w, w, ?_, Sm.rf, ?_, Sm.rf⟩
      · rw [if_pos ht, if_neg (by decide), ef]; rfl
      · rw [isWeddingM_n hP hM hi, sb, if_neg ne10, everyM_n hP hM, sb, show w.1 25 0 2 = nI N.2.2.1 from hm.2.2.1, msk_n _ h6 _ hwd, ltd, hasM_n _ m1 _ (by omega), sb, if_neg hnb, if_pos (by decide)]
        by_cases hz : x2 = 0
        · rw [if_pos hz, if_pos hz]; rfl
        · rw [if_neg hz, if_neg hz]; rfl
    · have hib : (mskN P.1 N.2.2.1).testBit i = true := (m2 i (by omega)).mpr ⟨hi, ht⟩
      rw [if_neg ht, if_pos (by decide)]
      obtain ⟨w1, a1, a2, a3⟩ := fillM_n hP ⟨hB.1, by omega⟩ hX hs hx
      have hX1 := hX.same a3
      have hx1 := hx.same a3 (by decide) (by decide)
      have hM1 := hM.same a3
      have hm1 := hm.same a3
      have hcp := cnt_pos _ m1 i (by omega) hib
      have hc6 := cnt_le _ m1
      obtain ⟨o, hoo⟩ : ∃ o, cnt6 (mskN P.1 N.2.2.1) = o + 1 := ⟨cnt6 (mskN P.1 N.2.2.1) - 1, by omega⟩
      obtain ⟨w2, b1, b2, b3⟩ := share45 (x1 := nI i) (x2 := x2) hP hB hs m1 (mskN P.1 N.2.2.1 + 1) 0 fuelZ w1 (by omega) (by unfold fuelZ; omega) (Nat.zero_le _) hM1 hm1 (fun b hb => absurd hb (Nat.not_lt_zero b))
      have c1 := share72 (x2 := x2) hP hB.1 hs m1 (show i < 6 by omega) hib hoo a2 64 0 fuelZ rfl (by decide) (by decide)
      have d1 := share90 (x2 := x2) hP hB.1 hs m1 (show i < 6 by omega) hib hoo b2 (mskN P.1 N.2.2.1 + 1) 0 fuelZ (by omega) (by unfold fuelZ; omega) (Nat.zero_le _)
      have es : smN (tmN P N (mskN P.1 N.2.2.1) i o) 64 = smN (tmN P N (mskN P.1 N.2.2.1) i o) (mskN P.1 N.2.2.1 + 1) := by
        rw [show 64 = (mskN P.1 N.2.2.1 + 1) + (64 - (mskN P.1 N.2.2.1 + 1)) by omega, smN_add, smN_zero (64 - (mskN P.1 N.2.2.1 + 1)), Nat.add_zero]
        intro q hq
        show tmN P N (mskN P.1 N.2.2.1) i o (mskN P.1 N.2.2.1 + 1 + q) = 0
        unfold tmN
        rw [if_neg]
        intro z
        have := subN_le _ (show mskN P.1 N.2.2.1 + 1 + q < 64 by omega) _ m1 z
        omega
      have hbd : smN (tmN P N (mskN P.1 N.2.2.1) i o) 64 ≤ 64 * 3110400 := smN_bd 64 (fun q hq => tmN_le hP hB.1 hs hq (by omega))
      rw [es] at c1 hbd
      generalize smN (tmN P N (mskN P.1 N.2.2.1) i o) (mskN P.1 N.2.2.1 + 1) = S at *
      obtain ⟨f0, f1⟩ := fcZ_le (o + 1) (by omega)
      have hg : 0 < Nat.gcd S (fcZ (o + 1)) := Nat.gcd_pos_of_pos_right S f0
      have hgl : Nat.gcd S (fcZ (o + 1)) ≤ fcZ (o + 1) := Nat.gcd_le_right S f0
      have hne : ¬ nI (Nat.gcd S (fcZ (o + 1))) = 0 := by rw [n0, nI_eq (by omega) (by decide)]; omega
      rw [fracX_n (by omega) (by omega) f0, sb] at c1
      rw [comM_n (by omega) (by omega), sb, if_pos hne, if_pos hne, pk_div (by omega) hg (by omega), pk_div (by omega) hg (by omega)] at d1
      refine ⟨if x2 = 0 then nI (fcZ (o + 1) / Nat.gcd S (fcZ (o + 1))) else nI (S / Nat.gcd S (fcZ (o + 1))), w1, w2, ?_, a3, ?_, b3⟩
      · rw [a1, sb, everyX_n hP hX1, sb, hx1.2.2.1, msk_n _ h6 _ hwd, ltd, shl_n i (by omega), ltd, bitCount_n _ m1, sb, hoo, n1, pk_sub (by omega), Nat.add_sub_cancel, ltd]
        exact c1
      · rw [isWeddingM_n hP hM1 hi, sb, if_neg ne10, everyM_n hP hM1, sb, show w1.1 25 0 2 = nI N.2.2.1 from hm1.2.2.1, msk_n _ h6 _ hwd, ltd, hasM_n _ m1 _ (by omega), sb, if_pos hib, if_neg (by decide)]
        refine b1.trans (d1.trans ?_)
        by_cases hz : x2 = 0
        · rw [if_pos hz, if_pos hz]
        · rw [if_neg hz, if_neg hz]
  · refine ⟨-1, w, w, ?_, Sm.rf, ?_, Sm.rf⟩
    · rw [has_o hX ho, sb, if_pos rfl]
    · rw [isWeddingM_o hP hM ho, sb, if_pos rfl]
