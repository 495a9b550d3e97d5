/-! the parish of the reference, and both -/
theorem px46 : ∀ (k j N : Nat) (w : Wd), 2 - j = k → k < N → j ≤ 2 → (∀ r, r < j → w.1 19 0 r = 0) →
    ∃ w', D_X5_parish_46 N (nI j) w = some (w'.1 1 0 2, w') ∧ (∀ r, r < 2 → w'.1 19 0 r = 0) ∧ OffC (fun k i _ => k = 19 ∧ i = 0) w w' := by
  intro k
  induction k with
  | zero =>
    intro j N w hk hN hj hg
    obtain ⟨N, rfl⟩ : ∃ M, N = M + 1 := ⟨N - 1, by omega⟩
    have : j = 2 := by omega
    subst this
    unfold D_X5_parish_46
    rw [if_pos (by decide)]
    exact ⟨w, rfl, hg, OffC.rf⟩
  | succ k ih =>
    intro j N w hk hN hj hg
    obtain ⟨N, rfl⟩ : ∃ M, N = M + 1 := ⟨N - 1, by omega⟩
    have i1 : inB (nI j) 2 := (inB_n (by omega)).mpr (by omega)
    unfold D_X5_parish_46
    rw [if_neg (by rw [n2, nI_leI (by decide) (by omega)]; omega), if_pos i1, nI_clamp (by omega), ltd, ltd, n1, nI_add]
    obtain ⟨w', a1, a2, a3⟩ := ih (j + 1) N (wS w 19 0 j 0) (by omega) (by omega) (by omega) (fun r hr => by
      by_cases hrj : r = j
      · rw [hrj, wS_at]
      · rw [wS_ne hrj]; exact hg r (by omega))
    exact ⟨w', a1, a2, (OffC.wS.tr a3).mono (by intro k i j z; (try dsimp only at z); omega)⟩
def CP6 (k i j : Nat) : Prop := (20 ≤ k ∧ k ≤ 24 ∧ i = 0) ∨ (k = 6 ∧ i = 0 ∧ j = 10) ∨ (k = 33 ∧ i = 0 ∧ j < 2)
theorem pm102 {t : Nat} {tx : Nat → Nat} (h : GT t tx) : ∀ (k j N : Nat) (w : Wd), (PaT t tx).1 - j = k → k < N → j ≤ (PaT t tx).1 → TXi t tx w → w.1 6 0 0 = nI (PaT t tx).1 → (∀ r, r < j → ∀ q, q < 5 → w.1 (20 + q) 0 r = nI ((PaT t tx).2.2 r q)) →
    ∃ w', D_X6_parish_102 N (nI j) w = some (nI (PaT t tx).1, w') ∧ (∀ r, r < (PaT t tx).1 → ∀ q, q < 5 → w'.1 (20 + q) 0 r = nI ((PaT t tx).2.2 r q)) ∧ w'.1 6 0 10 = 0 ∧ w'.1 33 0 0 = 0 ∧ w'.1 33 0 1 = 0 ∧ OffC CP6 w w' := by
  have h6 : (PaT t tx).1 ≤ 6 := (PaT_ok h).1
  have h44 := h.2.2.1
  intro k
  induction k with
  | zero =>
    intro j N w hk hN hj ht hz hg
    obtain ⟨N, rfl⟩ : ∃ M, N = M + 1 := ⟨N - 1, by omega⟩
    have hjn : j = (PaT t tx).1 := by omega
    unfold D_X6_parish_102
    rw [hz, if_pos (by rw [hjn]; exact (nI_leI (by omega) (by omega)).mpr (Nat.le_refl _)), ltd, ltd, ltd]
    refine ⟨_, by rw [wS_off (by decide), wS_off (by decide), wS_ne (by decide), hz], fun r hr q hq => ?_, ?_, ?_, ?_, (OffC.wS.tr (OffC.wS.tr OffC.wS)).mono (by intro k i j z; unfold CP6; (try dsimp only at z); omega)⟩
    · rw [wS_off (by omega), wS_off (by omega), wS_off (by omega)]; exact hg r (by omega) q hq
    · rw [wS_off (by decide), wS_off (by decide), wS_at]
    · rw [wS_ne (by decide), wS_at]
    · rw [wS_at]
  | succ k ih =>
    intro j N w hk hN hj ht hz hg
    obtain ⟨N, rfl⟩ : ∃ M, N = M + 1 := ⟨N - 1, by omega⟩
    have hj' : j < (t - 8) / 6 := by have : (PaT t tx).1 = (t - 8) / 6 := rfl; omega
    obtain ⟨g0, g1, g2, g3, g4⟩ := gt_wed h hj'
    unfold D_X6_parish_102
    have ej : (8 : Int32) + ((6 : Int32) * nI j) = nI (8 + 6 * j) := by rw [n8, n6, pk_mul, nI_add]
    have i6 : inB (nI j) 6 := (inB_n (by omega)).mpr (by omega)
    have hc : Int32.toNatClampNeg (nI j) = j := nI_clamp (by omega)
    have ad : ∀ q, nI (8 + 6 * j) + nI q = nI (8 + 6 * j + q) := fun q => nI_add ..
    have iq : ∀ q, q < 6 → inB (nI (8 + 6 * j + q)) 48 := fun q hq => (inB_n (by omega)).mpr (by omega)
    have cq : ∀ q, q < 6 → Int32.toNatClampNeg (nI (8 + 6 * j + q)) = 8 + 6 * j + q := fun q hq => nI_clamp (by omega)
    have e26 : ∀ p, p < 48 → w.1 26 0 p = nI (tx p) := fun p hp => (ht.2.2.2.2 p hp).2
    have f : ∀ q v r w0, q < 5 → (wS w0 (20 + q) 0 r v).1 26 0 = w0.1 26 0 := fun q v r w0 hq => wS_off (by omega)
    have sv : ∀ p, p < 48 → 48 ≤ tx p → nI (tx p) - (48 : Int32) = nI (tx p - 48) := fun p hp h => by rw [n48, pk_sub h]
    rw [hz, if_neg (by rw [nI_leI (by omega) (by omega)]; omega), ej, ltd, n1, n2, n3, n4, n5, ad 1, ad 2, ad 3, ad 4, ad 5]
    simp only [if_pos (iq 1 (by decide)), if_pos (iq 2 (by decide)), if_pos (iq 3 (by decide)), if_pos (iq 4 (by decide)), if_pos (iq 5 (by decide)), if_pos i6, hc, cq 1 (by decide), cq 2 (by decide), cq 3 (by decide), cq 4 (by decide), cq 5 (by decide), ltd]
    rw [f 3 _ _ _ (by decide), f 2 _ _ _ (by decide), f 1 _ _ _ (by decide), f 0 _ _ _ (by decide), e26 _ (by omega), e26 _ (by omega), e26 _ (by omega), e26 _ (by omega), e26 _ (by omega), sv _ (by omega) (by rw [show 8 + 6 * j + 1 = 9 + 6 * j by omega]; omega), sv _ (by omega) (by rw [show 8 + 6 * j + 2 = 9 + 6 * j + 1 by omega]; omega), sv _ (by omega) (by rw [show 8 + 6 * j + 3 = 9 + 6 * j + 2 by omega]; omega), sv _ (by omega) (by rw [show 8 + 6 * j + 4 = 9 + 6 * j + 3 by omega]; omega), sv _ (by omega) (by rw [show 8 + 6 * j + 5 = 9 + 6 * j + 4 by omega]; omega), nI_add]
    generalize hw1 : (wS (wS (wS (wS (wS w 20 0 j (nI (tx (8 + 6 * j + 1) - 48))) 21 0 j (nI (tx (8 + 6 * j + 2) - 48))) 22 0 j (nI (tx (8 + 6 * j + 3) - 48))) 23 0 j (nI (tx (8 + 6 * j + 4) - 48))) 24 0 j (nI (tx (8 + 6 * j + 5) - 48))) = w1
    have o1 : OffC (fun k i _ => 20 ≤ k ∧ k ≤ 24 ∧ i = 0) w w1 := by
      rw [← hw1]
      exact (OffC.wS.tr (OffC.wS.tr (OffC.wS.tr (OffC.wS.tr OffC.wS)))).mono (by intro k i j z; (try dsimp only at z); omega)
    obtain ⟨w', a1, a2, a3, a4, a5, a6⟩ := ih (j + 1) N w1 (by omega) (by omega) (by omega) (ht.offC o1 (by intro k i j z; (try dsimp only at z); omega)) (by rw [o1.1 6 0 0 (by (try dsimp only); omega)]; exact hz) (fun r hr q hq => by
      rw [← hw1]
      obtain rfl | rfl | rfl | rfl | rfl : q = 0 ∨ q = 1 ∨ q = 2 ∨ q = 3 ∨ q = 4 := by omega
      · by_cases hrj : r = j
        · rw [hrj, wS_off (by decide), wS_off (by decide), wS_off (by decide), wS_off (by decide)]
          show (wS w 20 0 j _).1 20 0 j = nI (tx (9 + 6 * j + 0) - 48)
          rw [wS_at, show 8 + 6 * j + 1 = 9 + 6 * j + 0 by omega]
        · rw [wS_off (by decide), wS_off (by decide), wS_off (by decide), wS_off (by decide)]
          exact (wS_ne hrj).trans (hg r (by omega) 0 (by decide))
      · by_cases hrj : r = j
        · rw [hrj, wS_off (by decide), wS_off (by decide), wS_off (by decide)]
          show (wS _ 21 0 j _).1 21 0 j = nI (tx (9 + 6 * j + 1) - 48)
          rw [wS_at, show 8 + 6 * j + 2 = 9 + 6 * j + 1 by omega]
        · rw [wS_off (by decide), wS_off (by decide), wS_off (by decide)]
          exact (wS_ne hrj).trans ((congrFun (wS_off (by decide)) r).trans (hg r (by omega) 1 (by decide)))
      · by_cases hrj : r = j
        · rw [hrj, wS_off (by decide), wS_off (by decide)]
          show (wS _ 22 0 j _).1 22 0 j = nI (tx (9 + 6 * j + 2) - 48)
          rw [wS_at, show 8 + 6 * j + 3 = 9 + 6 * j + 2 by omega]
        · rw [wS_off (by decide), wS_off (by decide)]
          exact (wS_ne hrj).trans (by rw [wS_off (by decide), wS_off (by decide)]; exact hg r (by omega) 2 (by decide))
      · by_cases hrj : r = j
        · rw [hrj, wS_off (by decide)]
          show (wS _ 23 0 j _).1 23 0 j = nI (tx (9 + 6 * j + 3) - 48)
          rw [wS_at, show 8 + 6 * j + 4 = 9 + 6 * j + 3 by omega]
        · rw [wS_off (by decide)]
          exact (wS_ne hrj).trans (by rw [wS_off (by decide), wS_off (by decide), wS_off (by decide)]; exact hg r (by omega) 3 (by decide))
      · by_cases hrj : r = j
        · rw [hrj]
          show (wS _ 24 0 j _).1 24 0 j = nI (tx (9 + 6 * j + 4) - 48)
          rw [wS_at, show 8 + 6 * j + 5 = 9 + 6 * j + 4 by omega]
        · exact (wS_ne hrj).trans (by rw [wS_off (by decide), wS_off (by decide), wS_off (by decide), wS_off (by decide)]; exact hg r (by omega) 4 (by decide)))
    exact ⟨w', a1, a2, a3, a4, a5, (o1.tr a6).mono (by intro k i j z; unfold CP6 at z ⊢; (try dsimp only at z); omega)⟩
theorem pm70 {t : Nat} {tx : Nat → Nat} (h : GT t tx) : ∀ (k j N : Nat) (w : Wd), 5 - j = k → k < N → j ≤ 5 → TXi t tx w → (∀ r, r < j → w.1 25 0 (3 + r) = nI (tx (3 + r) - 48)) →
    ∃ w', D_X6_parish_70 N (nI j) w = D_X6_parish_102 fuelZ 0 w' ∧ (∀ r, r < 5 → w'.1 25 0 (3 + r) = nI (tx (3 + r) - 48)) ∧ OffC (fun k i j => k = 25 ∧ i = 0 ∧ 3 ≤ j) w w' := by
  intro k
  induction k with
  | zero =>
    intro j N w hk hN hj ht hg
    obtain ⟨N, rfl⟩ : ∃ M, N = M + 1 := ⟨N - 1, by omega⟩
    have : j = 5 := by omega
    subst this
    unfold D_X6_parish_70
    rw [if_pos (by decide)]
    exact ⟨w, rfl, hg, OffC.rf⟩
  | succ k ih =>
    intro j N w hk hN hj ht hg
    obtain ⟨N, rfl⟩ : ∃ M, N = M + 1 := ⟨N - 1, by omega⟩
    have hr := (gt_head h).2.2 j (by omega)
    have i1 : inB (nI (3 + j)) 48 := (inB_n (by omega)).mpr (by omega)
    have i2 : inB (nI (3 + j)) 16 := (inB_n (by omega)).mpr (by omega)
    unfold D_X6_parish_70
    rw [if_neg (by rw [n5, nI_leI (by decide) (by omega)]; omega), n3, nI_add, if_pos i1, if_pos i2, nI_clamp (by omega), (ht.2.2.2.2 (3 + j) (by omega)).2, n48, pk_sub hr.1, ltd, ltd, n1, nI_add]
    obtain ⟨w', a1, a2, a3⟩ := ih (j + 1) N (wS w 25 0 (3 + j) (nI (tx (3 + j) - 48))) (by omega) (by omega) (by omega) (ht.offC OffC.wS (by intro k i j z; (try dsimp only at z); omega)) (fun r hr => by
      by_cases hrj : r = j
      · rw [hrj, wS_at]
      · rw [wS_ne (by omega)]; exact hg r (by omega))
    exact ⟨w', a1, a2, (OffC.wS.tr a3).mono (by intro k i j z; (try dsimp only at z); omega)⟩
theorem parish_ok : OkI D_X5_parish D_X6_parish := by
  intro c w hc hi
  have hi' := hi
  obtain ⟨t, tx, P, N, A, na, old, nx, K, V, nv, h1, h2, h3, h4, h5, h6⟩ := hi
  have ht48 := h1.1
  unfold D_X5_parish D_X6_parish
  rw [faultX_n h1, sb]
  by_cases hf : fltV tx t 45 0 = (-9)
  · obtain ⟨q1, q2, q3, q4⟩ := flt9 45 0 (by omega) (by omega) (by omega) hf
    have hG : GT t tx := ⟨q1, q2, q3, fun i hi => q4 i (by omega) hi, h1.2.1⟩
    obtain ⟨⟨a1, a2⟩, ⟨a3, a4⟩, a5⟩ := gt_head hG
    have hPok := PaT_ok hG
    have hP6 := hPok.1
    rw [if_pos hf]
    obtain ⟨w1, b1, b2, b3⟩ := readP_n hG h1
    have h1a := h1.offC b3 (by intro k i j z; (try dsimp only at z); omega)
    obtain ⟨w2, c1, c2, c3⟩ := readS_n hG h1a
    have ocl : OffC (fun k i _ => k = 0 ∧ i = 0) w2 (wS (wS w2 0 0 1 0) 0 0 2 0) := (OffC.wS.tr OffC.wS).mono (by intro k i j z; (try dsimp only at z); omega)
    obtain ⟨w3, d1, d2, d3⟩ := px46 2 0 fuelZ (wS (wS w2 0 0 1 0) 0 0 2 0) (by omega) (by decide) (by omega) (fun r hr => by omega)
    have oX := b3.tr (c3.tr (ocl.tr d3))
    have hX3 : XP (PaT t tx) w3 := b2.offC (c3.tr (ocl.tr d3)) (by intro k i j z; unfold CXn at z; (try dsimp only at z); omega)
    have hT3 := h1.offC oX (by intro k i j z; unfold CXn at z; (try dsimp only at z); omega)
    have e62 : (nI t - (8 : Int32)) / (6 : Int32) = nI ((t - 8) / 6) := by rw [n8, pk_sub q1]; exact pk_div (d := 6) (by omega) (by decide) (by decide)
    have e26 : ∀ p, p < 48 → w3.1 26 0 p = nI (tx p) := fun p hp => (hT3.2.2.2.2 p hp).2
    generalize hw4 : wS (wS (wS (wS (wS w3 6 0 0 (nI ((t - 8) / 6))) 6 0 1 (nI (tx 1 - 48))) 25 0 0 0) 25 0 1 (nI (tx 2 - 48))) 25 0 2 0 = w4
    have o4 : OffC (fun k i j => (k = 6 ∧ i = 0 ∧ j ≤ 1) ∨ (k = 25 ∧ i = 0 ∧ j < 3)) w3 w4 := by
      rw [← hw4]
      exact (OffC.wS.tr (OffC.wS.tr (OffC.wS.tr (OffC.wS.tr OffC.wS)))).mono (by intro k i j z; (try dsimp only at z); omega)
    have hT4 := hT3.offC o4 (by intro k i j z; (try dsimp only at z); omega)
    obtain ⟨w5, f1, f2, f3⟩ := pm70 hG 5 0 fuelZ w4 (by omega) (by decide) (by omega) hT4 (fun r hr => by omega)
    have hT5 := hT4.offC f3 (by intro k i j z; (try dsimp only at z); omega)
    have z4 : w4.1 6 0 0 = nI (PaT t tx).1 := by
      rw [← hw4, wS_off (by decide), wS_off (by decide), wS_off (by decide), wS_ne (by decide), wS_at]; rfl
    have z5 : w5.1 6 0 0 = nI (PaT t tx).1 := by rw [f3.1 6 0 0 (by (try dsimp only); omega)]; exact z4
    obtain ⟨w6, g1, g2, g3, g4, g5, g6⟩ := pm102 hG (PaT t tx).1 0 fuelZ w5 (by omega) (by unfold fuelZ; omega) (by omega) hT5 z5 (fun r hr => by omega)
    have oM := o4.tr (f3.tr g6)
    have oa := oX.tr oM
    have oN := f3.tr g6
    obtain ⟨⟨u1, u2, u3, u4⟩, ux, um⟩ := ACi_iff.mp h3
    refine ⟨nI (PaT t tx).1, w3, w6, ?_, ?_, t, tx, PaT t tx, NT tx, A, 0, 0, nx, fun _ => none, V, nv, ?_, ⟨hPok, ?_, ⟨?_, ?_, fun i hi => ?_⟩, NT_ok hG, ?_, ?_⟩, ACi_iff.mpr ⟨⟨by omega, by omega, u3, fun i hi => by omega⟩, ⟨?_, ?_, fun i hi => by omega⟩, ⟨?_, ?_, fun i hi => by omega⟩⟩, fun q hq => ⟨?_, ?_, fun x hx => by cases hx⟩, ?_, ?_⟩
    · rw [b1, sb, c1, sb]
      unfold D_X0_clear
      rw [ltd, ltd, sb]
      exact d1.trans (by rw [show w3.1 1 0 2 = nI (PaT t tx).1 from hX3.1])
    · rw [faultM_n hT3, sb, if_pos hf, show w3.1 6 0 9 = nI t from hT3.2.2.2.1, e62, ltd, wS_off (by decide), e26 1 (by decide), n48, pk_sub (show 48 ≤ tx 1 by omega), ltd, ltd, wS_off (k' := 26) (by decide), wS_off (k' := 26) (by decide), wS_off (k' := 26) (by decide), e26 2 (by decide), pk_sub a3, ltd, ltd, hw4, ← g1]
      exact f1
    · exact h1.offC oa (by intro k i j z; unfold CXn CP6 at z; (try dsimp only at z); omega)
    · exact hX3.offC oM (by intro k i j z; unfold CP6 at z; (try dsimp only at z); omega)
    · rw [g6.1 6 0 0 (by unfold CP6; omega)]; exact z5
    · rw [oN.1 6 0 1 (by unfold CP6; (try dsimp only); omega), ← hw4, wS_off (by decide), wS_off (by decide), wS_off (by decide), wS_at]; rfl
    · exact ⟨g2 i hi 0 (by decide), g2 i hi 1 (by decide), g2 i hi 2 (by decide), g2 i hi 3 (by decide), g2 i hi 4 (by decide)⟩
    · exact c2.offC ((ocl.tr d3).tr oM) (by intro k i j z; unfold CP6 at z; (try dsimp only at z); omega)
    · refine ⟨?_, ?_, ?_, fun r hr => ?_⟩
      · show w6.1 25 0 0 = nI 0
        rw [oN.1 25 0 0 (by unfold CP6; (try dsimp only); omega), ← hw4, wS_ne (by decide), wS_ne (by decide), wS_at]; rfl
      · show w6.1 25 0 1 = nI (tx 2 - 48)
        rw [oN.1 25 0 1 (by unfold CP6; (try dsimp only); omega), ← hw4, wS_ne (by decide), wS_at]
      · show w6.1 25 0 2 = nI 0
        rw [oN.1 25 0 2 (by unfold CP6; (try dsimp only); omega), ← hw4, wS_at]; rfl
      · rw [show 8 * 0 + 3 + r = 3 + r by omega, g6.1 25 0 (3 + r) (by unfold CP6; omega)]
        exact f2 r hr
    · rw [(d3.tr oM).1 0 0 1 (by unfold CP6; (try dsimp only); omega), wS_ne (by decide), wS_at]; rfl
    · rw [(d3.tr oM).1 0 0 2 (by unfold CP6; (try dsimp only); omega), wS_at]; rfl
    · exact g3
    · rw [oa.1 6 0 11 (by unfold CXn CP6; (try dsimp only); omega)]; exact um.2.1
    · rw [oM.1 19 0 q (by unfold CP6; (try dsimp only); omega)]; exact d2 q hq
    · obtain rfl | rfl : q = 0 ∨ q = 1 := by omega
      · exact g4
      · exact g5
    · exact h5.offC oa (by intro k i j z; unfold CXn CP6 at z; (try dsimp only at z); omega)
    · rw [oa.2]; exact h6
  · rw [if_neg hf]
    refine ⟨-3, w, w, rfl, ?_, hi'.same Sm.rf⟩
    rw [faultM_n h1, sb, if_neg hf]
