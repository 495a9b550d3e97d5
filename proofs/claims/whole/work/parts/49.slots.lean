/-! undoing, keeping, and the small deeds -/
theorem undo_loop {nx na : Nat} (hnx : nx < 14) : ∀ (n j N : Nat) (w : Wd), 8 - j < n → n ≤ N → j ≤ 8 → w.1 6 0 11 = nI nx → w.1 6 0 10 = nI na → (∀ r, r < j → w.1 25 0 r = w.1 27 0 (8 * nx + r)) →
    ∃ w', D_X6_undo_36 N (nI j) w = some (nI na, w') ∧ (∀ r, r < 8 → w'.1 25 0 r = w.1 27 0 (8 * nx + r)) ∧ OffC CMn w w' := by
  intro n
  induction n with
  | zero => intro j N w h; omega
  | succ n ih =>
    intro j N w h hN hj e1 e2 hg
    obtain ⟨N, rfl⟩ : ∃ M, N = M + 1 := ⟨N - 1, by omega⟩
    unfold D_X6_undo_36
    by_cases h8 : j = 8
    · subst h8
      rw [if_pos (by rw [n8]; exact (nI_leI (by decide) (by decide)).mpr (Nat.le_refl _)), e2]
      exact ⟨w, rfl, hg, OffC.rf⟩
    · have hj8 : j < 8 := by omega
      rw [if_neg (by rw [n8, nI_leI (by decide) (by omega)]; omega), e1, n8, pk_mul, nI_add, if_pos ((inB_n (by omega)).mpr (by omega)), if_pos ((inB_n (by omega)).mpr (by omega)), ltd, ltd, nI_clamp (by omega), nI_clamp (by omega), n1, nI_add]
      obtain ⟨w', h1, h2, h5⟩ := ih (j + 1) N (wS w 25 0 j (w.1 27 0 (8 * nx + j))) (by omega) (by omega) (by omega) (by rw [wS_off (by decide)]; exact e1) (by rw [wS_off (by decide)]; exact e2) (fun r hr => by
        rw [wS_off (k' := 27) (by decide)]
        by_cases hrj : r = j
        · subst hrj; rw [wS_at]
        · rw [wS_ne (by omega)]; exact hg r (by omega))
      refine ⟨w', h1, fun r hr => (h2 r hr).trans (by rw [wS_off (by decide)]), (OffC.wS.tr h5).mono ?_⟩
      intro k i c z; unfold CMn at z ⊢; (try dsimp only at z); omega
theorem undo_ok : OkI D_X5_undo D_X6_undo := by
  intro c w hc hi
  have hi' := hi
  obtain ⟨t, tx, P, N, A, na, old, nx, K, V, nv, h1, h2, h3, h4, h5, h6⟩ := hi
  obtain ⟨hP, hX, hM, hs, hx, hm⟩ := id h2
  obtain ⟨⟨g1, g2, g3, g4⟩, gx, gm⟩ := ACi_iff.mp h3
  unfold D_X5_undo D_X6_undo D_X0_takeBack
  rw [if_pos (by decide), gx.2.1]
  by_cases h0 : na = 0
  · subst h0
    refine ⟨-3, w, w, ?_, ?_, hi'.same Sm.rf⟩
    · rw [if_neg (by decide)]; rfl
    · rw [gm.1, if_pos (show nI 0 = 0 from rfl)]
  · have hp : 0 < nI na := (nI_ltI (a := 0) (by decide) (by omega)).mpr (by omega)
    have hnz : ¬ nI na = 0 := fun z => h0 ((nI_eq (b := 0) (by omega) (by decide)).mp z)
    have hlt := Nat.mod_lt (old + (na - 1)) (show 14 > 0 by decide)
    rw [if_pos hp, n1, pk_sub (by omega), ltd]
    have o1 : OffC (fun k _ _ => k = 0) w (wS w 0 0 2 (nI (na - 1))) := OffC.wS.mono (by intro k i j z; omega)
    have f1 : (wS w 0 0 2 (nI (na - 1))).1 0 0 2 = nI (na - 1) := wS_at
    have f2 : (wS w 0 0 2 (nI (na - 1))).1 0 0 1 = nI old := by rw [wS_ne (by decide)]; exact gx.1
    rw [f1, standAt_n f2 g2 (by omega), sb]
    obtain ⟨w2, a1, a2, a3⟩ := take_n (a := 0) (b := 5 + (old + (na - 1)) % 14) (by decide) (by omega) (by omega) ((gx.2.2 (na - 1) (by omega)).offC o1 (by intro k i j z; (try dsimp only at z); omega))
    have o2 : OffC CXn (wS w 0 0 2 (nI (na - 1))) w2 := (OffC.of a3).mono (by intro k i j z; simp at z; unfold CXn; omega)
    have oa := o1.tr o2
    have f3 : w2.1 0 0 2 = nI (na - 1) := by rw [o2.1 0 0 2 (by unfold CXn; omega)]; exact f1
    have f4 : w2.1 0 0 1 = nI old := by rw [o2.1 0 0 1 (by unfold CXn; omega)]; exact f2
    have f5 : w2.1 6 0 10 = nI na := by rw [oa.1 6 0 10 (by unfold CXn; (try dsimp only); omega)]; exact gm.1
    have f6 : w2.1 6 0 11 = nI nx := by rw [oa.1 6 0 11 (by unfold CXn; (try dsimp only); omega)]; exact gm.2.1
    have o3 : OffC (fun k i j => k = 6 ∧ (j = 10 ∨ j = 11)) w2 (wS (wS w2 6 0 10 (nI (na - 1))) 6 0 11 (nI ((nx + 13) % 14))) := (OffC.wS.tr OffC.wS).mono (by intro k i j z; (try dsimp only at z); omega)
    have f7 : (wS w2 6 0 10 (nI (na - 1))).1 6 0 11 = nI nx := by rw [wS_ne (by decide)]; exact f6
    obtain ⟨w4, b1, b2, b3⟩ := undo_loop (nx := (nx + 13) % 14) (na := na - 1) (by omega) 9 0 fuelZ (wS (wS w2 6 0 10 (nI (na - 1))) 6 0 11 (nI ((nx + 13) % 14))) (by omega) (by decide) (by omega) wS_at (by rw [wS_ne (by decide), wS_at]) (fun r hr => by omega)
    refine ⟨nI (na - 1), w2, w4, ?_, ?_, ?_⟩
    · rw [a1, sb, sb]; dsimp only; rw [if_neg (show ¬ nI 1 = 0 by decide), f3]
    · rw [f5, if_neg hnz, pk_sub (by omega), ltd, f7, n13, nI_add, mod14_n (by omega), ltd]
      exact b1
    · have ob := oa.tr (o3.tr b3)
      have od := o3.tr b3
      have hb : Blk 27 (8 * ((nx + 13) % 14)) (A (na - 1)) (wS (wS w2 6 0 10 (nI (na - 1))) 6 0 11 (nI ((nx + 13) % 14))) := by
        have := gm.2.2 (na - 1) (by omega)
        rw [show (nx + 14 - na + (na - 1)) % 14 = (nx + 13) % 14 by omega] at this
        exact Blk_off this (oa.tr o3) (by intro r hr z; unfold CXn at z; (try dsimp only at z); omega)
      refine ⟨t, tx, P, A (na - 1), A, na - 1, old, (nx + 13) % 14, K, V, nv, ?_, ⟨hP, ?_, ?_, (g4 (na - 1) (by omega)).mono (by omega), ?_, ?_⟩, ACi_iff.mpr ⟨⟨by omega, g2, by omega, fun i hi => (g4 i (by omega)).mono (by omega)⟩, ⟨?_, ?_, fun i hi => ?_⟩, ⟨?_, ?_, fun i hi => ?_⟩⟩, KEi.mono (B := 16 * c + 16) ?_ (by omega), ?_, ?_⟩
      · exact h1.offC ob (by intro k i j z; unfold CXn CMn at z; (try dsimp only at z); omega)
      · exact hX.offC ob (by intro k i j z; unfold CXn CMn at z; (try dsimp only at z); omega)
      · exact hM.offC ob (by intro k i j z; unfold CXn CMn at z; (try dsimp only at z); omega)
      · exact a2.offC od (by intro k i j z; unfold CMn at z; (try dsimp only at z); omega)
      · exact Blk_cells (k' := 25) (b' := 8 * 0) hb (fun r hr => by rw [show 8 * 0 + r = r by omega]; exact b2 r hr)
      · rw [od.1 0 0 1 (by unfold CMn; (try dsimp only); omega)]; exact f4
      · rw [od.1 0 0 2 (by unfold CMn; (try dsimp only); omega)]; exact f3
      · exact (gx.2.2 i (by omega)).offC ob (by intro k i' j z; unfold CXn CMn at z; (try dsimp only at z); omega)
      · rw [b3.1 6 0 10 (by unfold CMn; omega), wS_ne (by decide), wS_at]
      · rw [b3.1 6 0 11 (by unfold CMn; omega), wS_at]
      · rw [show ((nx + 13) % 14 + 14 - (na - 1) + i) % 14 = (nx + 14 - na + i) % 14 by omega]
        exact Blk_off (gm.2.2 i (by omega)) ob (by intro r hr z; unfold CXn CMn at z; (try dsimp only at z); omega)
      · exact h4.offC ob (by intro k i j z; unfold CXn CMn at z; (try dsimp only at z); omega)
      · exact h5.offC ob (by intro k i j z; unfold CXn CMn at z; (try dsimp only at z); omega)
      · rw [ob.2]; exact h6
theorem wipe_ok : OkI D_X5_wipe D_X6_wipe := by
  intro c w hc hi
  obtain ⟨t, tx, P, N, A, na, old, nx, K, V, nv, h1, h2, h3, h4, h5, h6⟩ := hi
  obtain ⟨hP, hX, hM, hs, hx, hm⟩ := id h2
  obtain ⟨⟨g1, g2, g3, g4⟩, gx, gm⟩ := ACi_iff.mp h3
  obtain ⟨t1, t2, t3, t4, t5⟩ := h1
  have o : OffC (fun k i j => (k = 4 ∧ i = 0 ∧ j = 1) ∨ (k = 6 ∧ i = 0 ∧ j = 9)) w (wS (wS w 4 0 1 0) 6 0 9 0) := OffC.wS.tr OffC.wS
  refine ⟨nI t, wS w 4 0 1 0, wS (wS w 4 0 1 0) 6 0 9 0, ?_, ?_, 0, tx, P, N, A, na, old, nx, K, V, nv, ⟨by omega, t2, ?_, ?_, fun j hj => ⟨?_, ?_⟩⟩, QI.mono (B := 16 * c + 16) ⟨hP, ?_, ?_, hs, ?_, ?_⟩ (by omega), ACi.mono (B := 16 * c + 16) (ACi_iff.mpr ⟨⟨g1, g2, g3, g4⟩, ?_, ?_⟩) (by omega), KEi.mono (B := 16 * c + 16) ?_ (by omega), ?_, ?_⟩
  · unfold D_X5_wipe; rw [t3]; rfl
  · unfold D_X6_wipe; rw [wS_off (by decide), t4]; rfl
  · rw [wS_off (by decide), wS_at]; rfl
  · rw [wS_at]; rfl
  · rw [wS_off (by decide), wS_off (by decide)]; exact (t5 j hj).1
  · rw [wS_off (by decide), wS_off (by decide)]; exact (t5 j hj).2
  · exact hX.offC o (by intro k i j z; (try dsimp only at z); omega)
  · exact hM.offC o (by intro k i j z; (try dsimp only at z); omega)
  · exact hx.offC o (by intro k i j z; (try dsimp only at z); omega)
  · exact hm.offC o (by intro k i j z; (try dsimp only at z); omega)
  · exact gx.offC o (by intro k i j z; (try dsimp only at z); omega)
  · exact gm.offC o (by intro k i j z; (try dsimp only at z); omega)
  · exact h4.offC o (by intro k i j z; (try dsimp only at z); omega)
  · exact h5.offC o (by intro k i j z; (try dsimp only at z); omega)
  · exact h6
/-- only the letters change -/
theorem Inv.tx {c : Nat} {w w' : Wd} {t' : Nat} {tx' : Nat → Nat} {P : Pa} {N : Sd} {A : Nat → Sd} {na old nx : Nat} {K : Nat → Option Sd} {V : Nat → Nat × Nat} {nv : Nat} (h2 : QI P (16 * c + 16) N w) (h3 : ACi P.1 (16 * c + 16) A na old nx w) (h4 : KEi P.1 (16 * c + 16) K w) (h5 : VIi V nv w) (h6 : w.2 5 = w.2 6) (h1' : TXi t' tx' w')
    (o : OffC (fun k i j => (k = 4 ∨ k = 10 ∨ k = 26) ∨ (k = 6 ∧ i = 0 ∧ j = 9)) w w') : Inv (c + 1) w' := by
  obtain ⟨hP, hX, hM, hs, hx, hm⟩ := id h2
  obtain ⟨⟨g1, g2, g3, g4⟩, gx, gm⟩ := ACi_iff.mp h3
  refine ⟨t', tx', P, N, A, na, old, nx, K, V, nv, h1', QI.mono (B := 16 * c + 16) ⟨hP, ?_, ?_, hs, ?_, ?_⟩ (by omega), ACi.mono (B := 16 * c + 16) (ACi_iff.mpr ⟨⟨g1, g2, g3, g4⟩, ?_, ?_⟩) (by omega), KEi.mono (B := 16 * c + 16) ?_ (by omega), ?_, ?_⟩
  · exact hX.offC o (by intro k i j z; (try dsimp only at z); omega)
  · exact hM.offC o (by intro k i j z; (try dsimp only at z); omega)
  · exact hx.offC o (by intro k i j z; (try dsimp only at z); omega)
  · exact hm.offC o (by intro k i j z; (try dsimp only at z); omega)
  · exact gx.offC o (by intro k i j z; (try dsimp only at z); omega)
  · exact gm.offC o (by intro k i j z; (try dsimp only at z); omega)
  · exact h4.offC o (by intro k i j z; (try dsimp only at z); omega)
  · exact h5.offC o (by intro k i j z; (try dsimp only at z); omega)
  · rw [o.2]; exact h6
theorem write_ok (x : Int32) : OkI (fun w => D_X5_write w x) (fun w => D_X6_write w x) := by
  intro c w hc hi
  have hi' := hi
  obtain ⟨t, tx, P, N, A, na, old, nx, K, V, nv, h1, h2, h3, h4, h5, h6⟩ := hi
  obtain ⟨t1, t2, t3, t4, t5⟩ := h1
  dsimp only
  unfold D_X5_write D_X6_write D_X4_add
  rcases ix_cases x (n := 256) (by decide) with ⟨j, hj, rfl⟩ | ho
  · have hin : D_X6_in (Int32.toInt64 (nI j)) 0 255 = some 1 := inM_y (n := 256) (by decide) (by decide) hj
    have hle : nI j ≤ nI 255 := (nI_leI (by omega) (by decide)).mpr (by omega)
    rw [if_neg (nI_lt0 (by omega)), if_pos (show nI j ≤ 255 from hle), t3, if_neg (nI_lt0 (by omega))]
    by_cases hf : t < 48
    · rw [if_pos (by rw [n48]; exact (nI_ltI (by omega) (by decide)).mpr hf), if_pos ((inB_n (by omega)).mpr hf), nI_clamp (by omega), ltd]
      have e1 : (wS w 10 0 t (nI j)).1 4 0 1 = nI t := by rw [wS_off (by decide)]; exact t3
      rw [e1, n1, nI_add, ltd, sb, if_neg (show ¬ nI 1 = 0 by decide)]
      have e2 : ∀ v k j', (k = 6 ∨ k = 26) → (wS (wS w 10 0 t (nI j)) 4 0 1 v).1 k 0 j' = w.1 k 0 j' := fun v k j' hk => by rw [wS_off (by omega), wS_off (by omega)]
      refine ⟨nI (t + 1), wS (wS w 10 0 t (nI j)) 4 0 1 (nI (t + 1)), wS (wS (wS (wS w 10 0 t (nI j)) 4 0 1 (nI (t + 1))) 26 0 t (nI j)) 6 0 9 (nI (t + 1)), ?_, ?_, Inv.tx (t' := t + 1) (tx' := fun i => if i = t then j else tx i) h2 h3 h4 h5 h6 ⟨by omega, fun i hi => ?_, ?_, ?_, fun i hi => ⟨?_, ?_⟩⟩ ((OffC.wS.tr (OffC.wS.tr (OffC.wS.tr OffC.wS))).mono (by intro k i j z; (try dsimp only at z); omega))⟩
      · rw [wS_at]
      · rw [hin, sb, if_neg ne10, e2 _ _ _ (by decide), t4, if_neg (by rw [n48, nI_eq (by omega) (by decide)]; omega), if_pos ((inB_n (by omega)).mpr hf), nI_clamp (by omega), ltd, wS_off (by decide), e2 _ _ _ (by decide), t4, nI_add, ltd, wS_at]
      · dsimp only; split
        · omega
        · exact t2 i hi
      · rw [wS_off (by decide), wS_off (by decide), wS_at]
      · rw [wS_at]
      · rw [wS_off (by decide), wS_off (by decide), wS_off (by decide)]
        show _ = nI (if i = t then j else tx i)
        by_cases hit : i = t
        · rw [hit, wS_at, if_pos rfl]
        · rw [wS_ne hit, if_neg hit]; exact (t5 i hi).1
      · rw [wS_off (by decide)]
        show _ = nI (if i = t then j else tx i)
        by_cases hit : i = t
        · rw [hit, wS_at, if_pos rfl]
        · rw [wS_ne hit, if_neg hit, wS_off (by decide), wS_off (by decide)]; exact (t5 i hi).2
    · have h48 : t = 48 := by omega
      subst h48
      refine ⟨-4, w, w, ?_, ?_, hi'.same Sm.rf⟩
      · rw [if_neg (by decide)]; rfl
      · rw [hin, sb, if_neg ne10, t4, if_pos (by decide)]
  · have hin : D_X6_in (Int32.toInt64 x) 0 255 = some 0 := inM_o (n := 256) (by decide) (by decide) ho
    refine ⟨-2, w, w, ?_, by rw [hin]; rfl, hi'.same Sm.rf⟩
    by_cases h : x < 0
    · rw [if_pos h]
    · have g : ¬ x ≤ nI 255 := out_le (by decide) ho h (by decide)
      rw [if_neg h, if_neg (show ¬ x ≤ 255 from g)]
theorem keep_loop {q : Nat} (hq : q < 2) : ∀ (n j N : Nat) (w : Wd), 8 - j < n → n ≤ N → j ≤ 8 → (∀ r, r < j → w.1 32 0 (8 * q + r) = w.1 25 0 r) →
    ∃ w', D_X6_keep_21 N (nI q) (nI j) w = some (w.1 25 0 0, w') ∧ (∀ r, r < 8 → w'.1 32 0 (8 * q + r) = w.1 25 0 r) ∧ OffC (fun k i c => k = 32 ∧ 8 * q ≤ c ∧ c < 8 * q + 8) w w' := by
  intro n
  induction n with
  | zero => intro j N w h; omega
  | succ n ih =>
    intro j N w h hN hj hg
    obtain ⟨N, rfl⟩ : ∃ M, N = M + 1 := ⟨N - 1, by omega⟩
    unfold D_X6_keep_21
    by_cases h8 : j = 8
    · subst h8
      rw [if_pos (by rw [n8]; exact (nI_leI (by decide) (by decide)).mpr (Nat.le_refl _))]
      exact ⟨w, rfl, hg, OffC.rf⟩
    · have hj8 : j < 8 := by omega
      rw [if_neg (by rw [n8, nI_leI (by decide) (by omega)]; omega), n8, pk_mul, nI_add, if_pos ((inB_n (by omega)).mpr (by omega)), if_pos ((inB_n (by omega)).mpr (by omega)), ltd, ltd, nI_clamp (by omega), nI_clamp (by omega), n1, nI_add]
      have e : ∀ r, (wS w 32 0 (8 * q + j) (w.1 25 0 j)).1 25 0 r = w.1 25 0 r := fun r => by rw [wS_off (by decide)]
      obtain ⟨w', h1, h2, h5⟩ := ih (j + 1) N (wS w 32 0 (8 * q + j) (w.1 25 0 j)) (by omega) (by omega) (by omega) (fun r hr => by
        rw [e]
        by_cases hrj : r = j
        · subst hrj; rw [wS_at]
        · rw [wS_ne (by omega)]; exact hg r (by omega))
      refine ⟨w', by rw [h1, e], fun r hr => (h2 r hr).trans (e r), (OffC.wS.tr h5).mono ?_⟩
      intro k i c z; (try dsimp only at z); omega
theorem again_loop {q : Nat} (hq : q < 2) : ∀ (n j N : Nat) (w : Wd), 8 - j < n → n ≤ N → j ≤ 8 → (∀ r, r < j → w.1 25 0 r = w.1 32 0 (8 * q + r)) →
    ∃ w', D_X6_again_26 N (nI q) (nI j) w = some (w'.1 25 0 0, w') ∧ (∀ r, r < 8 → w'.1 25 0 r = w.1 32 0 (8 * q + r)) ∧ w'.1 6 0 10 = 0 ∧ OffC (fun k i c => (k = 25 ∧ i = 0) ∨ (k = 6 ∧ i = 0 ∧ c = 10)) w w' := by
  intro n
  induction n with
  | zero => intro j N w h; omega
  | succ n ih =>
    intro j N w h hN hj hg
    obtain ⟨N, rfl⟩ : ∃ M, N = M + 1 := ⟨N - 1, by omega⟩
    unfold D_X6_again_26
    by_cases h8 : j = 8
    · subst h8
      rw [if_pos (by rw [n8]; exact (nI_leI (by decide) (by decide)).mpr (Nat.le_refl _)), ltd]
      refine ⟨_, rfl, fun r hr => ?_, wS_at, OffC.wS.mono (by intro k i j z; (try dsimp only at z); omega)⟩
      rw [wS_off (by decide)]; exact hg r hr
    · have hj8 : j < 8 := by omega
      rw [if_neg (by rw [n8, nI_leI (by decide) (by omega)]; omega), n8, pk_mul, nI_add, if_pos ((inB_n (by omega)).mpr (by omega)), if_pos ((inB_n (by omega)).mpr (by omega)), ltd, ltd, nI_clamp (by omega), nI_clamp (by omega), n1, nI_add]
      obtain ⟨w', h1, h2, h3, h5⟩ := ih (j + 1) N (wS w 25 0 j (w.1 32 0 (8 * q + j))) (by omega) (by omega) (by omega) (fun r hr => by
        rw [wS_off (k' := 32) (by decide)]
        by_cases hrj : r = j
        · subst hrj; rw [wS_at]
        · rw [wS_ne (by omega)]; exact hg r (by omega))
      refine ⟨w', h1, fun r hr => (h2 r hr).trans (by rw [wS_off (by decide)]), h3, (OffC.wS.tr h5).mono ?_⟩
      intro k i c z; (try dsimp only at z); omega
theorem slotX_n {w : Wd} {q : Nat} (hq : q < 2) : D_X5_isSlot w (nI q) = some 1 := by
  unfold D_X5_isSlot
  rw [if_neg (nI_lt0 (by omega)), if_neg (by rw [n2, nI_leI (by decide) (by omega)]; omega), if_neg (by rw [n2, nI_leI (by decide) (by omega)]; omega)]
theorem slotX_o {w : Wd} {x : Int32} (hx : x < 0 ∨ nI 2 ≤ x) : D_X5_isSlot w x = some 0 := by
  unfold D_X5_isSlot
  by_cases h : x < 0
  · rw [if_pos h]
  · rw [if_neg h]
    rcases hx with hx | hx
    · exact absurd hx h
    · rw [if_pos (show (2 : Int32) ≤ x from hx)]
theorem keep_ok (x : Int32) : OkI (fun w => D_X5_keep w x) (fun w => D_X6_keep w x) := by
  intro c w hc hi
  have hi' := hi
  obtain ⟨t, tx, P, N, A, na, old, nx, K, V, nv, h1, h2, h3, h4, h5, h6⟩ := hi
  obtain ⟨hP, hX, hM, hs, hx, hm⟩ := id h2
  obtain ⟨⟨g1, g2, g3, g4⟩, gx, gm⟩ := ACi_iff.mp h3
  dsimp only
  unfold D_X5_keep D_X6_keep
  rcases ix_cases x (n := 2) (by decide) with ⟨q, hq, rfl⟩ | ho
  · obtain ⟨w1, a1, a2, a3⟩ := take_n (a := 3 + q) (b := 0) (by omega) (by decide) (by omega) hx
    have hin : D_X6_in (Int32.toInt64 (nI q)) 0 1 = some 1 := inM_y (n := 2) (by decide) (by decide) hq
    have i2 : inB (nI q) 2 := (inB_n (by omega)).mpr hq
    have o1 : OffC (fun k i _ => (k = 3 ∨ k = 15) ∧ i = 3 + q) w w1 := (OffC.of a3).mono (by intro k i j z; simp at z; omega)
    have o2 : OffC (fun k i j => k = 19 ∧ i = 0 ∧ j = q) w1 (wS w1 19 0 q 1) := OffC.wS
    have o3 : OffC (fun k i j => k = 33 ∧ i = 0 ∧ j = q) (wS w1 19 0 q 1) (wS (wS w1 19 0 q 1) 33 0 q 1) := OffC.wS
    obtain ⟨w3, b1, b2, b3⟩ := keep_loop hq 9 0 fuelZ (wS (wS w1 19 0 q 1) 33 0 q 1) (by omega) (by decide) (by omega) (fun r hr => by omega)
    have oa := (o1.tr (o2.tr (o3.tr b3)))
    have ob := (o1.tr (o2.tr o3))
    have od := o2.tr (o3.tr b3)
    have hm1 : ML 0 N (wS (wS w1 19 0 q 1) 33 0 q 1) := hm.offC ob (by intro k i j z; (try dsimp only at z); omega)
    refine ⟨nI N.1, wS w1 19 0 q 1, w3, ?_, ?_, t, tx, P, N, A, na, old, nx, fun p => if p = q then some N else K p, V, nv, ?_, QI.mono (B := 16 * c + 16) ⟨hP, ?_, ?_, hs, ?_, ?_⟩ (by omega), ACi.mono (B := 16 * c + 16) (ACi_iff.mpr ⟨⟨g1, g2, g3, g4⟩, ?_, ?_⟩) (by omega), KEi.mono (B := 16 * c + 16) (fun p hp => ?_) (by omega), ?_, ?_⟩
    · rw [slotX_n hq, sb, if_neg ne10]
      simp only [if_pos i2, nI_clamp (show q < 2 ^ 31 by omega)]
      rw [if_pos (by omega), a1, sb, ltd, wS_off (by decide), o1.1 3 0 1 (by (try dsimp only); omega), hx.1]
    · rw [hin, sb, if_neg ne10, if_pos i2, nI_clamp (by omega), ltd]
      exact b1.trans (by rw [show (wS (wS w1 19 0 q 1) 33 0 q 1).1 25 0 0 = nI N.1 from hm1.1])
    · exact h1.offC oa (by intro k i j z; (try dsimp only at z); omega)
    · exact hX.offC oa (by intro k i j z; (try dsimp only at z); omega)
    · exact hM.offC oa (by intro k i j z; (try dsimp only at z); omega)
    · exact hx.offC oa (by intro k i j z; (try dsimp only at z); omega)
    · exact hm.offC oa (by intro k i j z; (try dsimp only at z); omega)
    · exact gx.offC oa (by intro k i j z; (try dsimp only at z); omega)
    · exact gm.offC oa (by intro k i j z; (try dsimp only at z); omega)
    · by_cases hpq : p = q
      · subst hpq
        refine ⟨?_, ?_, fun y hy => ?_⟩
        · rw [b3.1 19 0 p (by omega), wS_off (by decide), wS_at, if_pos (by rw [if_pos rfl]; rfl)]; rfl
        · rw [b3.1 33 0 p (by omega), wS_at, if_pos (by rw [if_pos rfl]; rfl)]; rfl
        · rw [if_pos rfl] at hy
          cases hy
          exact ⟨hs, a2.offC od (by intro k i j z; (try dsimp only at z); omega), Blk_cells (k := 25) (b := 8 * 0) hm1 (fun r hr => by rw [show 8 * 0 + r = r by omega]; exact b2 r hr)⟩
      · obtain ⟨k1, k2, k3⟩ := h4 p hp
        simp only [if_neg hpq]
        refine ⟨?_, ?_, fun y hy => ⟨(k3 y hy).1, (k3 y hy).2.1.offC oa (by intro k i j z; (try dsimp only at z); omega), Blk_off (k3 y hy).2.2 oa (by intro r hr z; (try dsimp only at z); omega)⟩⟩
        · rw [oa.1 19 0 p (by (try dsimp only); omega)]; exact k1
        · rw [oa.1 33 0 p (by (try dsimp only); omega)]; exact k2
    · exact h5.offC oa (by intro k i j z; (try dsimp only at z); omega)
    · rw [oa.2]; exact h6
  · rw [slotX_o ho, inM_o (n := 2) (by decide) (by decide) ho]
    exact ⟨_, w, w, rfl, rfl, hi'.same Sm.rf⟩
theorem again_ok (x : Int32) : OkI (fun w => D_X5_again w x) (fun w => D_X6_again w x) := by
  intro c w hc hi
  have hi' := hi
  obtain ⟨t, tx, P, N, A, na, old, nx, K, V, nv, h1, h2, h3, h4, h5, h6⟩ := hi
  obtain ⟨hP, hX, hM, hs, hx, hm⟩ := id h2
  obtain ⟨⟨g1, g2, g3, g4⟩, gx, gm⟩ := ACi_iff.mp h3
  dsimp only
  unfold D_X5_again D_X6_again
  rcases ix_cases x (n := 2) (by decide) with ⟨q, hq, rfl⟩ | ho
  · have hin : D_X6_in (Int32.toInt64 (nI q)) 0 1 = some 1 := inM_y (n := 2) (by decide) (by decide) hq
    have i2 : inB (nI q) 2 := (inB_n (by omega)).mpr hq
    obtain ⟨k1, k2, k3⟩ := h4 q hq
    rw [slotX_n hq, sb, if_neg ne10]
    simp only [hin, sb, if_neg ne10, if_pos i2, nI_clamp (show q < 2 ^ 31 by omega)]
    cases hK : K q with
    | none =>
      rw [hK] at k1 k2
      refine ⟨-3, w, w, by rw [k1]; rfl, by rw [k2]; rfl, hi'.same Sm.rf⟩
    | some s =>
      rw [hK] at k1 k2
      obtain ⟨u1, u2, u3⟩ := k3 s hK
      have q1 : ¬ w.1 19 0 q = 0 := by rw [k1, if_pos (show (some s).isSome = true from rfl)]; decide
      obtain ⟨w1, a1, a2, a3⟩ := take_n (a := 0) (b := 3 + q) (by decide) (by omega) (by omega) u2
      have o1 : OffC CXn w w1 := (OffC.of a3).mono (by intro k i j z; simp at z; unfold CXn; omega)
      have o2 : OffC (fun k i j => k = 0) w1 (wS (wS w1 0 0 1 0) 0 0 2 0) := (OffC.wS.tr OffC.wS).mono (by intro k i j z; (try dsimp only at z); omega)
      obtain ⟨w3, b1, b2, b4, b3⟩ := again_loop hq 9 0 fuelZ (wS (wS w1 0 0 1 0) 0 0 2 0) (by omega) (by decide) (by omega) (fun r hr => by omega)
      have oa := o1.tr (o2.tr b3)
      have od := o2.tr b3
      have hb : ML 0 s w3 := Blk_cells (k := 32) (b := 8 * q) (k' := 25) (b' := 8 * 0) (Blk_off u3 (o1.tr o2) (by intro r hr z; unfold CXn at z; (try dsimp only at z); omega)) (fun r hr => by rw [show 8 * 0 + r = r by omega]; exact b2 r hr)
      refine ⟨nI s.1, wS (wS w1 0 0 1 0) 0 0 2 0, w3, ?_, ?_, t, tx, P, s, A, 0, 0, nx, K, V, nv, ?_, QI.mono (B := 16 * c + 16) ⟨hP, ?_, ?_, u1, ?_, hb⟩ (by omega), ACi.mono (B := 16 * c + 16) (ACi_iff.mpr ⟨⟨by omega, by omega, g3, fun i hi => by omega⟩, ⟨?_, ?_, fun i hi => by omega⟩, ⟨?_, ?_, fun i hi => by omega⟩⟩) (by omega), KEi.mono (B := 16 * c + 16) ?_ (by omega), ?_, ?_⟩
      · rw [if_neg q1, a1, sb]
        unfold D_X0_clear
        rw [ltd, ltd, sb, wS_off (by decide), wS_off (by decide), a2.1]
      · have e : (wS (wS w1 0 0 1 0) 0 0 2 0).1 33 0 q = w.1 33 0 q := (o1.tr o2).1 33 0 q (by unfold CXn; (try dsimp only); omega)
        rw [e, if_neg (by rw [k2, if_pos (show (some s).isSome = true from rfl)]; decide)]
        exact b1.trans (by rw [show w3.1 25 0 0 = nI s.1 from hb.1])
      · exact h1.offC oa (by intro k i j z; unfold CXn at z; (try dsimp only at z); omega)
      · exact hX.offC oa (by intro k i j z; unfold CXn at z; (try dsimp only at z); omega)
      · exact hM.offC oa (by intro k i j z; unfold CXn at z; (try dsimp only at z); omega)
      · exact a2.offC od (by intro k i j z; (try dsimp only at z); omega)
      · rw [b3.1 0 0 1 (by (try dsimp only); omega), wS_ne (by decide), wS_at]; rfl
      · rw [b3.1 0 0 2 (by (try dsimp only); omega), wS_at]; rfl
      · exact b4
      · rw [b3.1 6 0 11 (by (try dsimp only); omega), (o1.tr o2).1 6 0 11 (by unfold CXn; (try dsimp only); omega)]; exact gm.2.1
      · exact h4.offC oa (by intro k i j z; unfold CXn at z; (try dsimp only at z); omega)
      · exact h5.offC oa (by intro k i j z; unfold CXn at z; (try dsimp only at z); omega)
      · rw [oa.2]; exact h6
  · rw [slotX_o ho, inM_o (n := 2) (by decide) (by decide) ho]
    exact ⟨_, w, w, rfl, rfl, hi'.same Sm.rf⟩
