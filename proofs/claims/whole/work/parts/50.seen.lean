/-! seen, the seed, and counting -/
theorem Inv.vi {c : Nat} {w w' : Wd} {t : Nat} {tx : Nat → Nat} {P : Pa} {N : Sd} {A : Nat → Sd} {na old nx : Nat} {K : Nat → Option Sd} {V' : Nat → Nat × Nat} {nv' : Nat} (h1 : TXi t tx w) (h2 : QI P (16 * c + 16) N w) (h3 : ACi P.1 (16 * c + 16) A na old nx w) (h4 : KEi P.1 (16 * c + 16) K w) (h6 : w.2 5 = w.2 6) (h5' : VIi V' nv' w')
    (o : OffC (fun k i j => (k = 5 ∨ k = 16 ∨ k = 17 ∨ k = 29 ∨ k = 30) ∨ (k = 6 ∧ i = 0 ∧ j = 14)) w w') : Inv (c + 1) w' := by
  obtain ⟨hP, hX, hM, hs, hx, hm⟩ := id h2
  obtain ⟨⟨g1, g2, g3, g4⟩, gx, gm⟩ := ACi_iff.mp h3
  refine ⟨t, tx, P, N, A, na, old, nx, K, V', nv', ?_, QI.mono (B := 16 * c + 16) ⟨hP, ?_, ?_, hs, ?_, ?_⟩ (by omega), ACi.mono (B := 16 * c + 16) (ACi_iff.mpr ⟨⟨g1, g2, g3, g4⟩, ?_, ?_⟩) (by omega), KEi.mono (B := 16 * c + 16) ?_ (by omega), h5', ?_⟩
  · exact h1.offC o (by intro k i j z; (try dsimp only at z); omega)
  · exact hX.offC o (by intro k i j z; (try dsimp only at z); omega)
  · exact hM.offC o (by intro k i j z; (try dsimp only at z); omega)
  · exact hx.offC o (by intro k i j z; (try dsimp only at z); omega)
  · exact hm.offC o (by intro k i j z; (try dsimp only at z); omega)
  · exact gx.offC o (by intro k i j z; (try dsimp only at z); omega)
  · exact gm.offC o (by intro k i j z; (try dsimp only at z); omega)
  · exact h4.offC o (by intro k i j z; (try dsimp only at z); omega)
  · rw [o.2]; exact h6
theorem unsee_ok : OkI D_X5_unsee D_X6_unsee := by
  intro c w hc hi
  obtain ⟨t, tx, P, N, A, na, old, nx, K, V, nv, h1, h2, h3, h4, h5, h6⟩ := hi
  obtain ⟨v1, v2, v3, v4⟩ := h5
  refine ⟨nI nv, wS w 5 0 11 0, wS (wS w 5 0 11 0) 6 0 14 0, ?_, ?_, Inv.vi (V' := V) (nv' := 0) h1 h2 h3 h4 h6 ⟨by omega, ?_, ?_, fun i hi => by omega⟩ ((OffC.wS.tr OffC.wS).mono (by intro k i j z; (try dsimp only at z); omega))⟩
  · unfold D_X5_unsee; rw [v2]; rfl
  · unfold D_X6_unsee; rw [wS_off (by decide), v3]; rfl
  · rw [wS_off (by decide), wS_at]; rfl
  · rw [wS_at]; rfl
theorem see_ok (x y : Int32) : OkI (fun w => D_X5_see w x y) (fun w => D_X6_see w x y) := by
  intro c w hc hi
  have hi' := hi
  obtain ⟨t, tx, P, N, A, na, old, nx, K, V, nv, h1, h2, h3, h4, h5, h6⟩ := hi
  obtain ⟨v1, v2, v3, v4⟩ := h5
  dsimp only
  unfold D_X5_see D_X6_see
  rcases ix_cases y (n := 6) (by decide) with ⟨k, hk, rfl⟩ | ho
  · simp only [churchX_n hk, churchM_n hk, sb, if_neg ne10]
    rcases ix_cases x (n := 7) (by decide) with ⟨j, hj, rfl⟩ | ho
    · have hin : D_X6_in (Int32.toInt64 (nI j)) 0 6 = some 1 := inM_y (n := 7) (by decide) (by decide) hj
      have g1 : nI j ≤ nI 6 := (nI_leI (by omega) (by decide)).mpr (by omega)
      rw [if_neg (nI_lt0 (j := j) (by omega)), if_pos (show nI j ≤ 6 from g1), v2, if_neg (nI_lt0 (j := nv) (by omega))]
      by_cases hf : nv < 6
      · have i1 : inB (nI nv) 6 := (inB_n (by omega)).mpr hf
        have f1 : ∀ a b v w0, (a = 16 ∨ a = 17) → (wS w0 a 0 b v).1 5 0 11 = w0.1 5 0 11 := fun a b v w0 ha => by rw [wS_off (by omega)]
        have f2 : ∀ a b v w0, (a = 16 ∨ a = 17 ∨ a = 5 ∨ a = 29 ∨ a = 30) → (wS w0 a 0 b v).1 6 0 14 = w0.1 6 0 14 := fun a b v w0 ha => by rw [wS_off (by omega)]
        refine ⟨nI (nv + 1), wS (wS (wS w 16 0 nv (nI j)) 17 0 nv (nI k)) 5 0 11 (nI (nv + 1)), wS (wS (wS (wS (wS (wS w 16 0 nv (nI j)) 17 0 nv (nI k)) 5 0 11 (nI (nv + 1))) 29 0 nv (nI j)) 30 0 nv (nI k)) 6 0 14 (nI (nv + 1)), ?_, ?_, Inv.vi (V' := fun i => if i = nv then (j, k) else V i) (nv' := nv + 1) h1 h2 h3 h4 h6 ⟨by omega, ?_, ?_, fun i hi => ?_⟩ ((OffC.wS.tr (OffC.wS.tr (OffC.wS.tr (OffC.wS.tr (OffC.wS.tr OffC.wS))))).mono (by intro k i j z; (try dsimp only at z); omega))⟩
        · rw [if_neg (by rw [n6, nI_leI (by decide) (by omega)]; omega), if_pos (by rw [n6, nI_ltI (by omega) (by decide)]; exact hf), if_pos i1, nI_clamp (by omega), ltd, f1 _ _ _ _ (by decide), v2, if_pos i1, nI_clamp (by omega), ltd, f1 _ _ _ _ (by decide), f1 _ _ _ _ (by decide), v2, n1, nI_add, ltd, wS_at]
        · rw [hin, sb, if_neg ne10, f2 _ _ _ _ (by decide), f2 _ _ _ _ (by decide), f2 _ _ _ _ (by decide), v3, if_neg (by rw [n6, nI_eq (by omega) (by decide)]; omega), if_pos i1, nI_clamp (by omega), ltd, f2 _ _ _ _ (by decide), f2 _ _ _ _ (by decide), f2 _ _ _ _ (by decide), f2 _ _ _ _ (by decide), v3, if_pos i1, nI_clamp (by omega), ltd, f2 _ _ _ _ (by decide), f2 _ _ _ _ (by decide), f2 _ _ _ _ (by decide), f2 _ _ _ _ (by decide), f2 _ _ _ _ (by decide), v3, n1, nI_add, ltd, wS_at]
        · rw [wS_off (by decide), wS_off (by decide), wS_off (by decide), wS_at]
        · rw [wS_at]
        · by_cases hin : i = nv
          · subst hin
            simp only [if_true]
            refine ⟨by omega, by omega, ?_, ?_, ?_, ?_⟩
            · rw [wS_off (by decide), wS_off (by decide), wS_off (by decide), wS_off (by decide), wS_off (by decide), wS_at]
            · rw [wS_off (by decide), wS_off (by decide), wS_off (by decide), wS_off (by decide), wS_at]
            · rw [wS_off (by decide), wS_off (by decide), wS_at]
            · rw [wS_off (by decide), wS_at]
          · simp only [if_neg hin]
            obtain ⟨u1, u2, u3, u4, u5, u6⟩ := v4 i (by omega)
            refine ⟨u1, u2, ?_, ?_, ?_, ?_⟩
            · rw [wS_off (by decide), wS_off (by decide), wS_off (by decide), wS_off (by decide), wS_off (by decide), wS_ne hin]; exact u3
            · rw [wS_off (by decide), wS_off (by decide), wS_off (by decide), wS_off (by decide), wS_ne hin, wS_off (by decide)]; exact u4
            · rw [wS_off (by decide), wS_off (by decide), wS_ne hin, wS_off (by decide), wS_off (by decide), wS_off (by decide)]; exact u5
            · rw [wS_off (by decide), wS_ne hin, wS_off (by decide), wS_off (by decide), wS_off (by decide), wS_off (by decide)]; exact u6
      · have h66 : nv = 6 := by omega
        subst h66
        refine ⟨-4, w, w, ?_, ?_, hi'.same Sm.rf⟩
        · rw [if_pos (by decide)]
        · rw [hin, sb, if_neg ne10, v3, if_pos (by decide)]
    · have hin : D_X6_in (Int32.toInt64 x) 0 6 = some 0 := inM_o (n := 7) (by decide) (by decide) ho
      refine ⟨-2, w, w, ?_, by rw [hin]; rfl, hi'.same Sm.rf⟩
      by_cases h : x < 0
      · rw [if_pos h]
      · have g : ¬ x ≤ nI 6 := out_le (by decide) ho h (by decide)
        rw [if_neg h, if_neg (show ¬ x ≤ 6 from g)]
  · rw [churchX_o ho, churchM_o ho]
    exact ⟨_, w, w, rfl, rfl, hi'.same Sm.rf⟩
theorem seed_ok (x : Int64) : OkI (fun w => D_X5_seed w x) (fun w => D_X6_seed w x) := by
  intro c w hc hi
  obtain ⟨t, tx, P, N, A, na, old, nx, K, V, nv, h1, h2, h3, h4, h5, h6⟩ := hi
  refine ⟨w.2 5, wL w 5 x, wL (wL w 5 x) 6 x, rfl, ?_, t, tx, P, N, A, na, old, nx, K, V, nv, h1, QI.mono (B := 16 * c + 16) h2 (by omega), ACi.mono (B := 16 * c + 16) h3 (by omega), KEi.mono (B := 16 * c + 16) h4 (by omega), h5, rfl⟩
  show some (w.2 6, wL (wL w 5 x) 6 x) = _
  rw [h6]
/-- a question of all that holds -/
def OkV (dx dm : Wd → Option Int32) : Prop := ∀ c w, c < 2 ^ 20 → Inv c w → ∃ r, dx w = some r ∧ dm w = some r
theorem OkV.p {dx dm : Wd → Option Int32} (h : ∀ P B N, 10 ≤ B ∧ B < 2 ^ 27 → OkP P B N dx dm) : OkV dx dm := by
  intro c w hc hi
  obtain ⟨t, tx, P, N, A, na, old, nx, K, V, nv, h1, h2, h3, h4, h5, h6⟩ := hi
  exact h P (16 * c + 16) N ⟨by omega, by omega⟩ w h2
def hldN (P : Pa) (s : Sd) : Nat → Nat
  | 0 => 0
  | n + 1 => if (begS P s n).isSome = true then hldN P s n ||| 2 ^ n else hldN P s n
theorem hldN_up {P : Pa} {s : Sd} {n : Nat} : hldN P s (n + 1) = if (begS P s n).isSome = true then hldN P s n ||| 2 ^ n else hldN P s n := rfl
theorem hldN_lt {P : Pa} {s : Sd} : ∀ n, hldN P s n < 2 ^ n
  | 0 => by unfold hldN; decide
  | n + 1 => by
    have h := hldN_lt (P := P) (s := s) n
    have h2 : 2 ^ n ≤ 2 ^ (n + 1) := Nat.pow_le_pow_right (by decide) (by omega)
    unfold hldN
    split
    · exact orb_lt (by omega) (by omega)
    · omega
theorem holdingX_loop {P : Pa} {w : Wd} {B : Nat} {s : Sd} (hP : okP P) (hX : XP P w) (hs : okS P.1 B s) (hB : B < 2 ^ 28) (hx : XS1 0 s w) : ∀ (n j N : Nat), P.1 - j = n → n < N → j ≤ P.1 → D_X5_holdingNext_4 w N (nI (hldN P s j)) (nI j) = some (nI (hldN P s P.1)) := by
  have h6 := hP.1
  intro n
  induction n with
  | zero =>
    intro j N hn hN hj
    obtain ⟨N, rfl⟩ : ∃ M, N = M + 1 := ⟨N - 1, by omega⟩
    have : j = P.1 := by omega
    subst this
    unfold D_X5_holdingNext_4
    rw [hX.1, if_pos ((nI_leI (by omega) (by omega)).mpr (Nat.le_refl _))]
  | succ n ih =>
    intro j N hn hN hj
    obtain ⟨N, rfl⟩ : ∃ M, N = M + 1 := ⟨N - 1, by omega⟩
    have hl := pow_le64 (show j ≤ 6 by omega) (hldN_lt (P := P) (s := s) j)
    unfold D_X5_holdingNext_4
    rw [hX.1, if_neg (by rw [nI_leI (by omega) (by omega)]; omega), beginOn_n hP hX (by decide) hx hs (by omega) (show j < P.1 by omega), sb]
    have IH := ih (j + 1) N (by omega) (by omega) (by omega)
    rw [hldN_up] at IH
    cases hb : begS P s j with
    | none =>
      rw [hb, if_neg (by decide)] at IH
      rw [if_pos (by rfl), ltd, n1, nI_add]
      exact IH
    | some b =>
      have := begS_le hP hb
      rw [hb, if_pos (show (some b).isSome = true from rfl)] at IH
      have hn9 : ¬ enc (some b) = (-9) := nI_ne9 (by omega)
      rw [if_neg hn9, orb_n _ hl _ (by omega), ltd, ltd, n1, nI_add]
      exact IH
def cntSw (w : Wd) (x1 b : Int32) : Option Int32 := if x1 = 0 then (some (w.1 6 0 9)) else (if x1 = 1 then (some (w.1 6 0 0)) else (if x1 = 2 then (some (w.1 6 0 1)) else (if x1 = 3 then (some (w.1 25 0 0)) else (if x1 = 4 then (some (w.1 25 0 1)) else (if x1 = 5 then (some (w.1 25 0 2)) else (if x1 = 6 then (some b) else (if x1 = 7 then (some (w.1 6 0 10)) else (if x1 = 8 then (some (w.1 6 0 14)) else (some ((-2)))))))))))
theorem countM_loop {P : Pa} {w : Wd} {B : Nat} {s : Sd} {x : Int32} (hP : okP P) (hM : MP P w) (hs : okS P.1 B s) (hB : B < 2 ^ 28) (hm : ML 0 s w) : ∀ (n j N : Nat), P.1 - j = n → n < N → j ≤ P.1 → D_X6_count_4 w N x (nI (hldN P s j)) (nI j) = cntSw w x (nI (hldN P s P.1)) := by
  have h6 := hP.1
  intro n
  induction n with
  | zero =>
    intro j N hn hN hj
    obtain ⟨N, rfl⟩ : ∃ M, N = M + 1 := ⟨N - 1, by omega⟩
    have : j = P.1 := by omega
    subst this
    unfold D_X6_count_4
    rw [if_pos (by rw [hM.1]; exact (nI_leI (by omega) (by omega)).mpr (Nat.le_refl _))]
    rfl
  | succ n ih =>
    intro j N hn hN hj
    obtain ⟨N, rfl⟩ : ∃ M, N = M + 1 := ⟨N - 1, by omega⟩
    have hl := pow_le64 (show j ≤ 6 by omega) (hldN_lt (P := P) (s := s) j)
    have hb1 : D_X6_beginsNow w 0 (nI j) = some (enc (begS P s j)) := beginsNow_n (l := 0) hP hM (by omega) hm hs hB (by omega)
    unfold D_X6_count_4
    rw [if_neg (by rw [hM.1, nI_leI (by omega) (by omega)]; omega), hb1, sb]
    have IH := ih (j + 1) N (by omega) (by omega) (by omega)
    rw [hldN_up] at IH
    cases hb : begS P s j with
    | none =>
      rw [hb, if_neg (by decide)] at IH
      rw [if_pos (by rfl), Int32.or_zero, ltd, ltd, n1, nI_add]
      exact IH
    | some b =>
      have := begS_le hP hb
      rw [hb, if_pos (show (some b).isSome = true from rfl)] at IH
      have hn9 : ¬ enc (some b) = (-9) := nI_ne9 (by omega)
      rw [if_neg hn9, orb_n _ hl _ (by omega), ltd, ltd, n1, nI_add]
      exact IH
theorem count_ok (x : Int32) : OkV (fun w => D_X5_count w x) (fun w => D_X6_count w x) := by
  intro c w hc hi
  obtain ⟨t, tx, P, N, A, na, old, nx, K, V, nv, h1, h2, h3, h4, h5, h6⟩ := hi
  obtain ⟨hP, hX, hM, hs, hx, hm⟩ := id h2
  obtain ⟨⟨g1, g2, g3, g4⟩, gx, gm⟩ := ACi_iff.mp h3
  have e6 : D_X5_holdingNext w = some (nI (hldN P N P.1)) := holdingX_loop hP hX hs (by omega) hx P.1 0 fuelZ (by omega) (by have := hP.1; unfold fuelZ; omega) (by omega)
  have eM : D_X6_count w x = cntSw w x (nI (hldN P N P.1)) := countM_loop hP hM hs (by omega) hm P.1 0 fuelZ (by omega) (by have := hP.1; unfold fuelZ; omega) (by omega)
  dsimp only
  rw [eM]
  unfold D_X5_count cntSw
  rw [e6, sb, h1.2.2.1, h1.2.2.2.1, hX.1, hM.1, hX.2.1, hM.2.1, hx.1, hx.2.1, hx.2.2.1, gx.2.1, gm.1, h5.2.1, h5.2.2.1, show w.1 25 0 0 = nI N.1 from hm.1, show w.1 25 0 1 = nI N.2.1 from hm.2.1, show w.1 25 0 2 = nI N.2.2.1 from hm.2.2.1]
  split
  · exact ⟨_, rfl, rfl⟩
  split
  · exact ⟨_, rfl, rfl⟩
  split
  · exact ⟨_, rfl, rfl⟩
  split
  · exact ⟨_, rfl, rfl⟩
  split
  · exact ⟨_, rfl, rfl⟩
  split
  · exact ⟨_, rfl, rfl⟩
  split
  · exact ⟨_, rfl, rfl⟩
  split
  · exact ⟨_, rfl, rfl⟩
  split
  · exact ⟨_, rfl, rfl⟩
  · exact ⟨_, rfl, rfl⟩
