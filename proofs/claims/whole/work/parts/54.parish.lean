/-! the parish made -/
def PaT (t : Nat) (tx : Nat → Nat) : Pa := ((t - 8) / 6, tx 1 - 48, fun i k => tx (9 + 6 * i + k) - 48)
def NT (tx : Nat → Nat) : Sd := (0, tx 2 - 48, 0, fun r => tx (3 + r) - 48)
theorem FG_toInt {tx : Nat → Nat} {p : Nat} (h : tx p ≤ 255) : (FG tx p).toInt = (tx p : Int) - 48 := by
  unfold FG
  rw [n48, pk_sub_toInt (by omega) (by decide)]; rfl
theorem FG_n {tx : Nat → Nat} {p : Nat} (h : 48 ≤ tx p) : FG tx p = nI (tx p - 48) := by unfold FG; rw [n48, pk_sub h]
theorem rg_n {tx : Nat → Nat} {p : Nat} {a b : Int} (h : tx p ≤ 255) (h2 : rgV a b (FG tx p) ≠ 0) : a ≤ (tx p : Int) - 48 ∧ (tx p : Int) - 48 ≤ b := by
  unfold rgV at h2
  rw [FG_toInt h] at h2
  by_cases hc : a ≤ (tx p : Int) - 48 ∧ (tx p : Int) - 48 ≤ b
  · exact hc
  · rw [if_neg hc] at h2; exact absurd rfl h2
/-- a text without a fault -/
def GT (t : Nat) (tx : Nat → Nat) : Prop := 8 ≤ t ∧ (t - 8) % 6 = 0 ∧ t ≤ 44 ∧ (∀ i, i < t → fitV tx i ≠ 0) ∧ ∀ j, j < 48 → tx j ≤ 255
theorem gt_head {t : Nat} {tx : Nat → Nat} (h : GT t tx) : (49 ≤ tx 1 ∧ tx 1 ≤ 57) ∧ (48 ≤ tx 2 ∧ tx 2 ≤ 53) ∧ ∀ r, r < 5 → 48 ≤ tx (3 + r) ∧ tx (3 + r) ≤ 51 := by
  obtain ⟨h1, h2, h3, h4, h5⟩ := h
  have f1 : rgV 1 9 (FG tx 1) ≠ 0 := h4 1 (by omega)
  have f2 : rgV 0 5 (FG tx 2) ≠ 0 := h4 2 (by omega)
  have g1 := rg_n (h5 1 (by omega)) f1
  have g2 := rg_n (h5 2 (by omega)) f2
  refine ⟨by omega, by omega, fun r hr => ?_⟩
  have f3 := h4 (3 + r) (by omega)
  unfold fitV at f3
  rw [if_pos (by omega), if_neg (by omega), if_neg (by omega), if_neg (by omega)] at f3
  have g3 := rg_n (h5 (3 + r) (by omega)) f3
  omega
theorem gt_wed {t : Nat} {tx : Nat → Nat} (h : GT t tx) {i : Nat} (hi : i < (t - 8) / 6) : (48 ≤ tx (9 + 6 * i) ∧ tx (9 + 6 * i) ≤ 53) ∧ (48 ≤ tx (9 + 6 * i + 1) ∧ tx (9 + 6 * i + 1) ≤ 57) ∧ (48 ≤ tx (9 + 6 * i + 2) ∧ tx (9 + 6 * i + 2) ≤ 57) ∧ (49 ≤ tx (9 + 6 * i + 3) ∧ tx (9 + 6 * i + 3) ≤ 51) ∧ (48 ≤ tx (9 + 6 * i + 4) ∧ tx (9 + 6 * i + 4) ≤ 51) := by
  obtain ⟨h1, h2, h3, h4, h5⟩ := h
  have fit : ∀ k, k < 5 → fitV tx (9 + 6 * i + k) = if k = 0 then rgV 0 5 (FG tx (9 + 6 * i + k)) else if k = 1 then rgV 0 9 (FG tx (9 + 6 * i + k)) else if k = 2 then rgV (FG tx (9 + 6 * i + k - 1)).toInt 9 (FG tx (9 + 6 * i + k)) else if k = 3 then rgV 1 3 (FG tx (9 + 6 * i + k)) else rgV 0 3 (FG tx (9 + 6 * i + k)) := by
    intro k hk
    unfold fitV
    rw [if_neg (by omega), if_pos (by omega), show (9 + 6 * i + k - 8) % 6 = 1 + k by omega, if_neg (by omega)]
    obtain rfl | rfl | rfl | rfl | rfl : k = 0 ∨ k = 1 ∨ k = 2 ∨ k = 3 ∨ k = 4 := by omega
    · rfl
    · rfl
    · rfl
    · rfl
    · rfl
  have f : ∀ k, k < 5 → fitV tx (9 + 6 * i + k) ≠ 0 := fun k hk => h4 _ (by omega)
  have b : ∀ k, k < 5 → tx (9 + 6 * i + k) ≤ 255 := fun k hk => h5 _ (by omega)
  have f0 := f 0 (by decide); rw [fit 0 (by decide), if_pos rfl] at f0
  have f1 := f 1 (by decide); rw [fit 1 (by decide), if_neg (by decide), if_pos rfl] at f1
  have f2 := f 2 (by decide); rw [fit 2 (by decide), if_neg (by decide), if_neg (by decide), if_pos rfl] at f2
  have f3 := f 3 (by decide); rw [fit 3 (by decide), if_neg (by decide), if_neg (by decide), if_neg (by decide), if_pos rfl] at f3
  have f4 := f 4 (by decide); rw [fit 4 (by decide), if_neg (by decide), if_neg (by decide), if_neg (by decide), if_neg (by decide)] at f4
  have g0 := rg_n (b 0 (by decide)) f0
  have g1 := rg_n (b 1 (by decide)) f1
  have g2 := rg_n (b 2 (by decide)) f2
  have g3 := rg_n (b 3 (by decide)) f3
  have g4 := rg_n (b 4 (by decide)) f4
  rw [show 9 + 6 * i + 2 - 1 = 9 + 6 * i + 1 by omega, FG_toInt (b 1 (by decide))] at g2
  rw [Nat.add_zero] at g0
  omega
theorem PaT_ok {t : Nat} {tx : Nat → Nat} (h : GT t tx) : okP (PaT t tx) := by
  obtain ⟨⟨a1, a2⟩, -, -⟩ := gt_head h
  obtain ⟨h1, h2, h3, h4, h5⟩ := id h
  refine ⟨by show (t - 8) / 6 ≤ 6; omega, by show tx 1 - 48 ≤ 9; omega, fun i hi => ?_⟩
  obtain ⟨g0, g1, g2, g3, g4⟩ := gt_wed h hi
  show tx (9 + 6 * i + 0) - 48 ≤ 5 ∧ tx (9 + 6 * i + 1) - 48 ≤ 9 ∧ tx (9 + 6 * i + 2) - 48 ≤ 9 ∧ 1 ≤ tx (9 + 6 * i + 3) - 48 ∧ tx (9 + 6 * i + 3) - 48 ≤ 3 ∧ tx (9 + 6 * i + 4) - 48 ≤ 3
  rw [Nat.add_zero]
  omega
theorem NT_ok {t : Nat} {tx : Nat → Nat} (h : GT t tx) {B : Nat} : okS (PaT t tx).1 B (NT tx) := by
  obtain ⟨-, ⟨a1, a2⟩, a3⟩ := gt_head h
  refine ⟨Nat.zero_le _, by show tx 2 - 48 ≤ 5; omega, Nat.pow_pos (by decide), fun r hr => ?_⟩
  have := a3 r hr
  show tx (3 + r) - 48 ≤ 3
  omega
/-! the class reads -/
def gV (t : Nat) (tx : Nat → Nat) (x : Nat) : Int32 := if t ≤ 9 + x / 5 * 6 + x % 5 then 0 else FG tx (9 + x / 5 * 6 + x % 5)
theorem rf25 {t : Nat} {tx : Nat → Nat} (h44 : t ≤ 44) : ∀ (k j N : Nat) (w : Wd), 30 - j = k → k < N → j ≤ 30 → TXi t tx w → (∀ r, r < j → w.1 11 0 r = gV t tx r) →
    ∃ w', D_X1_readFrom_25 N (nI j) w = D_X1_readFrom_81 fuelZ 0 w' ∧ (∀ r, r < 30 → w'.1 11 0 r = gV t tx r) ∧ OffC (fun k i _ => k = 11 ∧ i = 0) w w' := by
  intro k
  induction k with
  | zero =>
    intro j N w hk hN hj ht hg
    obtain ⟨N, rfl⟩ : ∃ M, N = M + 1 := ⟨N - 1, by omega⟩
    have : j = 30 := by omega
    subst this
    unfold D_X1_readFrom_25
    rw [if_pos (by decide)]
    exact ⟨w, rfl, hg, OffC.rf⟩
  | succ k ih =>
    intro j N w hk hN hj ht hg
    obtain ⟨N, rfl⟩ : ∃ M, N = M + 1 := ⟨N - 1, by omega⟩
    have hlt := Nat.mod_lt j (show 5 > 0 by decide)
    have e1 : nI j / (5 : Int32) = nI (j / 5) := pk_div (d := 5) (by omega) (by decide) (by decide)
    have e2 : nI j - nI j / (5 : Int32) * (5 : Int32) = nI (j % 5) := pk_rem (d := 5) (by omega) (by decide) (by decide)
    have e3 : ((8 : Int32) + ((nI j / (5 : Int32)) * (6 : Int32))) + (1 : Int32) + (nI j - nI j / (5 : Int32) * (5 : Int32)) = nI (9 + j / 5 * 6 + j % 5) := by
      rw [e2, e1, n8, n6, n1, pk_mul, nI_add, nI_add, nI_add]; congr 1; omega
    have hj5 : j / 5 ≤ 5 := by omega
    unfold D_X1_readFrom_25
    rw [if_neg (by rw [n30, nI_leI (by decide) (by omega)]; omega), e3, ltd, ht.2.2.1]
    have i1 : inB (nI j) 30 := (inB_n (by omega)).mpr (by omega)
    have hc : Int32.toNatClampNeg (nI j) = j := nI_clamp (by omega)
    have go : ∃ w', D_X1_readFrom_25 N (nI (j + 1)) (wS w 11 0 j (gV t tx j)) = D_X1_readFrom_81 fuelZ 0 w' ∧ (∀ r, r < 30 → w'.1 11 0 r = gV t tx r) ∧ OffC (fun k i _ => k = 11 ∧ i = 0) w w' := by
      obtain ⟨w', a1, a2, a3⟩ := ih (j + 1) N (wS w 11 0 j (gV t tx j)) (by omega) (by omega) (by omega) (ht.offC OffC.wS (by intro k i j z; (try dsimp only at z); omega)) (fun r hr => by
        by_cases hrj : r = j
        · rw [hrj, wS_at]
        · rw [wS_ne hrj]; exact hg r (by omega))
      exact ⟨w', a1, a2, (OffC.wS.tr a3).mono (by intro k i j z; (try dsimp only at z); omega)⟩
    by_cases hle : t ≤ 9 + j / 5 * 6 + j % 5
    · have eg : gV t tx j = 0 := by unfold gV; rw [if_pos hle]
      rw [eg] at go
      rw [if_pos ((nI_leI (by omega) (by omega)).mpr hle), if_pos i1, hc, ltd, ltd, n1, nI_add]
      exact go
    · have eg : gV t tx j = FG tx (9 + j / 5 * 6 + j % 5) := by unfold gV; rw [if_neg hle]
      rw [eg] at go
      rw [if_neg (by rw [nI_leI (by omega) (by omega)]; exact hle), figT_n ht (by omega), sb, if_pos i1, hc, ltd, ltd, n1, nI_add]
      exact go
theorem figAny {w : Wd} {i k : Nat} (hi : i < 6) (hk : k < 5) : D_X1_figure w (nI i) (nI k) = some (w.1 11 0 (5 * i + k)) := by
  unfold D_X1_figure
  have e : nI i * (5 : Int32) + nI k = nI (5 * i + k) := by rw [n5, pk_mul, nI_add, Nat.mul_comm]
  have hb : 5 * i + k < 30 := by omega
  have hj : 5 * i + k < 2 ^ 31 := by omega
  rw [ltd, e, if_neg (nI_lt0 hj), if_neg (by rw [n30, nI_leI (by decide) hj]; omega), if_pos ((inB_n hj).mpr hb), nI_clamp hj]
def lV (f : Nat → Int32) (j : Nat) : Int32 := if f (5 * j + 4) = 3 then maxZ 1 (f (5 * j + 3) - (1 : Int32)) else maxZ 1 (f (5 * j + 3) - (0 : Int32))
theorem rf81 {f : Nat → Int32} : ∀ (k j N : Nat) (w : Wd), 6 - j = k → k < N → j ≤ 6 → (∀ r, r < 30 → w.1 11 0 r = f r) → (∀ r, r < j → w.1 12 0 r = lV f r) →
    ∃ w', D_X1_readFrom_81 N (nI j) w = some w' ∧ (∀ r, r < 6 → w'.1 12 0 r = lV f r) ∧ OffC (fun k i _ => k = 12 ∧ i = 0) w w' := by
  intro k
  induction k with
  | zero =>
    intro j N w hk hN hj hf hg
    obtain ⟨N, rfl⟩ : ∃ M, N = M + 1 := ⟨N - 1, by omega⟩
    have : j = 6 := by omega
    subst this
    unfold D_X1_readFrom_81
    rw [if_pos (by decide)]
    exact ⟨w, rfl, hg, OffC.rf⟩
  | succ k ih =>
    intro j N w hk hN hj hf hg
    obtain ⟨N, rfl⟩ : ∃ M, N = M + 1 := ⟨N - 1, by omega⟩
    have i1 : inB (nI j) 6 := (inB_n (by omega)).mpr (by omega)
    have hc : Int32.toNatClampNeg (nI j) = j := nI_clamp (by omega)
    have g4 : D_X1_figure w (nI j) 4 = some (f (5 * j + 4)) := (figAny (k := 4) (by omega) (by decide)).trans (by rw [hf _ (by omega)])
    have g3 : D_X1_figure w (nI j) 3 = some (f (5 * j + 3)) := (figAny (k := 3) (by omega) (by decide)).trans (by rw [hf _ (by omega)])
    unfold D_X1_readFrom_81
    rw [if_neg (by rw [n6, nI_leI (by decide) (by omega)]; omega), g4, sb]
    have go : ∃ w', D_X1_readFrom_81 N (nI (j + 1)) (wS w 12 0 j (lV f j)) = some w' ∧ (∀ r, r < 6 → w'.1 12 0 r = lV f r) ∧ OffC (fun k i _ => k = 12 ∧ i = 0) w w' := by
      obtain ⟨w', a1, a2, a3⟩ := ih (j + 1) N (wS w 12 0 j (lV f j)) (by omega) (by omega) (by omega) (fun r hr => by rw [wS_off (by decide)]; exact hf r hr) (fun r hr => by
        by_cases hrj : r = j
        · rw [hrj, wS_at]
        · rw [wS_ne hrj]; exact hg r (by omega))
      exact ⟨w', a1, a2, (OffC.wS.tr a3).mono (by intro k i j z; (try dsimp only at z); omega)⟩
    by_cases h3 : f (5 * j + 4) = 3
    · have eg : lV f j = maxZ 1 (f (5 * j + 3) - (1 : Int32)) := by unfold lV; rw [if_pos h3]
      rw [eg] at go
      rw [if_pos h3, g3, sb, if_pos i1, hc, ltd, ltd, show nI j + (1 : Int32) = nI (j + 1) from nI_add ..]
      exact go
    · have eg : lV f j = maxZ 1 (f (5 * j + 3) - (0 : Int32)) := by unfold lV; rw [if_neg h3]
      rw [eg] at go
      rw [if_neg h3, g3, sb, if_pos i1, hc, ltd, ltd, show nI j + (1 : Int32) = nI (j + 1) from nI_add ..]
      exact go
theorem readP_n {t : Nat} {tx : Nat → Nat} {w : Wd} (h : GT t tx) (ht : TXi t tx w) : ∃ w', D_X1_readFrom w = some w' ∧ XP (PaT t tx) w' ∧ OffC (fun k i _ => (k = 1 ∨ k = 11 ∨ k = 12) ∧ i = 0) w w' := by
  obtain ⟨⟨a1, a2⟩, -, -⟩ := gt_head h
  obtain ⟨h1, h2, h3, h4, h5⟩ := id h
  have e1 : D_X4_figure w 1 = some (nI (tx 1 - 48)) := (figT_n (p := 1) ht (by decide)).trans (by rw [FG_n (by omega)])
  unfold D_X1_readFrom
  have f1 : (wS w 1 0 3 (nI (tx 1 - 48))).1 4 0 1 = nI t := by rw [wS_off (by decide)]; exact ht.2.2.1
  have e2 : (nI t - (8 : Int32)) / (6 : Int32) = nI ((t - 8) / 6) := by rw [n8, pk_sub h1]; exact pk_div (d := 6) (by omega) (by decide) (by decide)
  rw [e1, sb, ltd, f1, e2, ltd]
  have o1 : OffC (fun k i _ => k = 1 ∧ i = 0) w (wS (wS w 1 0 3 (nI (tx 1 - 48))) 1 0 2 (nI ((t - 8) / 6))) := (OffC.wS.tr OffC.wS).mono (by intro k i j z; (try dsimp only at z); omega)
  obtain ⟨w1, b1, b2, b3⟩ := rf25 (tx := tx) h3 30 0 fuelZ _ (by omega) (by decide) (by omega) (ht.offC o1 (by intro k i j z; (try dsimp only at z); omega)) (fun r hr => by omega)
  obtain ⟨w2, c1, c2, c3⟩ := rf81 (f := gV t tx) 6 0 fuelZ w1 (by omega) (by decide) (by omega) b2 (fun r hr => by omega)
  have o2 := b3.tr c3
  refine ⟨w2, b1.trans c1, ⟨?_, ?_, fun i hi k hk => ?_, fun i hi => ?_⟩, (o1.tr o2).mono (by intro k i j z; (try dsimp only at z); omega)⟩
  · rw [o2.1 1 0 2 (by (try dsimp only); omega), wS_at]; rfl
  · rw [o2.1 1 0 3 (by (try dsimp only); omega), wS_ne (by decide), wS_at]; rfl
  · have hi' : i < (t - 8) / 6 := hi
    obtain ⟨g0, g1, g2, g3, g4⟩ := gt_wed h hi'
    rw [c3.1 11 0 (5 * i + k) (by (try dsimp only); omega), b2 _ (by omega)]
    unfold gV
    rw [if_neg (by omega), show 9 + (5 * i + k) / 5 * 6 + (5 * i + k) % 5 = 9 + 6 * i + k by omega, FG_n ?_]
    · rfl
    · obtain rfl | rfl | rfl | rfl | rfl : k = 0 ∨ k = 1 ∨ k = 2 ∨ k = 3 ∨ k = 4 := by omega
      · exact g0.1
      · exact g1.1
      · exact g2.1
      · omega
      · exact g4.1
  · have hi' : i < (t - 8) / 6 := hi
    obtain ⟨g0, g1, g2, g3, g4⟩ := gt_wed h hi'
    rw [c2 i (by omega)]
    have q4 : gV t tx (5 * i + 4) = nI (tx (9 + 6 * i + 4) - 48) := by
      unfold gV
      rw [if_neg (by omega), show 9 + (5 * i + 4) / 5 * 6 + (5 * i + 4) % 5 = 9 + 6 * i + 4 by omega, FG_n g4.1]
    have q3 : gV t tx (5 * i + 3) = nI (tx (9 + 6 * i + 3) - 48) := by
      unfold gV
      rw [if_neg (by omega), show 9 + (5 * i + 3) / 5 * 6 + (5 * i + 3) % 5 = 9 + 6 * i + 3 by omega, FG_n (by omega)]
    unfold lV
    rw [q4, q3]
    show _ = nI (if tx (9 + 6 * i + 4) - 48 = 3 then max 1 (tx (9 + 6 * i + 3) - 48 - 1) else tx (9 + 6 * i + 3) - 48)
    by_cases h3k : tx (9 + 6 * i + 4) - 48 = 3
    · rw [if_pos (by rw [h3k]; rfl), if_pos h3k, n1, pk_sub (by omega), maxZ_n (by decide) (by omega)]
    · rw [if_neg (by rw [n3, nI_eq (by omega) (by decide)]; exact h3k), if_neg h3k, n0, pk_sub (by omega), n1, maxZ_n (by decide) (by omega)]
      congr 1; omega
theorem rs21 {t : Nat} {tx : Nat → Nat} : ∀ (k j N : Nat) (w : Wd), 5 - j = k → k < N → j ≤ 5 → TXi t tx w → (∀ r, r < j → w.1 15 0 r = FG tx (3 + r)) →
    ∃ w', D_X3_readFrom_21 0 N (nI j) w = some w' ∧ (∀ r, r < 5 → w'.1 15 0 r = FG tx (3 + r)) ∧ OffC (fun k i _ => k = 15 ∧ i = 0) w w' := by
  intro k
  induction k with
  | zero =>
    intro j N w hk hN hj ht hg
    obtain ⟨N, rfl⟩ : ∃ M, N = M + 1 := ⟨N - 1, by omega⟩
    have : j = 5 := by omega
    subst this
    unfold D_X3_readFrom_21
    rw [if_pos (by decide)]
    exact ⟨w, rfl, hg, OffC.rf⟩
  | succ k ih =>
    intro j N w hk hN hj ht hg
    obtain ⟨N, rfl⟩ : ∃ M, N = M + 1 := ⟨N - 1, by omega⟩
    have i1 : inB (nI j) 5 := (inB_n (by omega)).mpr (by omega)
    unfold D_X3_readFrom_21
    rw [if_neg (by rw [n5, nI_leI (by decide) (by omega)]; omega), n3, nI_add, figT_n ht (by omega), sb, if_pos i1, nI_clamp (by omega), ltd, ltd, n1, nI_add]
    obtain ⟨w', a1, a2, a3⟩ := ih (j + 1) N (wS w 15 0 j (FG tx (3 + j))) (by omega) (by omega) (by omega) (ht.offC OffC.wS (by intro k i j z; (try dsimp only at z); omega)) (fun r hr => by
      by_cases hrj : r = j
      · rw [hrj, wS_at]
      · rw [wS_ne hrj]; exact hg r (by omega))
    exact ⟨w', a1, a2, (OffC.wS.tr a3).mono (by intro k i j z; (try dsimp only at z); omega)⟩
theorem readS_n {t : Nat} {tx : Nat → Nat} {w : Wd} (h : GT t tx) (ht : TXi t tx w) : ∃ w', D_X3_readFrom w 0 = some w' ∧ XS1 0 (NT tx) w' ∧ OffC CXn w w' := by
  obtain ⟨-, ⟨a1, a2⟩, a3⟩ := gt_head h
  unfold D_X3_readFrom
  have e2 : D_X4_figure (wS w 3 0 1 0) 2 = some (nI (tx 2 - 48)) := (figT_n (p := 2) (ht.offC OffC.wS (by intro k i j z; (try dsimp only at z); omega)) (by decide)).trans (by rw [FG_n a1])
  rw [if_pos (by decide), ltd, e2, sb, ltd, ltd]
  have o1 : OffC (fun k i _ => k = 3 ∧ i = 0) w (wS (wS (wS w 3 0 1 0) 3 0 2 (nI (tx 2 - 48))) 3 0 3 0) := (OffC.wS.tr (OffC.wS.tr OffC.wS)).mono (by intro k i j z; (try dsimp only at z); omega)
  obtain ⟨w1, b1, b2, b3⟩ := rs21 (t := t) (tx := tx) 5 0 fuelZ _ (by omega) (by decide) (by omega) (ht.offC o1 (by intro k i j z; (try dsimp only at z); omega)) (fun r hr => by omega)
  refine ⟨w1, b1, ⟨?_, ?_, ?_, fun r hr => ?_⟩, (o1.tr b3).mono (by intro k i j z; unfold CXn; (try dsimp only at z); omega)⟩
  · rw [b3.1 3 0 1 (by (try dsimp only); omega), wS_ne (by decide), wS_ne (by decide), wS_at]; rfl
  · rw [b3.1 3 0 2 (by (try dsimp only); omega), wS_ne (by decide), wS_at]; rfl
  · rw [b3.1 3 0 3 (by (try dsimp only); omega), wS_at]; rfl
  · rw [b2 r hr, FG_n (a3 r hr).1]; rfl
