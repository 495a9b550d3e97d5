/-! the first fault -/
def FG (tx : Nat → Nat) (p : Nat) : Int32 := nI (tx p) - 48
def rgV (a b : Int) (x : Int32) : Int32 := if a ≤ x.toInt ∧ x.toInt ≤ b then 1 else 0
theorem rgV_01 {a b : Int} {x : Int32} : rgV a b x = 0 ∨ rgV a b x = 1 := by unfold rgV; split <;> simp
def fitV (tx : Nat → Nat) (p : Nat) : Int32 :=
  if p < 8 then (if p = 0 then (if nI (tx p) = 78 then 1 else 0) else if p = 1 then rgV 1 9 (FG tx p) else if p = 2 then rgV 0 5 (FG tx p) else rgV 0 3 (FG tx p))
  else if p < 44 then (if (p - 8) % 6 = 0 then (if nI (tx p) = 87 then 1 else 0) else if (p - 8) % 6 = 1 then rgV 0 5 (FG tx p) else if (p - 8) % 6 = 2 then rgV 0 9 (FG tx p) else if (p - 8) % 6 = 3 then rgV (FG tx (p - 1)).toInt 9 (FG tx p) else if (p - 8) % 6 = 4 then rgV 1 3 (FG tx p) else rgV 0 3 (FG tx p))
  else 0
theorem figT_n {t : Nat} {tx : Nat → Nat} {w : Wd} (h : TXi t tx w) {p : Nat} (hp : p < 48) : D_X4_figure w (nI p) = some (FG tx p) := by
  unfold D_X4_figure
  rw [at_n rfl (by decide) (show p < lenZ 10 from hp), sb]
  exact congrArg some (congrArg (fun x => x - (48 : Int32)) (h.2.2.2.2 p hp).1)
theorem isFig_n {t : Nat} {tx : Nat → Nat} {w : Wd} (h : TXi t tx w) {p : Nat} (hp : p < 48) (a b : Int32) : D_X4_isFigure w (nI p) a b = some (rgV a.toInt b.toInt (FG tx p)) := by
  unfold D_X4_isFigure rgV
  rw [figT_n h hp, sb, sb]
  by_cases h1 : FG tx p < a
  · rw [if_pos h1, if_neg]
    rw [Int32.lt_iff_toInt_lt] at h1; omega
  · rw [if_neg h1]
    rw [Int32.lt_iff_toInt_lt] at h1
    by_cases h2 : b < FG tx p
    · rw [if_pos h2, if_neg]
      rw [Int32.lt_iff_toInt_lt] at h2; omega
    · rw [if_neg h2, if_pos]
      rw [Int32.lt_iff_toInt_lt] at h2; omega
theorem or01 {x : Int32} (h : x = 0 ∨ x = 1) : ((some x).bind fun q => if q = 0 ∨ q = 1 then some q else none) = some x := by
  rw [sb, if_pos h]
theorem or02 {x : Int32} (h : x = 0 ∨ x = 1) : (((some x).bind fun q => if q = 0 ∨ q = nI 1 then some q else none).bind fun q => if q = 0 ∨ q = nI 1 then some q else none) = some x := by
  rw [sb, if_pos (show x = 0 ∨ x = nI 1 from h), sb, if_pos (show x = 0 ∨ x = nI 1 from h)]
theorem mod6_n {a : Nat} (ha : a < 2 ^ 30) : nI a - nI a / (6 : Int32) * (6 : Int32) = nI (a % 6) := pk_rem (d := 6) (by omega) (by decide) (by decide)
theorem fitsX_n {t : Nat} {tx : Nat → Nat} {w : Wd} (h : TXi t tx w) {p : Nat} (hp : p ≤ 44) : D_X4_fits w (nI p) = some (fitV tx p) := by
  have e10 : D_X5_at w 10 0 (nI p) = some (nI (tx p)) := by
    rw [at_n rfl (by decide) (show p < lenZ 10 from by show p < 48; omega)]
    exact congrArg some (h.2.2.2.2 p (by omega)).1
  unfold D_X4_fits fitV
  by_cases h8 : p < 8
  · rw [if_pos (by rw [n8]; exact (nI_ltI (by omega) (by decide)).mpr h8), if_pos h8]
    by_cases h0 : p = 0
    · rw [if_pos (by rw [h0]; decide), if_pos h0, e10, sb]
      split <;> rfl
    · rw [if_neg (by rw [n0, nI_eq (by omega) (by decide)]; exact h0), if_neg h0]
      by_cases h1 : p = 1
      · rw [if_pos (by rw [h1]; decide), if_pos h1, isFig_n h (by omega)]
        exact or01 rgV_01
      · rw [if_neg (by rw [n1, nI_eq (by omega) (by decide)]; exact h1), if_neg h1]
        by_cases h2 : p = 2
        · rw [if_pos (by rw [h2]; decide), if_pos h2, isFig_n h (by omega)]
          exact or01 rgV_01
        · rw [if_neg (by rw [n2, nI_eq (by omega) (by decide)]; exact h2), if_neg h2, isFig_n h (by omega)]
          exact or01 rgV_01
  · rw [if_neg (by rw [n8, nI_ltI (by omega) (by decide)]; exact h8), if_neg h8]
    unfold D_X4_fitsWedding
    by_cases h44 : p < 44
    · have hr := Nat.mod_lt (p - 8) (show 6 > 0 by decide)
      rw [if_pos (show nI p < 44 from (nI_ltI (b := 44) (by omega) (by decide)).mpr h44), if_pos h44, n8, pk_sub (by omega), mod6_n (by omega), ltd]
      by_cases r0 : (p - 8) % 6 = 0
      · rw [r0, if_neg (by decide), if_neg (by decide), if_neg (by decide), if_neg (by decide), if_neg (by decide), if_pos rfl, e10, sb]
        by_cases h87 : nI (tx p) = 87
        · rw [if_pos h87, if_pos h87]; rfl
        · rw [if_neg h87, if_neg h87]; rfl
      · rw [if_neg r0, n1, pk_sub (by omega)]
        obtain r1 | r1 | r1 | r1 | r1 : (p - 8) % 6 = 1 ∨ (p - 8) % 6 = 2 ∨ (p - 8) % 6 = 3 ∨ (p - 8) % 6 = 4 ∨ (p - 8) % 6 = 5 := by omega
        · rw [r1, if_pos (by decide), if_pos rfl, isFig_n h (by omega)]
          exact or02 rgV_01
        · rw [r1, if_neg (by decide), if_pos (by decide), if_neg (by decide), if_pos rfl, isFig_n h (by omega)]
          exact or02 rgV_01
        · rw [r1, if_neg (by decide), if_neg (by decide), if_pos (by decide), if_neg (by decide), if_neg (by decide), if_pos rfl, pk_sub (by omega), figT_n h (by omega), sb, isFig_n h (by omega)]
          exact or02 rgV_01
        · rw [r1, if_neg (by decide), if_neg (by decide), if_neg (by decide), if_pos (by decide), if_neg (by decide), if_neg (by decide), if_neg (by decide), if_pos rfl, isFig_n h (by omega)]
          exact or02 rgV_01
        · rw [r1, if_neg (by decide), if_neg (by decide), if_neg (by decide), if_neg (by decide), if_pos (by decide), if_neg (by decide), if_neg (by decide), if_neg (by decide), if_neg (by decide), isFig_n h (by omega)]
          exact or02 rgV_01
    · rw [if_neg (show ¬ nI p < 44 from fun z => h44 ((nI_ltI (b := 44) (by omega) (by decide)).mp z)), if_neg h44]
      rfl
theorem mayBe_n {t : Nat} {tx : Nat → Nat} {w : Wd} (h : TXi t tx w) {p : Nat} (hp : p ≤ 44) : D_X6_mayBe w (nI p) = some (fitV tx p) := by
  have e26 : w.1 26 0 p = nI (tx p) := (h.2.2.2.2 p (by omega)).2
  have i1 : inB (nI p) 48 := (inB_n (by omega)).mpr (by omega)
  have hin : ∀ (b c : Int64) (B C : Int), b.toInt = B → c.toInt = C → D_X6_in (Int32.toInt64 (FG tx p)) b c = some (rgV B C (FG tx p)) := fun b c B C hb hc => in_32 hb hc
  unfold D_X6_mayBe fitV
  simp only [if_pos i1, nI_clamp (show p < 2 ^ 31 by omega), e26]
  rw [ltd, show nI (tx p) - (48 : Int32) = FG tx p from rfl]
  by_cases h8 : p < 8
  · rw [if_neg (by rw [n8, nI_leI (by decide) (by omega)]; omega), if_pos h8]
    by_cases h0 : p = 0
    · rw [if_pos (by rw [h0]; decide), if_pos h0, show w.1 26 0 0 = nI (tx p) by rw [← e26, h0]]
      split <;> rfl
    · rw [if_neg (by rw [n0, nI_eq (by omega) (by decide)]; exact h0), if_neg h0]
      by_cases h1 : p = 1
      · rw [if_pos (by rw [h1]; decide), if_pos h1, hin 1 9 1 9 (by decide) (by decide)]
        exact or01 rgV_01
      · rw [if_neg (by rw [n1, nI_eq (by omega) (by decide)]; exact h1), if_neg h1]
        by_cases h2 : p = 2
        · rw [if_pos (by rw [h2]; decide), if_pos h2, hin 0 5 0 5 (by decide) (by decide)]
          exact or01 rgV_01
        · rw [if_neg (by rw [n2, nI_eq (by omega) (by decide)]; exact h2), if_neg h2, hin 0 3 0 3 (by decide) (by decide)]
          exact or01 rgV_01
  · rw [if_pos (by rw [n8]; exact (nI_leI (by decide) (by omega)).mpr (by omega)), if_neg h8, n8, pk_sub (by omega), mod6_n (by omega), ltd]
    by_cases r0 : (p - 8) % 6 = 0
    · rw [if_pos (by rw [r0]; decide)]
      by_cases h44 : p < 44
      · rw [if_neg (show ¬ 44 ≤ nI p from fun z => by have := (nI_leI (a := 44) (by decide) (by omega)).mp z; omega), if_pos h44, if_pos r0]
        split <;> rfl
      · rw [if_pos (show 44 ≤ nI p from (nI_leI (a := 44) (by decide) (by omega)).mpr (by omega)), if_neg h44]
    · have h44 : p < 44 := by omega
      rw [if_pos h44, if_neg r0]
      obtain r1 | r1 | r1 | r1 | r1 : (p - 8) % 6 = 1 ∨ (p - 8) % 6 = 2 ∨ (p - 8) % 6 = 3 ∨ (p - 8) % 6 = 4 ∨ (p - 8) % 6 = 5 := by omega
      · rw [r1, if_neg (by decide), if_pos (by decide), if_pos rfl, hin 0 5 0 5 (by decide) (by decide)]
        exact or01 rgV_01
      · rw [r1, if_neg (by decide), if_neg (by decide), if_pos (by decide), if_neg (by decide), if_pos rfl, hin 0 9 0 9 (by decide) (by decide)]
        exact or01 rgV_01
      · have i2 : inB (nI (p - 1)) 48 := (inB_n (by omega)).mpr (by omega)
        have e27 : w.1 26 0 (p - 1) = nI (tx (p - 1)) := (h.2.2.2.2 (p - 1) (by omega)).2
        refine Eq.trans ?_ (show some (rgV (FG tx (p - 1)).toInt 9 (FG tx p)) = _ by rw [r1, if_neg (by decide), if_neg (by decide), if_pos rfl])
        rw [r1, if_neg (by decide), if_neg (by decide), if_neg (by decide), if_pos (by decide), n1, pk_sub (by omega)]
        simp only [if_pos i2, nI_clamp (show p - 1 < 2 ^ 31 by omega), e27]
        rw [hin (Int32.toInt64 (nI (tx (p - 1)) - 48)) 9 (FG tx (p - 1)).toInt 9 (i64 _) (by decide)]
        exact or01 rgV_01
      · rw [r1, if_neg (by decide), if_neg (by decide), if_neg (by decide), if_neg (by decide), if_pos (by decide), if_neg (by decide), if_neg (by decide), if_neg (by decide), if_pos rfl, hin 1 3 1 3 (by decide) (by decide)]
        exact or01 rgV_01
      · rw [r1, if_neg (by decide), if_neg (by decide), if_neg (by decide), if_neg (by decide), if_neg (by decide), if_neg (by decide), if_neg (by decide), if_neg (by decide), if_neg (by decide), hin 0 3 0 3 (by decide) (by decide)]
        exact or01 rgV_01
def fltV (tx : Nat → Nat) (t : Nat) : Nat → Nat → Int32
  | 0, _ => 0
  | k + 1, p => if t ≤ p then (if t < 8 then nI t else if (t - 8) % 6 = 0 then (-9) else nI t) else if fitV tx p = 0 then nI p else fltV tx t k (p + 1)
theorem fit44 {tx : Nat → Nat} : fitV tx 44 = 0 := by unfold fitV; rw [if_neg (by decide), if_neg (by decide)]
theorem faultX_loop {t : Nat} {tx : Nat → Nat} {w : Wd} (h : TXi t tx w) : ∀ (k p N : Nat), 45 - p = k → k ≤ N → p ≤ 44 → D_X4_firstFault_2 w N (nI p) = some (fltV tx t k p) := by
  have ht := h.1
  intro k
  induction k with
  | zero => intro p N hk hN hp; omega
  | succ k ih =>
    intro p N hk hN hp
    obtain ⟨N, rfl⟩ : ∃ M, N = M + 1 := ⟨N - 1, by omega⟩
    unfold D_X4_firstFault_2 fltV
    rw [h.2.2.1]
    by_cases hle : t ≤ p
    · rw [if_pos ((nI_leI (by omega) (by omega)).mpr hle), if_pos hle]
      by_cases h8 : t < 8
      · rw [if_pos (by rw [n8]; exact (nI_ltI (by omega) (by decide)).mpr h8), if_pos h8]
      · rw [if_neg (by rw [n8, nI_ltI (by omega) (by decide)]; exact h8), if_neg h8, n8, pk_sub (by omega), mod6_n (by omega)]
        by_cases r0 : (t - 8) % 6 = 0
        · rw [if_pos (by rw [r0]; rfl), if_pos r0]
        · rw [if_neg (by rw [n0, nI_eq (by omega) (by decide)]; exact r0), if_neg r0]
    · rw [if_neg (by rw [nI_leI (by omega) (by omega)]; exact hle), if_neg hle, fitsX_n h hp, sb]
      by_cases hf : fitV tx p = 0
      · rw [if_pos hf, if_pos hf]
      · have : p ≠ 44 := fun z => hf (z ▸ fit44)
        rw [if_neg hf, if_neg hf, ltd, n1, nI_add]
        exact ih (p + 1) N (by omega) (by omega) (by omega)
theorem faultM_loop {t : Nat} {tx : Nat → Nat} {w : Wd} (h : TXi t tx w) : ∀ (k p N : Nat), 45 - p = k → k ≤ N → p ≤ 44 → D_X6_fault_2 w N (nI p) = some (fltV tx t k p) := by
  have ht := h.1
  intro k
  induction k with
  | zero => intro p N hk hN hp; omega
  | succ k ih =>
    intro p N hk hN hp
    obtain ⟨N, rfl⟩ : ∃ M, N = M + 1 := ⟨N - 1, by omega⟩
    unfold D_X6_fault_2 fltV
    rw [h.2.2.2.1]
    by_cases hle : t ≤ p
    · rw [if_pos ((nI_leI (by omega) (by omega)).mpr hle), if_pos hle]
      by_cases h8 : t < 8
      · rw [if_pos (by rw [n7]; exact (nI_leI (by omega) (by decide)).mpr (by omega)), if_pos h8]
      · rw [if_neg (by rw [n7, nI_leI (by omega) (by decide)]; omega), if_neg h8, n8, pk_sub (by omega), mod6_n (by omega)]
        by_cases r0 : (t - 8) % 6 = 0
        · rw [if_pos (by rw [r0]; rfl), if_pos r0]
        · rw [if_neg (by rw [n0, nI_eq (by omega) (by decide)]; exact r0), if_neg r0]
    · rw [if_neg (by rw [nI_leI (by omega) (by omega)]; exact hle), if_neg hle, mayBe_n h hp, sb]
      by_cases hf : fitV tx p = 0
      · rw [if_pos hf, if_pos hf]
      · have : p ≠ 44 := fun z => hf (z ▸ fit44)
        rw [if_neg hf, if_neg hf, ltd, n1, nI_add]
        exact ih (p + 1) N (by omega) (by omega) (by omega)
theorem faultX_n {t : Nat} {tx : Nat → Nat} {w : Wd} (h : TXi t tx w) : D_X4_firstFault w = some (fltV tx t 45 0) := faultX_loop h 45 0 fuelZ (by omega) (by decide) (by omega)
theorem faultM_n {t : Nat} {tx : Nat → Nat} {w : Wd} (h : TXi t tx w) : D_X6_fault w = some (fltV tx t 45 0) := faultM_loop h 45 0 fuelZ (by omega) (by decide) (by omega)
theorem fault_ok : OkV D_X5_fault D_X6_fault := by
  intro c w hc hi
  obtain ⟨t, tx, P, N, A, na, old, nx, K, V, nv, h1, h2, h3, h4, h5, h6⟩ := hi
  unfold D_X5_fault
  rw [faultX_n h1, faultM_n h1]
  exact ⟨_, rfl, rfl⟩
theorem flt9 {t : Nat} {tx : Nat → Nat} : ∀ (k p : Nat), 45 - p = k → p ≤ 44 → t < 2 ^ 31 → fltV tx t k p = (-9) → 8 ≤ t ∧ (t - 8) % 6 = 0 ∧ t ≤ 44 ∧ ∀ i, p ≤ i → i < t → fitV tx i ≠ 0 := by
  intro k
  induction k with
  | zero => intro p hk hp; omega
  | succ k ih =>
    intro p hk hp ht h
    unfold fltV at h
    by_cases hle : t ≤ p
    · rw [if_pos hle] at h
      by_cases h8 : t < 8
      · rw [if_pos h8] at h; exact absurd h (nI_ne9 ht)
      · rw [if_neg h8] at h
        by_cases r0 : (t - 8) % 6 = 0
        · exact ⟨by omega, r0, by omega, fun i h1 h2 => by omega⟩
        · rw [if_neg r0] at h; exact absurd h (nI_ne9 ht)
    · rw [if_neg hle] at h
      by_cases hf : fitV tx p = 0
      · rw [if_pos hf] at h; exact absurd h (nI_ne9 (by omega))
      · have : p ≠ 44 := fun z => hf (z ▸ fit44)
        rw [if_neg hf] at h
        obtain ⟨h1, h2, h3, h4⟩ := ih (p + 1) (by omega) (by omega) ht h
        refine ⟨h1, h2, h3, fun i g1 g2 => ?_⟩
        by_cases hip : i = p
        · rw [hip]; exact hf
        · exact h4 i (by omega) g2
