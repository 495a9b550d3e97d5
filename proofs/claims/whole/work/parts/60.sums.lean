/-! sums over falls -/
def smN (g : Nat → Nat) : Nat → Nat
  | 0 => 0
  | n + 1 => smN g n + g n
theorem smN_congr {g h : Nat → Nat} : ∀ n, (∀ q, q < n → g q = h q) → smN g n = smN h n
  | 0, _ => rfl
  | n + 1, e => by
    unfold smN
    rw [smN_congr n (fun q hq => e q (by omega)), e n (by omega)]
theorem smN_add {g : Nat → Nat} (a : Nat) : ∀ b, smN g (a + b) = smN g a + smN (fun q => g (a + q)) b
  | 0 => rfl
  | b + 1 => by
    show smN g (a + b) + g (a + b) = _
    rw [smN_add a b, Nat.add_assoc]; rfl
theorem smN_mul {g : Nat → Nat} (c : Nat) : ∀ n, smN (fun q => c * g q) n = c * smN g n
  | 0 => rfl
  | n + 1 => by
    unfold smN
    rw [smN_mul c n, Nat.mul_add]
theorem smN_zero {g : Nat → Nat} : ∀ n, (∀ q, q < n → g q = 0) → smN g n = 0
  | 0, _ => rfl
  | n + 1, e => by
    unfold smN
    rw [smN_zero n (fun q hq => e q (by omega)), e n (by omega)]
theorem smN_le {g h : Nat → Nat} : ∀ n, (∀ q, q < n → g q ≤ h q) → smN g n ≤ smN h n
  | 0, _ => Nat.le_refl _
  | n + 1, e => by
    unfold smN
    have := smN_le n (fun q hq => e q (by omega))
    have := e n (by omega)
    omega
theorem WN_congr {wy : Nat → Nat} {x f g : Nat} : ∀ p, (∀ q, q < p → f.testBit q = g.testBit q) → WN wy x f p = WN wy x g p
  | 0, _ => rfl
  | p + 1, e => by
    unfold WN
    rw [WN_congr p (fun q hq => e q (by omega)), e p (by omega)]
theorem WN_total {wy : Nat → Nat} {x : Nat} (hx : x ≤ 10) : ∀ p, smN (fun f => WN wy x f p) (2 ^ p) = 10 ^ p
  | 0 => rfl
  | p + 1 => by
    have ih := WN_total (wy := wy) hx p
    have e1 : smN (fun f => WN wy x f (p + 1)) (2 ^ p) = fcN x (wy p) false * 10 ^ p := by
      rw [← ih, ← smN_mul]
      refine smN_congr _ (fun f hf => ?_)
      show WN wy x f p * fcN x (wy p) (f.testBit p) = _
      rw [Nat.testBit_lt_two_pow hf, Nat.mul_comm]
    have e2 : smN (fun q => (fun f => WN wy x f (p + 1)) (2 ^ p + q)) (2 ^ p) = fcN x (wy p) true * 10 ^ p := by
      rw [← ih, ← smN_mul]
      refine smN_congr _ (fun f hf => ?_)
      show WN wy x (2 ^ p + f) p * fcN x (wy p) ((2 ^ p + f).testBit p) = _
      rw [Nat.testBit_two_pow_add_eq, Nat.testBit_lt_two_pow hf, Nat.mul_comm, WN_congr p (fun q hq => Nat.testBit_two_pow_add_gt hq f)]
      rfl
    have e3 : fcN x (wy p) false + fcN x (wy p) true = 10 := by
      unfold fcN
      by_cases h : 0 < wy p
      · simp only [if_pos h]; simp; omega
      · simp only [if_neg h]; simp
    rw [Nat.pow_succ, Nat.mul_two, smN_add, e1, e2, ← Nat.add_mul, e3, Nat.pow_succ, Nat.mul_comm]
def cB (h : Nat → Bool) : Nat → Nat
  | 0 => 0
  | p + 1 => cB h p + (if h p = true then 1 else 0)
theorem cB_mono {h g : Nat → Bool} : ∀ p, (∀ q, q < p → h q = true → g q = true) → cB h p ≤ cB g p
  | 0, _ => Nat.le_refl _
  | p + 1, e => by
    have := cB_mono p (fun q hq => e q (by omega))
    have e2 := e p (by omega)
    unfold cB
    by_cases h1 : h p = true
    · rw [if_pos h1, if_pos (e2 h1)]; omega
    · rw [if_neg h1]; split <;> omega
theorem cB_congr {h g : Nat → Bool} : ∀ p, (∀ q, q < p → h q = g q) → cB h p = cB g p
  | 0, _ => rfl
  | p + 1, e => by
    unfold cB
    rw [cB_congr p (fun q hq => e q (by omega)), e p (by omega)]
theorem cB_up {h : Nat → Bool} {p : Nat} : ∀ k, (∀ q, p ≤ q → h q = false) → cB h (p + k) = cB h p
  | 0, _ => rfl
  | k + 1, e => by
    show cB h (p + k) + (if h (p + k) = true then 1 else 0) = _
    rw [cB_up k e, e (p + k) (by omega)]; rfl
theorem WN_sub {wy : Nat → Nat} {x f : Nat} : ∀ p, (∀ q, q < p → f.testBit q = true → 0 < wy q) → WN wy x f p = 10 ^ (cB (fun q => decide (wy q = 0)) p) * (x ^ (cB f.testBit p) * (10 - x) ^ (cB (fun q => decide (0 < wy q)) p - cB f.testBit p))
  | 0, _ => rfl
  | p + 1, e => by
    have ih := WN_sub (x := x) p (fun q hq => e q (by omega))
    have hle : cB f.testBit p ≤ cB (fun q => decide (0 < wy q)) p := cB_mono p (fun q hq h => decide_eq_true (e q (by omega) h))
    unfold WN
    rw [ih]
    show _ = 10 ^ (cB (fun q => decide (wy q = 0)) p + (if decide (wy p = 0) = true then 1 else 0)) * (x ^ (cB f.testBit p + (if f.testBit p = true then 1 else 0)) * (10 - x) ^ (cB (fun q => decide (0 < wy q)) p + (if decide (0 < wy p) = true then 1 else 0) - (cB f.testBit p + (if f.testBit p = true then 1 else 0))))
    unfold fcN
    by_cases h0 : 0 < wy p
    · rw [if_pos h0, if_neg (show ¬ decide (wy p = 0) = true from fun z => by have := of_decide_eq_true z; omega), if_pos (decide_eq_true h0)]
      by_cases ht : f.testBit p = true
      · rw [if_pos ht, if_pos ht, Nat.add_zero, Nat.add_sub_add_right, Nat.pow_succ]
        simp only [Nat.mul_assoc, Nat.mul_comm, Nat.mul_left_comm]
      · rw [if_neg ht, if_neg ht, Nat.add_zero, Nat.add_zero, show cB (fun q => decide (0 < wy q)) p + 1 - cB f.testBit p = (cB (fun q => decide (0 < wy q)) p - cB f.testBit p) + 1 by omega, Nat.pow_succ]
        simp only [Nat.mul_assoc, Nat.mul_comm, Nat.mul_left_comm]
    · have ht : ¬ f.testBit p = true := fun z => h0 (e p (by omega) z)
      rw [if_neg h0, if_neg ht, if_pos (decide_eq_true (show wy p = 0 by omega)), if_neg (show ¬ decide (0 < wy p) = true from fun z => h0 (of_decide_eq_true z)), if_neg ht, Nat.pow_succ]
      simp only [Nat.add_zero, Nat.mul_assoc, Nat.mul_comm, Nat.mul_left_comm]
theorem WN_not {wy : Nat → Nat} {x f : Nat} : ∀ p q, q < p → f.testBit q = true → wy q = 0 → WN wy x f p = 0
  | 0, q, h, _, _ => by omega
  | p + 1, q, h, ht, hz => by
    unfold WN
    by_cases hq : q = p
    · subst hq
      unfold fcN
      rw [if_neg (by omega), if_pos ht, Nat.mul_zero]
    · rw [WN_not p q (by omega) ht hz, Nat.zero_mul]
abbrev subN (f m : Nat) : Prop := ∀ q, q < 6 → f.testBit q = true → m.testBit q = true
theorem subN_n : ∀ f, f < 64 → ∀ m, m < 64 → ((nI f &&& (nI m ^^^ (-1)) = 0) ↔ subN f m) := by decide +kernel
theorem subN_le : ∀ f, f < 64 → ∀ m, m < 64 → subN f m → f ≤ m := by decide +kernel
theorem cnt6_cB (f : Nat) : cnt6 f = cB f.testBit 6 := by
  unfold cnt6 cB cB cB cB cB cB cB
  omega
theorem cnt6_n {f n : Nat} (hn : n ≤ 6) (hf : f < 2 ^ n) : cnt6 f = cB f.testBit n := by
  rw [cnt6_cB]
  have : cB f.testBit (n + (6 - n)) = cB f.testBit n := cB_up (6 - n) (fun q hq => Nat.testBit_lt_two_pow (Nat.lt_of_lt_of_le hf (Nat.pow_le_pow_right (by decide) hq)))
  rwa [show n + (6 - n) = 6 by omega] at this
def vM (x m f : Nat) : Nat := x ^ cnt6 f * (10 - x) ^ (cnt6 m - cnt6 f)
/-- a weight, by the mask of ways -/
theorem WN_mask {wy : Nat → Nat} {x f n : Nat} (hn : n ≤ 6) (hf : f < 2 ^ n) : WN wy x f n = 10 ^ (cB (fun q => decide (wy q = 0)) n) * (if subN f (wmN wy n) then vM x (wmN wy n) f else 0) := by
  by_cases hsub : subN f (wmN wy n)
  · rw [if_pos hsub]
    have hb : ∀ q, q < n → f.testBit q = true → 0 < wy q := fun q hq ht => ((wmN_bit n q).mp (hsub q (by omega) ht)).2
    rw [WN_sub n hb]
    unfold vM
    rw [cnt6_n hn hf, cnt6_n hn (wmN_lt n)]
    rw [cB_congr (h := (wmN wy n).testBit) (g := fun q => decide (0 < wy q)) n (fun q hq => ?_)]
    by_cases h0 : 0 < wy q
    · rw [(wmN_bit n q).mpr ⟨hq, h0⟩, decide_eq_true h0]
    · rw [decide_eq_false h0]
      cases ht : (wmN wy n).testBit q with
      | false => rfl
      | true => exact absurd ((wmN_bit n q).mp ht).2 h0
  · rw [if_neg hsub, Nat.mul_zero]
    have hex : ∃ q, q < n ∧ f.testBit q = true ∧ wy q = 0 := by
      apply Classical.byContradiction
      intro hno
      apply hsub
      intro q hq ht
      have hqn : q < n := by
        apply Classical.byContradiction
        intro hge
        have := Nat.testBit_lt_two_pow (Nat.lt_of_lt_of_le hf (Nat.pow_le_pow_right (by decide) (show n ≤ q by omega)))
        rw [this] at ht; cases ht
      refine (wmN_bit n q).mpr ⟨hqn, ?_⟩
      apply Classical.byContradiction
      intro hz
      exact hno ⟨q, hqn, ht, by omega⟩
    obtain ⟨q, h1, h2, h3⟩ := hex
    exact WN_not n q h1 h2 h3
/-- the two sums: one is the other, by the places with no way -/
theorem sums_eq {wy : Nat → Nat} {x n : Nat} (hn : n ≤ 6) (hd : Nat → Bool) : smN (fun f => if hd f = true then WN wy x f n else 0) (2 ^ n) = 10 ^ (cB (fun q => decide (wy q = 0)) n) * smN (fun f => if subN f (wmN wy n) then (if hd f = true then vM x (wmN wy n) f else 0) else 0) (wmN wy n + 1) := by
  have hm := wmN_lt (wy := wy) n
  have h64 : 2 ^ n ≤ 64 := Nat.pow_le_pow_right (n := 2) (by decide) hn
  have e : 2 ^ n = (wmN wy n + 1) + (2 ^ n - (wmN wy n + 1)) := by omega
  have e1 : smN (fun f => if hd f = true then WN wy x f n else 0) (2 ^ n) = smN (fun f => 10 ^ (cB (fun q => decide (wy q = 0)) n) * (if subN f (wmN wy n) then (if hd f = true then vM x (wmN wy n) f else 0) else 0)) (2 ^ n) := by
    refine smN_congr _ (fun f hf => ?_)
    show (if hd f = true then WN wy x f n else 0) = _
    rw [WN_mask hn hf]
    by_cases h1 : hd f = true
    · simp only [if_pos h1]
    · simp only [if_neg h1]
      split <;> rw [Nat.mul_zero]
  rw [e1, smN_mul]
  congr 1
  rw [e, smN_add, smN_zero (2 ^ n - (wmN wy n + 1)), Nat.add_zero]
  intro q hq
  show (if subN (wmN wy n + 1 + q) (wmN wy n) then _ else 0) = 0
  rw [if_neg]
  intro z
  have := subN_le (wmN wy n + 1 + q) (by omega) (wmN wy n) (by omega) z
  omega
theorem pow_n {a : Nat} : ∀ (n j F k : Nat), k - j = n → n < F → j ≤ k → k < 2 ^ 31 → D_X6_power_4 F (nI a) (nI k) (nI (a ^ j)) (nI j) = some (nI (a ^ k)) := by
  intro n
  induction n with
  | zero =>
    intro j F k hn hF hj hk
    obtain ⟨F, rfl⟩ : ∃ M, F = M + 1 := ⟨F - 1, by omega⟩
    have : j = k := by omega
    subst this
    unfold D_X6_power_4
    rw [if_pos ((nI_leI (by omega) (by omega)).mpr (Nat.le_refl _))]
  | succ n ih =>
    intro j F k hn hF hj hk
    obtain ⟨F, rfl⟩ : ∃ M, F = M + 1 := ⟨F - 1, by omega⟩
    unfold D_X6_power_4
    rw [if_neg (by rw [nI_leI (by omega) (by omega)]; omega), pk_mul, ltd, ltd, n1, nI_add, ← Nat.pow_succ]
    exact ih (j + 1) F k (by omega) (by omega) (by omega) hk
theorem power_n {a k : Nat} (hk : k ≤ 6) : D_X6_power (nI a) (nI k) = some (nI (a ^ k)) := pow_n (a := a) k 0 fuelZ k (by omega) (by unfold fuelZ; omega) (by omega) (by omega)
