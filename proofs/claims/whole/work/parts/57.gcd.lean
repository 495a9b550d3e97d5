/-! the greatest divisor, and fractions -/
def euc : Nat → Nat → Nat → Option Nat
  | 0, _, _ => none
  | n + 1, a, b => if b = 0 then some a else euc n b (a % b)
theorem euc_gcd : ∀ (k n a b : Nat), b < 2 ^ k → 2 * k + 1 ≤ n → euc n a b = some (Nat.gcd a b)
  | 0, n, a, b, hb, hn => by
    obtain ⟨n, rfl⟩ : ∃ m, n = m + 1 := ⟨n - 1, by omega⟩
    have : b = 0 := by omega
    subst this
    unfold euc
    rw [if_pos rfl, Nat.gcd_zero_right]
  | k + 1, n, a, b, hb, hn => by
    obtain ⟨n, rfl⟩ : ∃ m, n = m + 1 := ⟨n - 1, by omega⟩
    obtain ⟨n, rfl⟩ : ∃ m, n = m + 1 := ⟨n - 1, by omega⟩
    unfold euc
    by_cases h0 : b = 0
    · rw [if_pos h0, h0, Nat.gcd_zero_right]
    · rw [if_neg h0]
      have hr := Nat.mod_lt a (show b > 0 by omega)
      have e1 : Nat.gcd a b = Nat.gcd b (a % b) := by rw [Nat.gcd_comm a b, Nat.gcd_rec b a, Nat.gcd_comm]
      unfold euc
      by_cases h1 : a % b = 0
      · rw [if_pos h1, e1, h1, Nat.gcd_zero_right]
      · rw [if_neg h1]
        have hr2 := Nat.mod_lt b (show a % b > 0 by omega)
        have e2 : Nat.gcd b (a % b) = Nat.gcd (a % b) (b % (a % b)) := by rw [Nat.gcd_comm b (a % b), Nat.gcd_rec (a % b) b, Nat.gcd_comm]
        rw [e1, e2]
        refine euc_gcd k n (a % b) (b % (a % b)) ?_ (by omega)
        have hd := Nat.div_add_mod b (a % b)
        have hq : 1 ≤ b / (a % b) := Nat.div_pos (by omega) (by omega)
        have hm : a % b ≤ a % b * (b / (a % b)) := Nat.le_mul_of_pos_right _ hq
        rw [Nat.pow_succ] at hb
        omega
theorem gdX_loop : ∀ (n i N a b : Nat), a < 2 ^ 31 → b < 2 ^ 31 → n ≤ N → i + n ≤ 65 → ∀ r, euc n a b = some r → D_X5_greatestDivisor_7 N (nI a) (nI b) (nI i) = some (nI r) := by
  intro n
  induction n with
  | zero => intro i N a b ha hb hN hi r h; cases h
  | succ n ih =>
    intro i N a b ha hb hN hi r h
    obtain ⟨N, rfl⟩ : ∃ M, N = M + 1 := ⟨N - 1, by omega⟩
    unfold euc at h
    unfold D_X5_greatestDivisor_7
    by_cases h0 : b = 0
    · rw [if_pos h0] at h
      cases h
      by_cases h64 : (64 : Int32) ≤ nI i
      · rw [if_pos h64]
      · rw [if_neg h64, if_pos (by rw [h0]; decide)]
    · rw [if_neg h0] at h
      have hn0 : n ≠ 0 := fun z => by rw [z] at h; cases h
      have hr := Nat.mod_lt a (show b > 0 by omega)
      rw [if_neg (by rw [n64, nI_leI (by decide) (by omega)]; omega), if_neg (by rw [n0, nI_leI (by omega) (by decide)]; omega), if_pos (by rw [n0, nI_eq (by omega) (by decide)]; exact h0), pk_rem ha (by omega) hb, ltd, ltd, n1, nI_add]
      exact ih (i + 1) N b (a % b) hb (by omega) (by omega) (by omega) r h
theorem gdX_n {a b : Nat} (ha : a < 2 ^ 31) (hb : b < 2 ^ 31) : D_X5_greatestDivisor (nI a) (nI b) = some (nI (Nat.gcd a b)) :=
  gdX_loop 63 0 fuelZ a b ha hb (by decide) (by decide) _ (euc_gcd 31 63 a b hb (by decide))
theorem comM_loop : ∀ (n N a b : Nat), a < 2 ^ 31 → b < 2 ^ 31 → n ≤ N → ∀ r, euc n a b = some r → D_X6_common_13 N (nI a) (nI b) = some (nI r) := by
  intro n
  induction n with
  | zero => intro N a b ha hb hN r h; cases h
  | succ n ih =>
    intro N a b ha hb hN r h
    obtain ⟨N, rfl⟩ : ∃ M, N = M + 1 := ⟨N - 1, by omega⟩
    unfold euc at h
    unfold D_X6_common_13
    by_cases h0 : b = 0
    · rw [if_pos h0] at h
      cases h
      rw [if_pos (by rw [h0]; rfl)]
    · rw [if_neg h0] at h
      have hr := Nat.mod_lt a (show b > 0 by omega)
      have hne : ¬ nI b = 0 := by rw [n0, nI_eq (by omega) (by decide)]; exact h0
      rw [if_neg hne, if_pos hne, pk_rem ha (by omega) hb, ltd]
      exact ih N b (a % b) hb (by omega) (by omega) r h
theorem comM_n {a b : Nat} (ha : a < 2 ^ 31) (hb : b < 2 ^ 31) : D_X6_common (nI a) (nI b) = some (nI (Nat.gcd a b)) := by
  unfold D_X6_common
  rw [if_pos (nI_ge0 ha)]
  exact comM_loop 63 fuelZ a b ha hb (by decide) _ (euc_gcd 31 63 a b hb (by decide))
theorem fracX_n {a b : Nat} {x : Int32} (ha : a < 2 ^ 31) (hb : b < 2 ^ 31) (h0 : 0 < b) : D_X5_fraction (nI a) (nI b) x = some (if x = 0 then nI (b / Nat.gcd a b) else nI (a / Nat.gcd a b)) := by
  have hg : 0 < Nat.gcd a b := Nat.gcd_pos_of_pos_right a h0
  have hg2 : Nat.gcd a b < 2 ^ 31 := Nat.lt_of_le_of_lt (Nat.gcd_le_right a h0) hb
  have hne : ¬ nI (Nat.gcd a b) = 0 := by rw [n0, nI_eq hg2 (by decide)]; omega
  unfold D_X5_fraction
  rw [gdX_n ha hb, sb, if_pos (by rw [n1]; exact (nI_leI (by decide) hg2).mpr hg)]
  by_cases hx : x = 0
  · rw [if_pos hx, if_pos hx, if_pos hne, pk_div hb hg hg2]
  · rw [if_neg hx, if_neg hx, if_pos hne, pk_div ha hg hg2]
