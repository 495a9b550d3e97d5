theorem law_ok (X : XS) (hX : X.1 ≤ 2560) : ∃ r, D_L_law_18 X fuelZ 0 w0 = some r ∧ r.1 = 1 := by
  sorry
