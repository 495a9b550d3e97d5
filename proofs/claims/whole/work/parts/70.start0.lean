/-! before the first call -/
theorem inv0 : Inv 0 w0 := by
  refine ⟨0, fun _ => 0, (0, 9, fun _ _ => 0), (0, 0, 0, fun _ => 1), fun _ => (0, 0, 0, fun _ => 1), 0, 0, 0, fun _ => none, fun _ => (0, 0), 0, ⟨by decide, fun _ _ => Nat.zero_le _, ?_, ?_, ?_⟩, ⟨⟨by decide, by decide, fun i hi => absurd hi (Nat.not_lt_zero i)⟩, ⟨?_, ?_, fun i hi => absurd hi (Nat.not_lt_zero i), fun i hi => absurd hi (Nat.not_lt_zero i)⟩, ⟨?_, ?_, fun i hi => absurd hi (Nat.not_lt_zero i)⟩, ⟨Nat.zero_le _, by decide, by decide, fun _ _ => by show 1 ≤ 3; decide⟩, ⟨?_, ?_, ?_, ?_⟩, ⟨?_, ?_, ?_, ?_⟩⟩, ACi_iff.mpr ⟨⟨by decide, by decide, by decide, fun i hi => absurd hi (Nat.not_lt_zero i)⟩, ⟨?_, ?_, fun i hi => absurd hi (Nat.not_lt_zero i)⟩, ⟨?_, ?_, fun i hi => absurd hi (Nat.not_lt_zero i)⟩⟩, fun q hq => ⟨?_, ?_, fun x hx => by cases hx⟩, ⟨by decide, ?_, ?_, fun i hi => absurd hi (Nat.not_lt_zero i)⟩, rfl⟩
  · decide +kernel
  · decide +kernel
  · have : ∀ j, j < 48 → w0.1 10 0 j = nI 0 ∧ w0.1 26 0 j = nI 0 := by decide +kernel
    exact this
  · decide +kernel
  · decide +kernel
  · decide +kernel
  · decide +kernel
  · decide +kernel
  · decide +kernel
  · decide +kernel
  · have : ∀ j, j < 5 → w0.1 15 0 j = nI 1 := by decide +kernel
    exact this
  · decide +kernel
  · decide +kernel
  · decide +kernel
  · have : ∀ j, j < 5 → w0.1 25 0 (8 * 0 + 3 + j) = nI 1 := by decide +kernel
    exact this
  · decide +kernel
  · decide +kernel
  · decide +kernel
  · decide +kernel
  · have : ∀ j, j < 2 → w0.1 19 0 j = nI 0 := by decide +kernel
    exact this q hq
  · have : ∀ j, j < 2 → w0.1 33 0 j = nI 0 := by decide +kernel
    exact this q hq
  · decide +kernel
  · decide +kernel
