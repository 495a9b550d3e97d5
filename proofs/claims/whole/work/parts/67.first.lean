/-! the first of the best rows -/
/-- rows in the order of the search: the first that is as long as the most -/
def valR : List Nat → Nat → Nat
  | [], v => v
  | i :: r, v => valR r (10 * v + i + 1)
/-- the greedy row: at each place the least wedding after which the most is one less -/
def grR (P : Pa) (op : Nat) : Nat → Sd → List Nat → Prop
  | 0, _, r => r = []
  | k + 1, s, r => ∃ i q s', r = i :: q ∧ wedS P s i = some s' ∧ mostR P s' op = k ∧ (∀ j t, j < i → wedS P s j = some t → mostR P t op ≠ k) ∧ grR P op k s' q
/-- no node lies deeper than the most -/
theorem nodes_deep {P : Pa} {B : Nat} (hP : okP P) (hB : 10 ≤ B) {f d lim : Nat} {s : Sd} {q v : Nat} (hs : okS P.1 B s) (hd : d ≤ lim) : ∀ a ∈ nodesS P (fun _ c => (63 : Nat).testBit c) lim f d s q v, a.1 ≤ d + mostR P s (2 ^ P.1 - 1) := by
  intro a ha
  obtain ⟨r, s', k1, k2, k3, k4, k5⟩ := nodes_row hP hB f d s q v hs hd a ha
  have := (mostR_is hP hB hs (2 ^ P.1 - 1)).2 r s' k1 (opR_all hP hB hs k1)
  omega
/-- some wedding makes the most one less -/
theorem most_next {P : Pa} {B : Nat} (hP : okP P) (hB : 10 ≤ B) {s : Sd} (hs : okS P.1 B s) {k : Nat} (hk : mostR P s (2 ^ P.1 - 1) = k + 1) : (∃ i s', wedS P s i = some s' ∧ mostR P s' (2 ^ P.1 - 1) = k) ∧ ∀ i s', wedS P s i = some s' → mostR P s' (2 ^ P.1 - 1) ≤ k := by
  have up : ∀ i s', wedS P s i = some s' → mostR P s' (2 ^ P.1 - 1) ≤ k := by
    intro i s' hw
    obtain ⟨⟨r, t, g1, g2, g3⟩, -⟩ := mostR_is hP hB (wedS_ok hP hs hB hw) (2 ^ P.1 - 1)
    have hr : runS P s (i :: r) = some t := by unfold runS; rw [hw]; exact g1
    have := (mostR_is hP hB hs (2 ^ P.1 - 1)).2 (i :: r) t hr (opR_all hP hB hs hr)
    rw [List.length_cons] at this
    omega
  refine ⟨?_, up⟩
  obtain ⟨⟨r, t, g1, g2, g3⟩, -⟩ := mostR_is hP hB hs (2 ^ P.1 - 1)
  cases r with
  | nil => simp at g3; omega
  | cons i r =>
    unfold runS at g1
    cases hw : wedS P s i with
    | none => rw [hw] at g1; cases g1
    | some s' =>
      rw [hw] at g1
      refine ⟨i, s', hw, Nat.le_antisymm (up i s' hw) ?_⟩
      have := (mostR_is hP hB (wedS_ok hP hs hB hw) (2 ^ P.1 - 1)).2 r t g1 (opR_all hP hB (wedS_ok hP hs hB hw) g1)
      rw [List.length_cons] at g3
      omega
