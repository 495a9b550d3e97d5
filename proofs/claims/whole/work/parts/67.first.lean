/-! the first of the best rows -/
/-- rows in the order of the search: the first that is as long as the most -/
def valR : List Nat → Nat → Nat
  | [], v => v
  | i :: r, v => valR r (10 * v + i + 1)
/-- the greedy row: at each place the least wedding after which the most is one less -/
def grR (P : Pa) (op : Nat) : Nat → Sd → List Nat → Prop
  | 0, _, r => r = []
  | k + 1, s, r => ∃ i q s', r = i :: q ∧ wedS P s i = some s' ∧ mostR P s' op = k ∧ (∀ j t, j < i → wedS P s j = some t → mostR P t op ≠ k) ∧ grR P op k s' q
/-- no node lies deeper than the most -/
theorem nodes_deep {P : Pa} {B : Nat} (hP : okP P) (hB : 10 ≤ B) {f d lim : Nat} {s : Sd} {q v : Nat} (hs : okS P.1 B s) (hd : d ≤ lim) : ∀ a ∈ nodesS P (fun _ c => (63 : Nat).testBit c) lim f d s q v, a.1 ≤ d + mostR P s (2 ^ P.1 - 1) := by
  intro a ha
  obtain ⟨r, s', k1, k2, k3, k4, k5⟩ := nodes_row hP hB f d s q v hs hd a ha
  have := (mostR_is hP hB hs (2 ^ P.1 - 1)).2 r s' k1 (opR_all hP hB hs k1)
  omega
/-- some wedding makes the most one less -/
theorem most_next {P : Pa} {B : Nat} (hP : okP P) (hB : 10 ≤ B) {s : Sd} (hs : okS P.1 B s) {k : Nat} (hk : mostR P s (2 ^ P.1 - 1) = k + 1) : (∃ i s', wedS P s i = some s' ∧ mostR P s' (2 ^ P.1 - 1) = k) ∧ ∀ i s', wedS P s i = some s' → mostR P s' (2 ^ P.1 - 1) ≤ k := by
  have up : ∀ i s', wedS P s i = some s' → mostR P s' (2 ^ P.1 - 1) ≤ k := by
    intro i s' hw
    obtain ⟨⟨r, t, g1, g2, g3⟩, -⟩ := mostR_is hP hB (wedS_ok hP hs hB hw) (2 ^ P.1 - 1)
    have hr : runS P s (i :: r) = some t := by unfold runS; rw [hw]; exact g1
    have := (mostR_is hP hB hs (2 ^ P.1 - 1)).2 (i :: r) t hr (opR_all hP hB hs hr)
    rw [List.length_cons] at this
    omega
  refine ⟨?_, up⟩
  obtain ⟨⟨r, t, g1, g2, g3⟩, -⟩ := mostR_is hP hB hs (2 ^ P.1 - 1)
  cases r with
  | nil => simp at g3; omega
  | cons i r =>
    unfold runS at g1
    cases hw : wedS P s i with
    | none => rw [hw] at g1; cases g1
    | some s' =>
      rw [hw] at g1
      refine ⟨i, s', hw, Nat.le_antisymm (up i s' hw) ?_⟩
      have := (mostR_is hP hB (wedS_ok hP hs hB hw) (2 ^ P.1 - 1)).2 r t g1 (opR_all hP hB (wedS_ok hP hs hB hw) g1)
      rw [List.length_cons] at g3
      omega
theorem flat_first {α : Type} {p : α → Bool} {F : Nat → List α} : ∀ (n i0 : Nat), (∃ i, i0 ≤ i ∧ i < i0 + n ∧ (F i).find? p ≠ none) → ∃ i, i0 ≤ i ∧ i < i0 + n ∧ (∀ j, i0 ≤ j → j < i → (F j).find? p = none) ∧ ((List.range' i0 n).flatMap F).find? p = (F i).find? p ∧ (F i).find? p ≠ none
  | 0, i0, ⟨i, h1, h2, _⟩ => by omega
  | n + 1, i0, ⟨i, h1, h2, h3⟩ => by
    rw [List.range'_succ, List.flatMap_cons, List.find?_append]
    by_cases h0 : (F i0).find? p = none
    · have hne : i ≠ i0 := fun z => h3 (z ▸ h0)
      obtain ⟨i', g1, g2, g3, g4, g5⟩ := flat_first (p := p) (F := F) n (i0 + 1) ⟨i, by omega, by omega, h3⟩
      refine ⟨i', by omega, by omega, fun j k1 k2 => ?_, ?_, g5⟩
      · by_cases hj : j = i0
        · rw [hj]; exact h0
        · exact g3 j (by omega) k2
      · rw [h0, Option.none_or]; exact g4
    · refine ⟨i0, Nat.le_refl _, by omega, fun j k1 k2 => by omega, ?_, h0⟩
      cases hv : (F i0).find? p with
      | none => exact absurd hv h0
      | some a => rfl
def chF (P : Pa) (f d : Nat) (s : Sd) (q v i : Nat) : List ND := if (63 : Nat).testBit (P.2.2 i 0) = true then (match wedS P s i with
    | some s' => nodesS P (fun _ c => (63 : Nat).testBit c) 6 f (d + 1) s' (q ||| 2 ^ i) (10 * v + i + 1)
    | none => []) else []
theorem chF_some {P : Pa} {f d : Nat} {s t : Sd} {q v i : Nat} (hP : okP P) (h : wedS P s i = some t) : chF P f d s q v i = nodesS P (fun _ c => (63 : Nat).testBit c) 6 f (d + 1) t (q ||| 2 ^ i) (10 * v + i + 1) := by
  unfold chF
  rw [if_pos (b63 _ (hP.2.2 i (wedS_some h).1).1), h]
theorem chF_none {P : Pa} {f d : Nat} {s : Sd} {q v i : Nat} (h : wedS P s i = none) : chF P f d s q v i = [] := by
  unfold chF
  rw [h]
  split <;> rfl
theorem first_gr {P : Pa} {B : Nat} (hP : okP P) (hB : 10 ≤ B) : ∀ (k f d : Nat) (s : Sd) (q v : Nat), okS P.1 B s → mostR P s (2 ^ P.1 - 1) = k → d + k ≤ 6 → k < f →
    ∃ a, (nodesS P (fun _ c => (63 : Nat).testBit c) 6 f d s q v).find? (fun a => a.1 == d + k) = some a ∧ ∃ r, grR P (2 ^ P.1 - 1) k s r ∧ a.2.2.2 = valR r v
  | 0, f, d, s, q, v, hs, hk, hd, hf => by
    obtain ⟨f, rfl⟩ : ∃ g, f = g + 1 := ⟨f - 1, by omega⟩
    unfold nodesS
    rw [List.find?_cons_of_pos (by simp)]
    exact ⟨_, rfl, [], rfl, rfl⟩
  | k + 1, f, d, s, q, v, hs, hk, hd, hf => by
    obtain ⟨f, rfl⟩ : ∃ g, f = g + 1 := ⟨f - 1, by omega⟩
    obtain ⟨⟨i, s', h1, h2⟩, h3⟩ := most_next hP hB hs hk
    unfold nodesS
    rw [List.find?_cons_of_neg (by simp), if_pos (by omega)]
    have some_ : ∀ j t, wedS P s j = some t → mostR P t (2 ^ P.1 - 1) = k → ∃ a, (chF P f d s q v j).find? (fun a => a.1 == d + (k + 1)) = some a ∧ ∃ r, grR P (2 ^ P.1 - 1) k t r ∧ a.2.2.2 = valR r (10 * v + j + 1) := by
      intro j t hw hm
      have := first_gr hP hB k f (d + 1) t (q ||| 2 ^ j) (10 * v + j + 1) (wedS_ok hP hs hB hw) hm (by omega) (by omega)
      rw [show d + 1 + k = d + (k + 1) by omega] at this
      rw [chF_some hP hw]
      exact this
    have none_ : ∀ j t, wedS P s j = some t → mostR P t (2 ^ P.1 - 1) ≠ k → (chF P f d s q v j).find? (fun a => a.1 == d + (k + 1)) = none := by
      intro j t hw hm
      rw [chF_some hP hw, List.find?_eq_none]
      intro a ha
      have h4 := nodes_deep hP hB (wedS_ok hP hs hB hw) (show d + 1 ≤ 6 by omega) a ha
      have h5 := h3 j t hw
      simp
      omega
    have hi := (wedS_some h1).1
    obtain ⟨i', g1, g2, g3, g4, g5⟩ := flat_first (p := fun a : ND => a.1 == d + (k + 1)) (F := chF P f d s q v) P.1 0 ⟨i, Nat.zero_le _, by omega, by
      obtain ⟨a, ha, -⟩ := some_ i s' h1 h2
      rw [ha]
      intro z; cases z⟩
    cases hw : wedS P s i' with
    | none => rw [chF_none hw] at g5; exact absurd rfl g5
    | some t =>
      have hm : mostR P t (2 ^ P.1 - 1) = k := by
        apply Classical.byContradiction
        intro hne
        exact g5 (none_ i' t hw hne)
      obtain ⟨a, ha, r, hr, hv⟩ := some_ i' t hw hm
      refine ⟨a, g4.trans ha, i' :: r, ⟨i', r, t, rfl, hw, hm, fun j u hj hju hmu => ?_, hr⟩, hv⟩
      obtain ⟨b, hb, -⟩ := some_ j u hju hmu
      rw [g3 j (Nat.zero_le _) hj] at hb
      cases hb
theorem firstX_n {P : Pa} {B : Nat} (hP : okP P) (hB : 10 ≤ B) {s : Sd} (hs : okS P.1 B s) : ∃ r, grR P (2 ^ P.1 - 1) (mostR P s (2 ^ P.1 - 1)) s r ∧ (fN 6 (R0 s) (nodes0 P s)).2.1 = valR r 0 := by
  have hm6 := mostR_le6 hP hB hs (2 ^ P.1 - 1)
  have h := fold_first 6 (nodes0 P s) (R0 s)
  rw [long_most hP hB hs] at h
  obtain ⟨a, ha, r, hr, hv⟩ := first_gr hP hB (mostR P s (2 ^ P.1 - 1)) 8 0 s 0 0 hs rfl (by omega) (by omega)
  rw [Nat.zero_add] at ha
  refine ⟨r, hr, ?_⟩
  rw [h]
  by_cases h0 : (R0 s).1 = mostR P s (2 ^ P.1 - 1)
  · rw [if_pos h0]
    have hz : mostR P s (2 ^ P.1 - 1) = 0 := h0.symm
    rw [hz] at hr
    have hr0 : r = [] := hr
    rw [hr0]; rfl
  · rw [if_neg h0]
    show (((nodes0 P s).find? _).map _).getD 0 = _
    unfold nodes0
    rw [ha]
    exact hv
