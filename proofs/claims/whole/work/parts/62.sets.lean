/-! the most of a set of weddings -/
theorem setR_tb : ∀ (r : List Nat) (j : Nat), (setR r).testBit j = true ↔ j ∈ r
  | [], j => by unfold setR; simp
  | i :: r, j => by
    unfold setR
    rw [Nat.or_comm, tb_or, setR_tb r j]
    constructor
    · rintro (h | rfl)
      · exact List.mem_cons_of_mem _ h
      · exact List.mem_cons_self
    · intro h
      rcases List.mem_cons.mp h with rfl | h
      · exact Or.inr rfl
      · exact Or.inl h
theorem setR_ltn {n : Nat} : ∀ (r : List Nat), (∀ i ∈ r, i < n) → setR r < 2 ^ n
  | [], _ => by unfold setR; exact Nat.pow_pos (by decide)
  | i :: r, h => by
    unfold setR
    rw [Nat.or_comm]
    exact orb_lt (setR_ltn r (fun j hj => h j (List.mem_cons_of_mem _ hj))) (h i List.mem_cons_self)
theorem cnt_or : ∀ a, a < 64 → ∀ b, b < 64 → a &&& b = 0 → cnt6 (a ||| b) = cnt6 a + cnt6 b := by decide +kernel
theorem and0 : ∀ a, a < 64 → ∀ b, b < 64 → (∀ j, j < 6 → b.testBit j = true → a.testBit j = false) → a &&& b = 0 := by decide +kernel
theorem run_set {P : Pa} {B : Nat} (hP : okP P) (hB : 10 ≤ B) {s s' : Sd} (hs : okS P.1 B s) {r : List Nat} (h : runS P s r = some s') : r.length = cnt6 (setR r) ∧ setR r < 64 ∧ ∀ i ∈ r, i < P.1 := by
  obtain ⟨k1, k2, k3, k4, k5, k6⟩ := run_inv hP hB r s s' hs h
  have hw := pow_le64 hP.1 hs.2.2.1
  have hr : setR r < 64 := pow_le64 hP.1 (setR_ltn r k4)
  have hd := and0 _ hw _ hr (fun j _ hj => k5 j ((setR_tb r j).mp hj))
  rw [k3, cnt_or _ hw _ hr hd] at k6
  exact ⟨by omega, hr, k4⟩
theorem cnt_sub : ∀ a, a < 64 → ∀ b, b < 64 → (∀ j, j < 6 → a.testBit j = true → b.testBit j = true) → cnt6 a ≤ cnt6 b := by decide +kernel
theorem most_full {P : Pa} {B : Nat} (hP : okP P) (hB : 10 ≤ B) {s s' : Sd} (hs : okS P.1 B s) {r : List Nat} (h : runS P s r = some s') : mostR P s (setR r) = cnt6 (setR r) := by
  refine isMost_uniq (mostR_is hP hB hs _) ⟨⟨r, s', h, fun i hi => (setR_tb r i).mpr hi, (run_set hP hB hs h).1⟩, fun q t g1 g2 => ?_⟩
  obtain ⟨a1, a2, a3⟩ := run_set hP hB hs g1
  rw [a1]
  exact cnt_sub _ a2 _ (run_set hP hB hs h).2.1 (fun j _ hj => g2 j ((setR_tb q j).mp hj))
theorem most_sub {P : Pa} {B : Nat} (hP : okP P) (hB : 10 ≤ B) {s : Sd} (hs : okS P.1 B s) {a b : Nat} (h : ∀ j, j < 6 → a.testBit j = true → b.testBit j = true) : mostR P s a ≤ mostR P s b := by
  obtain ⟨⟨r, s', g1, g2, g3⟩, -⟩ := mostR_is hP hB hs a
  rw [← g3]
  have h6 := hP.1
  exact (mostR_is hP hB hs b).2 r s' g1 (fun i hi => h i (by have := (run_set hP hB hs g1).2.2 i hi; omega) (g2 i hi))
theorem eq_bits : ∀ a, a < 64 → ∀ b, b < 64 → (∀ j, j < 6 → (a.testBit j = true ↔ b.testBit j = true)) → a = b := by decide +kernel
/-- a set that no row fills: the best without one of its weddings -/
theorem most_step {P : Pa} {B : Nat} (hP : okP P) (hB : 10 ≤ B) {s : Sd} (hs : okS P.1 B s) {a : Nat} (ha : a < 64) (hno : ∀ r s', runS P s r = some s' → setR r ≠ a) : ∃ i, i < 6 ∧ a.testBit i = true ∧ mostR P s a = mostR P s (clrN a i) := by
  obtain ⟨⟨r, s', g1, g2, g3⟩, -⟩ := mostR_is hP hB hs a
  have h6 := hP.1
  obtain ⟨a1, a2, a3⟩ := run_set hP hB hs g1
  have hex : ∃ i, i < 6 ∧ a.testBit i = true ∧ i ∉ r := by
    apply Classical.byContradiction
    intro hc
    apply hno r s' g1
    refine eq_bits _ a2 _ ha (fun j hj => ⟨fun z => g2 j ((setR_tb r j).mp z), fun z => (setR_tb r j).mpr ?_⟩)
    apply Classical.byContradiction
    intro hn
    exact hc ⟨j, hj, z, hn⟩
  obtain ⟨i, h1, h2, h3⟩ := hex
  obtain ⟨c1, c2⟩ := clr_b a ha i h1
  refine ⟨i, h1, h2, Nat.le_antisymm ?_ (most_sub hP hB hs (fun j hj z => ((c2 j hj).mp z).1))⟩
  rw [← g3]
  refine (mostR_is hP hB hs (clrN a i)).2 r s' g1 (fun j hj => (c2 j (by have := a3 j hj; omega)).mpr ⟨g2 j hj, fun z => h3 (z ▸ hj)⟩)
/-- the class's best over the weddings of a set -/
noncomputable def bstN (P : Pa) (s : Sd) (a : Nat) : Nat → Nat → Nat → Nat
  | 0, _, x => x
  | n + 1, i, x => bstN P s a n (i + 1) (if a.testBit i = true then max x (mostR P s (clrN a i)) else x)
theorem bstN_le {P : Pa} {s : Sd} {a m : Nat} : ∀ (n i x : Nat), x ≤ m → (∀ j, i ≤ j → j < i + n → a.testBit j = true → mostR P s (clrN a j) ≤ m) → bstN P s a n i x ≤ m
  | 0, _, x, h, _ => h
  | n + 1, i, x, h, e => by
    unfold bstN
    refine bstN_le n (i + 1) _ ?_ (fun j h1 h2 h3 => e j (by omega) (by omega) h3)
    split
    · rename_i ht
      have := e i (Nat.le_refl _) (by omega) ht
      omega
    · exact h
theorem bstN_ge {P : Pa} {s : Sd} {a : Nat} : ∀ (n i x : Nat), x ≤ bstN P s a n i x ∧ ∀ j, i ≤ j → j < i + n → a.testBit j = true → mostR P s (clrN a j) ≤ bstN P s a n i x
  | 0, _, x => ⟨Nat.le_refl _, fun j h1 h2 => by omega⟩
  | n + 1, i, x => by
    unfold bstN
    obtain ⟨h1, h2⟩ := bstN_ge (P := P) (s := s) (a := a) n (i + 1) (if a.testBit i = true then max x (mostR P s (clrN a i)) else x)
    refine ⟨?_, fun j g1 g2 g3 => ?_⟩
    · refine Nat.le_trans ?_ h1
      split <;> omega
    · by_cases hj : j = i
      · subst hj
        rw [if_pos g3] at h1 ⊢
        omega
      · exact h2 j (by omega) (by omega) g3
theorem bstN_most {P : Pa} {B : Nat} (hP : okP P) (hB : 10 ≤ B) {s : Sd} (hs : okS P.1 B s) {a : Nat} (ha : a < 64) (hno : ∀ r s', runS P s r = some s' → setR r ≠ a) : bstN P s a 6 0 0 = mostR P s a := by
  obtain ⟨i, h1, h2, h3⟩ := most_step hP hB hs ha hno
  refine Nat.le_antisymm (bstN_le 6 0 0 (Nat.zero_le _) (fun j _ hj ht => ?_)) ?_
  · obtain ⟨c1, c2⟩ := clr_b a ha j (by omega)
    exact most_sub hP hB hs (fun k hk z => ((c2 k hk).mp z).1)
  · rw [h3]
    exact (bstN_ge 6 0 0).2 i (Nat.zero_le _) (by omega) h2
/-- held by some row: told by the search -/
theorem hold_iff {P : Pa} {B : Nat} (hP : okP P) (hB : 10 ≤ B) {s : Sd} (hs : okS P.1 B s) (a : Nat) : ((∃ r s', runS P s r = some s' ∧ setR r = a) → (fN 6 (R0 s) (nodes0 P s)).2.2.2.2.2.2 a = 1) ∧ ((∀ r s', runS P s r = some s' → setR r ≠ a) → (fN 6 (R0 s) (nodes0 P s)).2.2.2.2.2.2 a = 0) := by
  obtain ⟨h1, h2⟩ := fold_hold 6 a (nodes0 P s) (R0 s)
  constructor
  · rintro ⟨r, s', g1, g2⟩
    have hl := run_len hP hB hs g1
    obtain ⟨x, hx, k1, k2, k3⟩ := row_node (lim := 6) hP hB r 8 0 s 0 0 s' hs g1 (by omega) (by omega)
    exact h1 ⟨x, hx, by rw [k3, g2, Nat.zero_or]⟩
  · intro hno
    refine (h2 ?_).trans rfl
    rintro ⟨x, hx, hj⟩
    obtain ⟨r, s', k1, k2, k3, k4, k5⟩ := nodes_row hP hB 8 0 s 0 0 hs (by omega) x hx
    rw [Nat.zero_or] at k4
    exact hno r s' k1 (k4.symm.trans hj)
theorem bitCount_n : ∀ a, a < 64 → D_J6_bitCount_0f7a4 (nI a) = some (nI (cnt6 a)) := by decide +kernel
