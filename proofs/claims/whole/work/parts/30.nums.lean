/-! numbers; the pure part begins -/
theorem lit (n : Nat) : (OfNat.ofNat n : Int32) = nI n := rfl
theorem sb {α β : Type} (a : α) (f : α → Option β) : (some a).bind f = f a := rfl
theorem ltd {α β : Type} (a : α) (f : α → β) : lt a f = f a := rfl
theorem n0 : (0 : Int32) = nI 0 := rfl
theorem n1 : (1 : Int32) = nI 1 := rfl
theorem n2 : (2 : Int32) = nI 2 := rfl
theorem n3 : (3 : Int32) = nI 3 := rfl
theorem n4 : (4 : Int32) = nI 4 := rfl
theorem n5 : (5 : Int32) = nI 5 := rfl
theorem n6 : (6 : Int32) = nI 6 := rfl
theorem n7 : (7 : Int32) = nI 7 := rfl
theorem n8 : (8 : Int32) = nI 8 := rfl
theorem n9 : (9 : Int32) = nI 9 := rfl
theorem n10 : (10 : Int32) = nI 10 := rfl
theorem n13 : (13 : Int32) = nI 13 := rfl
theorem n14 : (14 : Int32) = nI 14 := rfl
theorem n16 : (16 : Int32) = nI 16 := rfl
theorem n30 : (30 : Int32) = nI 30 := rfl
theorem n48 : (48 : Int32) = nI 48 := rfl
theorem n64 : (64 : Int32) = nI 64 := rfl
theorem nI_ne9 {b : Nat} (h : b < 2 ^ 31) : nI b ≠ (-9) := by
  intro e
  have h1 := nI_toInt h
  rw [e] at h1
  have h2 : (-9 : Int32).toInt = -9 := by decide +kernel
  rw [h2] at h1
  omega
theorem inB_n {j n : Nat} (hj : j < 2 ^ 31) : inB (nI j) n ↔ j < n := by
  unfold inB
  rw [nI_clamp hj, n0, nI_ltI hj (by decide)]
  omega
theorem nI_lt0 {j : Nat} (hj : j < 2 ^ 31) : ¬ nI j < 0 := by rw [n0, nI_ltI hj (by decide)]; omega
theorem nI_ge0 {j : Nat} (hj : j < 2 ^ 31) : 0 ≤ nI j := by rw [n0, nI_leI (by decide) hj]; omega
theorem maxZ_n {a b : Nat} (ha : a < 2 ^ 31) (hb : b < 2 ^ 31) : maxZ (nI a) (nI b) = nI (max a b) := by
  unfold maxZ
  by_cases h : a < b
  · rw [if_pos ((nI_ltI ha hb).mpr h), Nat.max_eq_right (by omega)]
  · rw [if_neg (fun z => h ((nI_ltI ha hb).mp z)), Nat.max_eq_left (by omega)]
theorem minZ_n {a b : Nat} (ha : a < 2 ^ 31) (hb : b < 2 ^ 31) : minZ (nI a) (nI b) = nI (min a b) := by
  unfold minZ
  by_cases h : b < a
  · rw [if_pos ((nI_ltI hb ha).mpr h), Nat.min_eq_right (by omega)]
  · rw [if_neg (fun z => h ((nI_ltI hb ha).mp z)), Nat.min_eq_left (by omega)]
theorem bit_n : ∀ a, a < 64 → ∀ i, i < 6 → (nI a >>> (nI i &&& 31)) &&& (1 : Int32) = nI (if a.testBit i = true then 1 else 0) := by decide +kernel
theorem orb_n : ∀ a, a < 64 → ∀ i, i < 6 → nI a ||| ((1 : Int32) <<< (nI i &&& 31)) = nI (a ||| 2 ^ i) := by decide +kernel
theorem all_n : ∀ n, n ≤ 6 → ((1 : Int32) <<< (nI n &&& 31)) - (1 : Int32) = nI (2 ^ n - 1) := by decide +kernel
theorem shl_n : ∀ i, i < 6 → ((1 : Int32) <<< (nI i &&& 31)) = nI (2 ^ i) := by decide +kernel
theorem orb_lt {n a i : Nat} (ha : a < 2 ^ n) (hi : i < n) : a ||| 2 ^ i < 2 ^ n := Nat.or_lt_two_pow ha (Nat.pow_lt_pow_right (by decide) hi)
/-- a number told: in range, or not -/
theorem ix_cases (x : Int32) {n : Nat} (hn : n < 2 ^ 31) : (∃ j : Nat, j < n ∧ x = nI j) ∨ (x < 0 ∨ nI n ≤ x) := by
  rcases pk_ix x hn with h | h | h
  · exact Or.inr (Or.inl h)
  · exact Or.inr (Or.inr h)
  · exact Or.inl h
/-! the parish and how things stand, as numbers -/
abbrev Pa : Type := Nat × Nat × (Nat → Nat → Nat)
abbrev Sd : Type := Nat × Nat × Nat × (Nat → Nat)
def lastsP (P : Pa) (i : Nat) : Nat := if P.2.2 i 4 = 3 then max 1 (P.2.2 i 3 - 1) else P.2.2 i 3
def wayU (rd : Nat → Nat) (a b : Nat) : Nat → Nat
  | 0 => 0
  | n + 1 => wayU rd a b n + (if (a ≤ n ∧ n < b) ∨ (b ≤ n ∧ n < a) then rd n else 0)
def wayN (rd : Nat → Nat) (a b : Nat) : Nat := wayU rd a b 5
def lateW (P : Pa) (i : Nat) : Nat := if P.2.2 i 4 = 2 then 1 else 0
def thickW (P : Pa) (i : Nat) : Nat := if P.2.2 i 4 = 1 then 1 else 0
def begW (P : Pa) (i h wy : Nat) : Option Nat := if max (h + wy + lateW P i) (P.2.2 i 1) ≤ P.2.2 i 2 ∧ max (h + wy + lateW P i) (P.2.2 i 1) + lastsP P i ≤ P.2.1 then some (max (h + wy + lateW P i) (P.2.2 i 1)) else none
def freeW (P : Pa) (i b : Nat) : Nat := b + lastsP P i + thickW P i
def begS (P : Pa) (s : Sd) (i : Nat) : Option Nat := if i < P.1 ∧ ¬ s.2.2.1.testBit i = true then begW P i s.1 (wayN s.2.2.2 s.2.1 (P.2.2 i 0)) else none
def wedS (P : Pa) (s : Sd) (i : Nat) : Option Sd := (begS P s i).map fun b => (freeW P i b, P.2.2 i 0, s.2.2.1 ||| 2 ^ i, s.2.2.2)
def enc : Option Nat → Int32
  | some b => nI b
  | none => -9
def okP (P : Pa) : Prop := P.1 ≤ 6 ∧ P.2.1 ≤ 9 ∧ ∀ i, i < P.1 → P.2.2 i 0 ≤ 5 ∧ P.2.2 i 1 ≤ 9 ∧ P.2.2 i 2 ≤ 9 ∧ 1 ≤ P.2.2 i 3 ∧ P.2.2 i 3 ≤ 3 ∧ P.2.2 i 4 ≤ 3
def okS (n B : Nat) (s : Sd) : Prop := s.1 ≤ B ∧ s.2.1 ≤ 5 ∧ s.2.2.1 < 2 ^ n ∧ ∀ r, r < 5 → s.2.2.2 r ≤ 3
theorem wayU_le {rd : Nat → Nat} (h : ∀ r, r < 5 → rd r ≤ 3) (a b : Nat) : ∀ n, n ≤ 5 → wayU rd a b n ≤ 3 * n
  | 0, _ => Nat.le_refl _
  | n + 1, hn => by
    have h1 := wayU_le h a b n (by omega)
    have h2 := h n (by omega)
    unfold wayU
    split <;> omega
theorem wayN_le {rd : Nat → Nat} (h : ∀ r, r < 5 → rd r ≤ 3) (a b : Nat) : wayN rd a b ≤ 15 := wayU_le h a b 5 (Nat.le_refl _)
theorem lastsP_le {P : Pa} (hP : okP P) {i : Nat} (hi : i < P.1) : 1 ≤ lastsP P i ∧ lastsP P i ≤ 3 := by
  have h := hP.2.2 i hi
  unfold lastsP
  split <;> omega
theorem begW_le {P : Pa} (hP : okP P) {i h wy b : Nat} (hi : i < P.1) (hb : begW P i h wy = some b) : b ≤ 9 ∧ b + lastsP P i ≤ 9 ∧ h + wy + lateW P i ≤ b := by
  unfold begW at hb
  split at hb
  · rename_i hc
    cases hb
    have h1 := hP.2.2 i hi
    have h2 := hP.2.1
    omega
  · cases hb
theorem enc_9 {o : Option Nat} (h : ∀ b, o = some b → b < 2 ^ 31) : enc o = (-9) ↔ o = none := by
  cases o with
  | none => exact ⟨fun _ => rfl, fun _ => rfl⟩
  | some b => exact ⟨fun z => absurd z (nI_ne9 (h b rfl)), fun z => by cases z⟩
