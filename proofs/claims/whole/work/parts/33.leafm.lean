/-! the reference's leaves -/
def MP (P : Pa) (w : Wd) : Prop := w.1 6 0 0 = nI P.1 ∧ w.1 6 0 1 = nI P.2.1 ∧ ∀ i, i < P.1 → w.1 20 0 i = nI (P.2.2 i 0) ∧ w.1 21 0 i = nI (P.2.2 i 1) ∧ w.1 22 0 i = nI (P.2.2 i 2) ∧ w.1 23 0 i = nI (P.2.2 i 3) ∧ w.1 24 0 i = nI (P.2.2 i 4)
def ML (l : Nat) (s : Sd) (w : Wd) : Prop := w.1 25 0 (8 * l) = nI s.1 ∧ w.1 25 0 (8 * l + 1) = nI s.2.1 ∧ w.1 25 0 (8 * l + 2) = nI s.2.2.1 ∧ ∀ r, r < 5 → w.1 25 0 (8 * l + 3 + r) = nI (s.2.2.2 r)
theorem in_n (a b c : Int64) : D_X6_in a b c = some (if b.toInt ≤ a.toInt ∧ a.toInt ≤ c.toInt then 1 else 0) := by
  unfold D_X6_in lg_cmp
  by_cases h1 : a.toInt < b.toInt
  · have e1 : ¬ a > b := by rw [gt_iff_lt, Int64.lt_iff_toInt_lt]; omega
    have e2 : ¬ a = b := by rw [← Int64.toInt_inj]; omega
    rw [if_neg e1, if_neg e2, if_pos (by decide +kernel), if_neg (by omega)]
  · by_cases h2 : c.toInt < a.toInt
    · have e3 : a > c := by rw [gt_iff_lt, Int64.lt_iff_toInt_lt]; omega
      rw [if_neg (c := (if a > b then (1 : Int32) else if a = b then 0 else -1) < 0) (by
        by_cases h3 : a > b
        · rw [if_pos h3]; decide +kernel
        · rw [if_neg h3, if_pos (by rw [gt_iff_lt, Int64.lt_iff_toInt_lt] at h3; rw [← Int64.toInt_inj]; omega)]; decide +kernel), if_pos e3, if_pos (by decide +kernel), if_neg (by omega)]
    · have e3 : ¬ a > c := by rw [gt_iff_lt, Int64.lt_iff_toInt_lt]; omega
      rw [if_neg (c := (if a > b then (1 : Int32) else if a = b then 0 else -1) < 0) (by
        by_cases h3 : a > b
        · rw [if_pos h3]; decide +kernel
        · rw [if_neg h3, if_pos (by rw [gt_iff_lt, Int64.lt_iff_toInt_lt] at h3; rw [← Int64.toInt_inj]; omega)]; decide +kernel), if_neg e3, if_neg (by
        by_cases h3 : a = c
        · rw [if_pos h3]; decide +kernel
        · rw [if_neg h3]; decide +kernel), if_pos (by omega)]
theorem i64 (x : Int32) : (Int32.toInt64 x).toInt = x.toInt := by simp
theorem in_32 {x : Int32} {b c : Int64} {B C : Int} (hb : b.toInt = B) (hc : c.toInt = C) : D_X6_in (Int32.toInt64 x) b c = some (if B ≤ x.toInt ∧ x.toInt ≤ C then 1 else 0) := by rw [in_n, i64, hb, hc]
theorem in_y {x : Int32} {j : Nat} {b c : Int64} {B C : Nat} (hj : j < 2 ^ 31) (hx : x = nI j) (hb : b.toInt = B) (hc : c.toInt = C) (h1 : B ≤ j) (h2 : j ≤ C) : D_X6_in (Int32.toInt64 x) b c = some 1 := by
  rw [in_32 hb hc, hx, nI_toInt hj, if_pos (by omega)]
theorem out_toInt {x : Int32} {n : Nat} (hn : n < 2 ^ 31) (h : x < 0 ∨ nI n ≤ x) : x.toInt < 0 ∨ (n : Int) ≤ x.toInt := by
  rcases h with h | h
  · rw [Int32.lt_iff_toInt_lt] at h; exact Or.inl (by simpa using h)
  · rw [Int32.le_iff_toInt_le, nI_toInt hn] at h; exact Or.inr h
theorem isWeddingM_n {P : Pa} {w : Wd} (hP : okP P) (h : MP P w) {i : Nat} (hi : i < P.1) : D_X6_isWedding w (nI i) = some 1 := by
  have h6 := hP.1
  unfold D_X6_isWedding
  rw [h.1, n1, in_32 (B := 0) (C := (P.1 : Int) - 1) (by decide) (by rw [i64, pk_sub_toInt (by omega) (by omega)]; rfl), nI_toInt (by omega), if_pos (by omega), sb, if_pos (by decide +kernel)]
  rfl
theorem isWeddingM_o {P : Pa} {w : Wd} (hP : okP P) (h : MP P w) {x : Int32} (hx : x < 0 ∨ nI P.1 ≤ x) : D_X6_isWedding w x = some 0 := by
  have h6 := hP.1
  have := out_toInt (by omega) hx
  unfold D_X6_isWedding
  rw [h.1, n1, in_32 (B := 0) (C := (P.1 : Int) - 1) (by decide) (by rw [i64, pk_sub_toInt (by omega) (by omega)]; rfl), if_neg (by omega), sb, if_pos (by decide +kernel)]
theorem hasM_n : ∀ a, a < 64 → ∀ i, i < 6 → D_X6_has (nI a) (nI i) = some (nI (if a.testBit i = true then 1 else 0)) := by decide +kernel
def cnt6 (a : Nat) : Nat := (if a.testBit 0 then 1 else 0) + (if a.testBit 1 then 1 else 0) + (if a.testBit 2 then 1 else 0) + (if a.testBit 3 then 1 else 0) + (if a.testBit 4 then 1 else 0) + (if a.testBit 5 then 1 else 0)
theorem onesM_n : ∀ a, a < 64 → D_X6_ones (nI a) = some (nI (cnt6 a)) := by decide +kernel
theorem everyM_n {P : Pa} {w : Wd} (hP : okP P) (h : MP P w) : D_X6_every w = some (nI (2 ^ P.1 - 1)) := by
  unfold D_X6_every
  rw [h.1, all_n P.1 hP.1]
theorem lev_ix {l r : Nat} (hl : l ≤ 1) : (8 : Int32) * nI l + (3 : Int32) + nI r = nI (8 * l + 3 + r) := by rw [n8, n3, pk_mul, nI_add, nI_add]
theorem wayM_loop {w : Wd} {l : Nat} {rd : Nat → Nat} (hl : l ≤ 1) (hr : ∀ r, r < 5 → w.1 25 0 (8 * l + 3 + r) = nI (rd r)) (hrd : ∀ r, r < 5 → rd r ≤ 3) {a b : Nat} (ha : a ≤ 5) (hb : b ≤ 5) :
    ∀ (n j N : Nat), 5 - j < n → n ≤ N → j ≤ 5 → D_X6_wayOn_6 w N (nI l) (nI a) (nI b) (nI (wayU rd a b j)) (nI j) = some (nI (wayU rd a b 5)) := by
  intro n
  induction n with
  | zero => intro j N h; omega
  | succ n ih =>
    intro j N h hN hj
    obtain ⟨N, rfl⟩ : ∃ M, N = M + 1 := ⟨N - 1, by omega⟩
    unfold D_X6_wayOn_6
    by_cases h5 : j = 5
    · subst h5
      rw [if_pos (by rw [n5]; exact (nI_leI (by decide) (by decide)).mpr (Nat.le_refl _))]
    · have hj5 : j < 5 := by omega
      have hix : (8 : Int32) * nI l + (3 : Int32) + nI j = nI (8 * l + 3 + j) := lev_ix hl
      have hin : inB (nI (8 * l + 3 + j)) 16 := (inB_n (by omega)).mpr (by omega)
      have hc : (nI (8 * l + 3 + j)).toNatClampNeg = 8 * l + 3 + j := nI_clamp (by omega)
      have hle := wayU_le hrd a b j (by omega)
      have IH := ih (j + 1) N (by omega) (by omega) (by omega)
      have stay : ¬ ((a ≤ j ∧ j < b) ∨ (b ≤ j ∧ j < a)) → wayU rd a b (j + 1) = wayU rd a b j := fun z => by
        show wayU rd a b j + _ = _
        rw [if_neg z]; rfl
      have add : ((a ≤ j ∧ j < b) ∨ (b ≤ j ∧ j < a)) → wayU rd a b (j + 1) = wayU rd a b j + rd j := fun z => by
        show wayU rd a b j + _ = _
        rw [if_pos z]
      have lt1 : ∀ c, c ≤ 5 → (nI j < nI c ↔ j < c) := fun c hc => nI_ltI (by omega) (by omega)
      have le1 : ∀ c, c ≤ 5 → (nI c ≤ nI j ↔ c ≤ j) := fun c hc => nI_leI (by omega) (by omega)
      rw [if_neg (by rw [n5, nI_leI (by omega) (by omega)]; omega)]
      by_cases h1 : j < a
      · rw [if_pos ((lt1 a ha).mpr h1)]
        unfold D_X6_wayOn_24
        by_cases h2 : j < b
        · rw [if_pos ((lt1 b hb).mpr h2), ltd, ltd, n0, n1, nI_add, nI_add, Nat.add_zero]
          rw [stay (by omega)] at IH
          exact IH
        · rw [if_neg (fun z => h2 ((lt1 b hb).mp z)), if_neg (fun z => by have := (le1 a ha).mp z; omega), hix, if_pos hin, ltd, ltd, hc, hr j hj5, n1, nI_add, nI_add, ← add (by omega)]
          exact IH
      · rw [if_neg (fun z => h1 ((lt1 a ha).mp z))]
        by_cases h2 : j < b
        · rw [if_pos ((lt1 b hb).mpr h2), hix, if_pos hin, ltd, ltd, hc, hr j hj5, n1, nI_add, nI_add, ← add (by omega)]
          exact IH
        · rw [if_neg (fun z => h2 ((lt1 b hb).mp z))]
          unfold D_X6_wayOn_24
          rw [if_neg (fun z => h2 ((lt1 b hb).mp z)), if_pos ((le1 a ha).mpr (by omega)), ltd, ltd, n0, n1, nI_add, nI_add, Nat.add_zero]
          rw [stay (by omega)] at IH
          exact IH
theorem wayM_n {w : Wd} {l n B : Nat} {s : Sd} (hl : l ≤ 1) (h : ML l s w) (hs : okS n B s) {a b : Nat} (ha : a ≤ 5) (hb : b ≤ 5) : D_X6_wayOn w (nI l) (nI a) (nI b) = some (nI (wayN s.2.2.2 a b)) := by
  unfold D_X6_wayOn
  exact wayM_loop hl h.2.2.2 hs.2.2.2 ha hb 6 0 fuelZ (by omega) (by decide) (by omega)
theorem lastsM_n {P : Pa} {w : Wd} (hP : okP P) (h : MP P w) {i : Nat} (hi : i < P.1) : D_X6_lasts w (nI i) = some (nI (lastsP P i)) := by
  have h6 := hP.1
  obtain ⟨f0, f1, f2, f3, f3b, f4⟩ := hP.2.2 i hi
  obtain ⟨m0, m1, m2, m3, m4⟩ := h.2.2 i hi
  have hin : inB (nI i) 6 := (inB_n (by omega)).mpr (by omega)
  unfold D_X6_lasts lastsP
  simp only [if_pos hin, nI_clamp (show i < 2 ^ 31 by omega), m4, m3]
  by_cases hk : P.2.2 i 4 = 3
  · rw [if_pos (by rw [n3, nI_eq (by omega) (by decide)]; exact hk), if_pos hk]
    by_cases h1 : P.2.2 i 3 ≤ 1
    · rw [if_pos (by rw [n1, nI_leI (by omega) (by decide)]; exact h1)]
      congr 2; omega
    · rw [if_neg (by rw [n1, nI_leI (by omega) (by decide)]; exact h1), n1, pk_sub (by omega)]
      congr 2; omega
  · rw [if_neg (by rw [n3, nI_eq (by omega) (by decide)]; exact hk), if_neg hk]
theorem beginsM_n {P : Pa} {w : Wd} {l B : Nat} {s : Sd} (hP : okP P) (h : MP P w) (hl : l ≤ 1) (hm : ML l s w) (hs : okS P.1 B s) {i c hh more : Nat} (hi : i < P.1) (hc : c ≤ 5) (hb : hh + more < 2 ^ 29) : D_X6_begins w (nI l) (nI i) (nI c) (nI hh) (nI more) = some (enc (begW P i hh (wayN s.2.2.2 c (P.2.2 i 0) + more))) := by
  have h6 := hP.1
  obtain ⟨f0, f1, f2, f3, f3b, f4⟩ := hP.2.2 i hi
  obtain ⟨m0, m1, m2, m3, m4⟩ := h.2.2 i hi
  have hin : inB (nI i) 6 := (inB_n (by omega)).mpr (by omega)
  have hwl := wayN_le hs.2.2.2 c (P.2.2 i 0)
  have hll := lastsP_le hP hi
  have hss := hP.2.1
  have key : ∀ l0, D_X6_begins_33 w (nI i) (nI l0) (nI hh + nI (wayN s.2.2.2 c (P.2.2 i 0)) + nI more) = some (enc (if max (hh + (wayN s.2.2.2 c (P.2.2 i 0) + more) + l0) (P.2.2 i 1) ≤ P.2.2 i 2 ∧ max (hh + (wayN s.2.2.2 c (P.2.2 i 0) + more) + l0) (P.2.2 i 1) + lastsP P i ≤ P.2.1 then some (max (hh + (wayN s.2.2.2 c (P.2.2 i 0) + more) + l0) (P.2.2 i 1)) else none)) ∨ 2 ^ 20 ≤ l0 := by
    intro l0
    by_cases hl0 : l0 < 2 ^ 20
    · refine Or.inl ?_
      unfold D_X6_begins_33
      rw [ltd, nI_add, nI_add, nI_add]
      simp only [if_pos hin, nI_clamp (show i < 2 ^ 31 by omega), m1, m2, ltd]
      have tail : ∀ t, t < 2 ^ 30 → (if nI (P.2.2 i 2) < nI t then some (-9 : Int32) else (D_X6_lasts w (nI i)).bind fun q10 => if w.1 6 0 1 < nI t + q10 then some (-9) else some (nI t)) = some (enc (if t ≤ P.2.2 i 2 ∧ t + lastsP P i ≤ P.2.1 then some t else none)) := by
        intro t ht
        by_cases hc1 : t ≤ P.2.2 i 2
        · rw [if_neg (by rw [nI_ltI (by omega) (by omega)]; omega), lastsM_n hP h hi, sb, h.2.1, nI_add]
          by_cases hc2 : t + lastsP P i ≤ P.2.1
          · rw [if_neg (by rw [nI_ltI (by omega) (by omega)]; omega), if_pos ⟨hc1, hc2⟩]; rfl
          · rw [if_pos ((nI_ltI (by omega) (by omega)).mpr (by omega)), if_neg (fun z => hc2 z.2)]; rfl
        · rw [if_pos ((nI_ltI (by omega) (by omega)).mpr (by omega)), if_neg (fun z => hc1 z.1)]; rfl
      by_cases hf : P.2.2 i 1 ≤ hh + wayN s.2.2.2 c (P.2.2 i 0) + more + l0
      · rw [if_pos ((nI_leI (by omega) (by omega)).mpr hf), show max (hh + (wayN s.2.2.2 c (P.2.2 i 0) + more) + l0) (P.2.2 i 1) = hh + wayN s.2.2.2 c (P.2.2 i 0) + more + l0 by omega]
        exact tail _ (by omega)
      · rw [if_neg (fun z => hf ((nI_leI (by omega) (by omega)).mp z)), show max (hh + (wayN s.2.2.2 c (P.2.2 i 0) + more) + l0) (P.2.2 i 1) = P.2.2 i 1 by omega]
        exact tail _ (by omega)
    · exact Or.inr (by omega)
  unfold D_X6_begins
  simp only [if_pos hin, nI_clamp (show i < 2 ^ 31 by omega), m0, m4, wayM_n hl hm hs hc f0, sb]
  unfold begW lateW
  by_cases hk : P.2.2 i 4 = 2
  · rw [if_pos (by rw [n2, nI_eq (by omega) (by decide)]; exact hk), if_pos hk]
    exact (key 1).resolve_right (by decide)
  · rw [if_neg (by rw [n2, nI_eq (by omega) (by decide)]; exact hk), if_neg hk]
    exact (key 0).resolve_right (by decide)
theorem behindM_n {P : Pa} {w : Wd} (hP : okP P) (h : MP P w) {i b : Nat} (hi : i < P.1) : D_X6_behind w (nI i) (nI b) = some (nI (freeW P i b)) := by
  have h6 := hP.1
  obtain ⟨f0, f1, f2, f3, f3b, f4⟩ := hP.2.2 i hi
  obtain ⟨m0, m1, m2, m3, m4⟩ := h.2.2 i hi
  unfold D_X6_behind freeW thickW
  rw [lastsM_n hP h hi, sb, if_pos ((inB_n (by omega)).mpr (by omega)), nI_clamp (by omega), m4]
  by_cases hk : P.2.2 i 4 = 1
  · rw [if_pos (by rw [n1, nI_eq (by omega) (by decide)]; exact hk), if_pos hk, n1, nI_add, nI_add]
  · rw [if_neg (by rw [n1, nI_eq (by omega) (by decide)]; exact hk), if_neg hk, n0, nI_add, nI_add]
theorem beginsNow_n {P : Pa} {w : Wd} {l B : Nat} {s : Sd} (hP : okP P) (h : MP P w) (hl : l ≤ 1) (hm : ML l s w) (hs : okS P.1 B s) (hB : B < 2 ^ 28) {i : Nat} (hi : i < P.1) : D_X6_beginsNow w (nI l) (nI i) = some (enc (begS P s i)) := by
  have h6 := hP.1
  have hs1 := hs.1
  unfold D_X6_beginsNow begS
  rw [ltd, n8, n2, n1, pk_mul, nI_add, nI_add, if_pos ((inB_n (by omega)).mpr (by omega)), nI_clamp (by omega), hm.2.2.1, hasM_n _ (pow_le64 h6 hs.2.2.1) i (by omega), sb]
  by_cases hb : s.2.2.1.testBit i = true
  · rw [if_pos hb, if_neg (by decide +kernel), if_neg (fun z => z.2 hb)]; rfl
  · have i1 : inB (nI (8 * l + 1)) 16 := (inB_n (by omega)).mpr (by omega)
    have i2 : inB (nI (8 * l)) 16 := (inB_n (by omega)).mpr (by omega)
    rw [if_neg hb, if_pos (by decide +kernel), if_pos i1, if_pos i2, if_pos (c := i < P.1 ∧ ¬ s.2.2.1.testBit i = true) ⟨hi, hb⟩, nI_clamp (by omega), nI_clamp (by omega), hm.1, hm.2.1, n0, beginsM_n hP h hl hm hs hi hs.2.1 (by omega), sb, Nat.add_zero]
def OffM (w w' : Wd) : Prop := (∀ k i, (k, i) ≠ (25, 0) → w'.1 k i = w.1 k i) ∧ (∀ j, j < 8 → w'.1 25 0 j = w.1 25 0 j) ∧ w'.2 = w.2
theorem OffM.rf {w : Wd} : OffM w w := ⟨fun _ _ _ => rfl, fun _ _ => rfl, rfl⟩
theorem OffM.tr {a b c : Wd} (h1 : OffM a b) (h2 : OffM b c) : OffM a c := ⟨fun k i h => (h2.1 k i h).trans (h1.1 k i h), fun j hj => (h2.2.1 j hj).trans (h1.2.1 j hj), h2.2.2.trans h1.2.2⟩
theorem MP.off {P : Pa} {w w' : Wd} {L : List (Nat × Nat)} (h : MP P w) (ho : Off L w w') (h0 : (6, 0) ∉ L) (h1 : (20, 0) ∉ L) (h2 : (21, 0) ∉ L) (h3 : (22, 0) ∉ L) (h4 : (23, 0) ∉ L) (h5 : (24, 0) ∉ L) : MP P w' := by
  unfold MP
  rw [ho.1 6 0 h0, ho.1 20 0 h1, ho.1 21 0 h2, ho.1 22 0 h3, ho.1 23 0 h4, ho.1 24 0 h5]
  exact h
/-- a wedding at a level: the level's cells alone change -/
theorem wedOn_n {P : Pa} {w : Wd} {l B : Nat} {s : Sd} (hP : okP P) (h : MP P w) (hl : l ≤ 1) (hm : ML l s w) (hs : okS P.1 B s) (hB : B < 2 ^ 28) {i : Nat} (hi : i < P.1) :
    (wedS P s i = none ∧ D_X6_wedOn w (nI l) (nI i) = some (0, w)) ∨ ∃ s' w', wedS P s i = some s' ∧ D_X6_wedOn w (nI l) (nI i) = some (1, w') ∧ ML l s' w' ∧ Off [(25, 0)] w w' ∧ ∀ j, (j < 8 * l ∨ 8 * l + 8 ≤ j) → w'.1 25 0 j = w.1 25 0 j := by
  have h6 := hP.1
  have hin : inB (nI i) 6 := (inB_n (by omega)).mpr (by omega)
  obtain ⟨m0, -⟩ := h.2.2 i hi
  unfold D_X6_wedOn
  rw [ltd, n8, pk_mul, beginsNow_n hP h hl hm hs hB hi, sb]
  unfold wedS
  cases hb : begS P s i with
  | none => exact Or.inl ⟨rfl, if_pos rfl⟩
  | some b =>
    obtain ⟨g1, g2⟩ := begS_le hP hb
    refine Or.inr ⟨_, wS (wS (wS w 25 0 (8 * l) (nI (freeW P i b))) 25 0 (8 * l + 1) (nI (P.2.2 i 0))) 25 0 (8 * l + 2) (nI (s.2.2.1 ||| 2 ^ i)), rfl, ?_, ⟨?_, ?_, wS_at, ?_⟩, Off.wS.tr (Off.wS.tr Off.wS), ?_⟩
    · have o20 : (wS w 25 0 (8 * l) (nI (freeW P i b))).1 20 0 = w.1 20 0 := wS_off (by simp)
      rw [show enc (some b) = nI b from rfl, if_neg (nI_ne9 (by omega)), behindM_n hP h hi, sb, n1, n2, nI_add, nI_add, if_pos ((inB_n (by omega)).mpr (by omega)), ltd, if_pos hin, if_pos ((inB_n (by omega)).mpr (by omega)), ltd, if_pos ((inB_n (by omega)).mpr (by omega)), if_pos ((inB_n (by omega)).mpr (by omega)), ltd, nI_clamp (by omega), nI_clamp (by omega), nI_clamp (by omega), nI_clamp (by omega), o20, m0, wS_ne (by omega), wS_ne (by omega), hm.2.2.1, ← n1, orb_n _ (pow_le64 h6 hs.2.2.1) i (by omega)]
    · rw [wS_ne (by omega), wS_ne (by omega), wS_at]
    · rw [wS_ne (by omega), wS_at]
    · intro r hr
      rw [wS_ne (by omega), wS_ne (by omega), wS_ne (by omega)]
      exact hm.2.2.2 r hr
    · intro j hj
      rw [wS_ne (by omega), wS_ne (by omega), wS_ne (by omega)]
theorem layTrial_loop : ∀ (n j N : Nat) (w : Wd), 8 - j < n → n ≤ N → j ≤ 8 → (∀ r, r < j → w.1 25 0 (8 + r) = w.1 25 0 r) →
    ∃ w', D_X6_layTrial_2 N (nI j) w = some w' ∧ (∀ r, r < 8 → w'.1 25 0 (8 + r) = w.1 25 0 r) ∧ OffM w w' := by
  intro n
  induction n with
  | zero => intro j N w h; omega
  | succ n ih =>
    intro j N w h hN hj hg
    obtain ⟨N, rfl⟩ : ∃ M, N = M + 1 := ⟨N - 1, by omega⟩
    unfold D_X6_layTrial_2
    by_cases h8 : j = 8
    · subst h8
      rw [if_pos (by rw [n8]; exact (nI_leI (by decide) (by decide)).mpr (Nat.le_refl _))]
      exact ⟨w, rfl, hg, OffM.rf⟩
    · have hj8 : j < 8 := by omega
      rw [if_neg (by rw [n8, nI_leI (by decide) (by omega)]; omega), if_pos ((inB_n (by omega)).mpr (by omega)), n8, nI_add, if_pos ((inB_n (by omega)).mpr (by omega)), ltd, ltd, nI_clamp (by omega), nI_clamp (by omega), n1, nI_add]
      have o1 : OffM w (wS w 25 0 (8 + j) (w.1 25 0 j)) := ⟨fun k i hk => wS_off (fun z => hk (by rw [z.1, z.2])), fun r hr => wS_ne (by omega), rfl⟩
      obtain ⟨w', h1, h2, h3⟩ := ih (j + 1) N (wS w 25 0 (8 + j) (w.1 25 0 j)) (by omega) (by omega) (by omega) (fun r hr => by
        by_cases hrj : r = j
        · subst hrj; rw [wS_at, wS_ne (by omega)]
        · rw [wS_ne (by omega), wS_ne (by omega)]; exact hg r (by omega))
      exact ⟨w', h1, fun r hr => (h2 r hr).trans (o1.2.1 r hr), o1.tr h3⟩
theorem layTrial_n {w : Wd} {s : Sd} (h : ML 0 s w) : ∃ w', D_X6_layTrial w = some w' ∧ ML 1 s w' ∧ OffM w w' := by
  obtain ⟨w', h1, h2, h3⟩ := layTrial_loop 9 0 fuelZ w (by omega) (by decide) (by omega) (fun r hr => by omega)
  refine ⟨w', h1, ⟨?_, ?_, ?_, ?_⟩, h3⟩
  · exact (h2 0 (by omega)).trans h.1
  · exact (h2 1 (by omega)).trans h.2.1
  · exact (h2 2 (by omega)).trans h.2.2.1
  · intro r hr
    rw [show 8 * 1 + 3 + r = 8 + (3 + r) by omega, h2 (3 + r) (by omega)]
    have := h.2.2.2 r hr
    rw [show 8 * 0 + 3 + r = 3 + r by omega] at this
    exact this
