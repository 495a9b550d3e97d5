/-! the class's leaves -/
def XP (P : Pa) (w : Wd) : Prop := w.1 1 0 2 = nI P.1 ∧ w.1 1 0 3 = nI P.2.1 ∧ (∀ i, i < P.1 → ∀ k, k < 5 → w.1 11 0 (5 * i + k) = nI (P.2.2 i k)) ∧ ∀ i, i < P.1 → w.1 12 0 i = nI (lastsP P i)
def XS1 (q : Nat) (s : Sd) (w : Wd) : Prop := w.1 3 q 1 = nI s.1 ∧ w.1 3 q 2 = nI s.2.1 ∧ w.1 3 q 3 = nI s.2.2.1 ∧ ∀ r, r < 5 → w.1 15 q r = nI (s.2.2.2 r)
theorem arrZ_15 {i : Nat} (h : i < 19) : arrZ 15 i = true := by
  simp only [arrZ, arrK, Bool.and_eq_true, Bool.or_eq_true, decide_eq_true_eq]
  exact ⟨Or.inl ⟨rfl, h⟩, rfl⟩
theorem at_n {w : Wd} {k i j : Nat} (hk : arrZ k i = true) (hL : lenZ k < 2 ^ 31) (hj : j < lenZ k) : D_X5_at w k i (nI j) = some (rdZ w k i j) := by
  have hj2 : j < 2 ^ 31 := by omega
  unfold D_X5_at
  rw [if_pos hk, if_neg (nI_lt0 hj2), if_neg, if_pos ((inB_n hj2).mpr hj), nI_clamp hj2]
  show ¬ nI (lenZ k) ≤ nI j
  rw [nI_leI hL hj2]; omega
theorem at_out {w : Wd} {k i : Nat} {x : Int32} (hk : arrZ k i = true) (hx : x < 0 ∨ nI (lenZ k) ≤ x) : D_X5_at w k i x = some 0 := by
  unfold D_X5_at
  rw [if_pos hk]
  by_cases h : x < 0
  · rw [if_pos h]
  · rw [if_neg h, if_pos]
    exact hx.resolve_left h
theorem fig_n {P : Pa} {w : Wd} (hP : okP P) (h : XP P w) {i k : Nat} (hi : i < P.1) (hk : k < 5) : D_X1_figure w (nI i) (nI k) = some (nI (P.2.2 i k)) := by
  have h6 := hP.1
  unfold D_X1_figure
  have e : nI i * (5 : Int32) + nI k = nI (5 * i + k) := by rw [n5, pk_mul, nI_add, Nat.mul_comm]
  have hb : 5 * i + k < 30 := by omega
  have hj : 5 * i + k < 2 ^ 31 := by omega
  rw [ltd, e, if_neg (nI_lt0 hj), if_neg (by rw [n30, nI_leI (by decide) hj]; omega), if_pos ((inB_n hj).mpr hb), nI_clamp hj, h.2.2.1 i hi k hk]
theorem has_n {P : Pa} {w : Wd} (h : XP P w) {i : Nat} (hP : okP P) (hi : i < P.1) : D_X1_has w (nI i) = some 1 := by
  have h6 := hP.1
  unfold D_X1_has
  rw [if_neg (nI_lt0 (by omega)), h.1, if_neg (by rw [nI_leI (by omega) (by omega)]; omega)]
theorem has_o {P : Pa} {w : Wd} (h : XP P w) {x : Int32} (hx : x < 0 ∨ nI P.1 ≤ x) : D_X1_has w x = some 0 := by
  unfold D_X1_has
  by_cases h0 : x < 0
  · rw [if_pos h0]
  · rw [if_neg h0, h.1, if_pos (hx.resolve_left h0)]
theorem isWed_n {w : Wd} {q wd i : Nat} (hq : q < 19) (hw : w.1 3 q 3 = nI wd) (hwd : wd < 64) (hi : i < 6) : D_X3_isWed w q (nI i) = some (nI (if wd.testBit i = true then 1 else 0)) := by
  unfold D_X3_isWed
  rw [if_pos hq, if_neg (nI_lt0 (by omega)), if_neg (by rw [n6, nI_leI (by omega) (by omega)]; omega), hw, bit_n wd hwd i hi]
  by_cases hb : wd.testBit i = true
  · rw [if_pos hb, if_neg (by decide)]; rfl
  · rw [if_neg hb, if_pos (by decide)]; rfl
theorem pow_le64 {n wd : Nat} (hn : n ≤ 6) (h : wd < 2 ^ n) : wd < 64 := Nat.lt_of_lt_of_le h (Nat.pow_le_pow_right (by decide) hn)
/-- the sum from a to b of the roads, as the class's loop makes it -/
def wayX (rd : Nat → Nat) (b : Nat) : Nat → Nat → Nat
  | 0, _ => 0
  | n + 1, a => if a < b then rd a + wayX rd b n (a + 1) else 0
theorem hours_loop {w : Wd} {q : Nat} {rd : Nat → Nat} (hq : q < 19) (hr : ∀ r, r < 5 → w.1 15 q r = nI (rd r)) (hrd : ∀ r, r < 5 → rd r ≤ 3) {x1 x2 : Int32} {b : Nat} (hb : b ≤ 5) (hm : maxZ x1 x2 = nI b) :
    ∀ (n a acc N : Nat), b - a < n → n ≤ N → acc + 3 * (5 - a) ≤ 15 → a ≤ 6 → D_X3_hoursBetween_9 w q N x1 x2 (nI acc) (nI a) = some (nI (acc + wayX rd b n a)) := by
  intro n
  induction n with
  | zero => intro a acc N h; omega
  | succ n ih =>
    intro a acc N h hN hacc ha6
    obtain ⟨N, rfl⟩ : ∃ M, N = M + 1 := ⟨N - 1, by omega⟩
    unfold D_X3_hoursBetween_9 wayX
    rw [hm]
    by_cases hab : a < b
    · have ha : a < 5 := by omega
      rw [if_neg (by rw [nI_leI (by omega) (by omega)]; omega), at_n (arrZ_15 hq) (by decide) (show a < lenZ 15 from ha), if_pos hab, sb, ltd, ltd]
      have e : rdZ w 15 q a = nI (rd a) := hr a ha
      have h3 := hrd a ha
      rw [e, nI_add, n1, nI_add, ih (a + 1) (acc + rd a) N (by omega) (by omega) (by omega) (by omega), Nat.add_assoc]
    · rw [if_pos ((nI_leI (by omega) (by omega)).mpr (by omega)), if_neg hab, Nat.add_zero]
    
theorem wayX_U {rd : Nat → Nat} {a b : Nat} : ∀ n, wayU rd a b n = wayU rd b a n
  | 0 => rfl
  | n + 1 => by
    unfold wayU
    rw [wayX_U n]
    congr 1
    by_cases h : (a ≤ n ∧ n < b) ∨ (b ≤ n ∧ n < a)
    · rw [if_pos h, if_pos h.symm]
    · rw [if_neg h, if_neg (fun z => h z.symm)]
theorem wayX_eq {rd : Nat → Nat} : ∀ a, a ≤ 5 → ∀ b, b ≤ 5 → wayX rd (max a b) 6 (min a b) = wayN rd a b := by
  intro a ha b hb
  rcases (show a = 0 ∨ a = 1 ∨ a = 2 ∨ a = 3 ∨ a = 4 ∨ a = 5 by omega) with rfl | rfl | rfl | rfl | rfl | rfl <;>
  rcases (show b = 0 ∨ b = 1 ∨ b = 2 ∨ b = 3 ∨ b = 4 ∨ b = 5 by omega) with rfl | rfl | rfl | rfl | rfl | rfl <;>
  simp [wayX, wayN, wayU] <;> omega
theorem hours_n {w : Wd} {q : Nat} {s : Sd} {n B : Nat} (hq : q < 19) (h : XS1 q s w) (hs : okS n B s) {a b : Nat} (ha : a ≤ 5) (hb : b ≤ 5) : D_X3_hoursBetween w q (nI a) (nI b) = some (nI (wayN s.2.2.2 a b)) := by
  unfold D_X3_hoursBetween
  rw [if_pos hq, ltd, minZ_n (by omega) (by omega), n0, hours_loop hq h.2.2.2 hs.2.2.2 (by omega) (maxZ_n (by omega) (by omega)) 6 (min a b) 0 fuelZ (by omega) (by decide) (by omega) (by omega), wayX_eq a ha b hb, Nat.zero_add]
theorem begin_n {P : Pa} {w : Wd} (hP : okP P) (h : XP P w) {i hh wy : Nat} (hi : i < P.1) (hb : hh + wy < 2 ^ 30) : D_X1_begin w (nI i) (nI hh) (nI wy) = some (enc (begW P i hh wy)) := by
  have h6 := hP.1
  obtain ⟨f0, f1, f2, f3, f3b, f4⟩ := hP.2.2 i hi
  have hl := lastsP_le hP hi
  have hss := hP.2.1
  have key : ∀ lt0, D_X1_begin_15 w (nI i) (nI hh) (nI wy) (nI lt0) = some (enc (if max (hh + wy + lt0) (P.2.2 i 1) ≤ P.2.2 i 2 ∧ max (hh + wy + lt0) (P.2.2 i 1) + lastsP P i ≤ P.2.1 then some (max (hh + wy + lt0) (P.2.2 i 1)) else none)) ∨ 2 ^ 20 ≤ lt0 := by
    intro l0
    by_cases hl0 : l0 < 2 ^ 20
    · refine Or.inl ?_
      unfold D_X1_begin_15
      rw [n1, fig_n hP h hi (by decide), n2, fig_n hP h hi (by decide), sb, ltd, sb, nI_add, nI_add, maxZ_n (by omega) (by omega)]
      by_cases hc1 : max (hh + wy + l0) (P.2.2 i 1) ≤ P.2.2 i 2
      · rw [if_neg (by rw [nI_ltI (by omega) (by omega)]; omega), at_n rfl (by decide) (show i < lenZ 12 by show i < 6; omega)]
        have e : rdZ w 12 0 i = nI (lastsP P i) := h.2.2.2 i hi
        rw [sb, e, nI_add, h.2.1]
        by_cases hc2 : max (hh + wy + l0) (P.2.2 i 1) + lastsP P i ≤ P.2.1
        · rw [if_neg (by rw [nI_ltI (by omega) (by omega)]; omega), if_pos ⟨hc1, hc2⟩]; rfl
        · rw [if_pos ((nI_ltI (by omega) (by omega)).mpr (by omega)), if_neg (fun z => hc2 z.2)]; rfl
      · rw [if_pos ((nI_ltI (by omega) (by omega)).mpr (by omega)), if_neg (fun z => hc1 z.1)]; rfl
    · exact Or.inr (by omega)
  unfold D_X1_begin
  rw [n4, fig_n hP h hi (by decide), sb]
  unfold begW lateW
  by_cases hk : P.2.2 i 4 = 2
  · rw [if_pos (by rw [n2, nI_eq (by omega) (by decide)]; exact hk), if_pos hk]
    exact (key 1).resolve_right (by decide)
  · rw [if_neg (by rw [n2, nI_eq (by omega) (by decide)]; exact hk), if_neg hk]
    exact (key 0).resolve_right (by decide)
theorem free_n {P : Pa} {w : Wd} (hP : okP P) (h : XP P w) {i b : Nat} (hi : i < P.1) : D_X1_ringFree w (nI i) (nI b) = some (nI (freeW P i b)) := by
  have h6 := hP.1
  obtain ⟨f0, f1, f2, f3, f3b, f4⟩ := hP.2.2 i hi
  unfold D_X1_ringFree
  have e : rdZ w 12 0 i = nI (lastsP P i) := h.2.2.2 i hi
  rw [at_n rfl (by decide) (show i < lenZ 12 by show i < 6; omega), n4, fig_n hP h hi (by decide), e, sb, sb]
  unfold freeW thickW
  by_cases hk : P.2.2 i 4 = 1
  · rw [if_pos (by rw [n1, nI_eq (by omega) (by decide)]; exact hk), if_pos hk, n1, nI_add, nI_add]
  · rw [if_neg (by rw [n1, nI_eq (by omega) (by decide)]; exact hk), if_neg hk, n0, nI_add, nI_add]
theorem beginOn_n {P : Pa} {w : Wd} {q B : Nat} {s : Sd} (hP : okP P) (h : XP P w) (hq : q < 19) (hx : XS1 q s w) (hs : okS P.1 B s) (hB : B < 2 ^ 29) {i : Nat} (hi : i < P.1) : D_X1_beginOn w q (nI i) = some (enc (begS P s i)) := by
  have h6 := hP.1
  obtain ⟨f0, f1, f2, f3, f3b, f4⟩ := hP.2.2 i hi
  unfold D_X1_beginOn begS
  rw [if_pos hq, has_n h hP hi, isWed_n hq hx.2.2.1 (pow_le64 h6 hs.2.2.1) (by omega), sb, if_neg (by decide), sb]
  by_cases hb : s.2.2.1.testBit i = true
  · rw [if_pos hb, if_neg (by decide +kernel), if_neg (fun z => z.2 hb)]; rfl
  · rw [if_neg hb, if_pos (by decide +kernel), if_pos ⟨hi, hb⟩, (show (0 : Int32) = nI 0 from rfl), fig_n hP h hi (by decide), sb]
    have hw := wayN_le hs.2.2.2 s.2.1 (P.2.2 i 0)
    have h1 := hs.1
    rw [hx.2.1, hours_n hq hx hs hs.2.1 f0, sb, hx.1, begin_n hP h hi (by omega)]; rfl
theorem beginOn_o {P : Pa} {w : Wd} {q : Nat} (h : XP P w) (hq : q < 19) {x : Int32} (hx : x < 0 ∨ nI P.1 ≤ x) : D_X1_beginOn w q x = some (-9) := by
  unfold D_X1_beginOn
  rw [if_pos hq, has_o h hx]; rfl
