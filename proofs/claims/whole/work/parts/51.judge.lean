/-! rows as numbers, and judging them -/
theorem toI64 {n : Nat} (h : n < 2 ^ 31) : (Int32.toInt64 (nI n)).toInt = n := by rw [i64, nI_toInt h]
theorem tens_n : ∀ n, n < 7 → D_X5_at w0 40 0 (nI n) = some (nI (10 ^ n)) := by decide +kernel
theorem tensA_n : ∀ n, n < 7 → tensA n = nI (10 ^ n) := by decide +kernel
theorem atT_n {w : Wd} {n : Nat} (h : n < 7) : D_X5_at w 40 0 (nI n) = some (nI (10 ^ n)) := by
  rw [at_n rfl (by decide) (show n < lenZ 40 from h), ← tensA_n n h]; rfl
theorem tenTo_n : ∀ n, n < 7 → D_X6_tenTo (nI n) = some (nI (10 ^ n)) := by decide +kernel
theorem ten_lt {n : Nat} (h : n < 7) : 10 ^ n ≤ 1000000 := by
  have : 10 ^ n ≤ 10 ^ 6 := Nat.pow_le_pow_right (by decide) (by omega)
  omega
/-- a row told: in range with its figures, or not -/
theorem row_cases (x y : Int32) : (∃ n row, 1 ≤ n ∧ n ≤ 6 ∧ row < 10 ^ n ∧ x = nI n ∧ y = nI row) ∨ ((∀ w, D_X5_isRow w x y = some 0) ∧ (D_X6_in (Int32.toInt64 x) 1 6 = some 0 ∨ ∃ q, D_X6_in (Int32.toInt64 x) 1 6 = some 1 ∧ D_X6_tenTo x = some q ∧ D_X6_in (Int32.toInt64 y) 0 (Int32.toInt64 (q - (1 : Int32))) = some 0)) := by
  have h1 : ∀ x : Int32, D_X6_in (Int32.toInt64 x) 1 6 = some (if (1 : Int) ≤ x.toInt ∧ x.toInt ≤ 6 then 1 else 0) := fun x => in_32 (by decide) (by decide)
  rcases ix_cases x (n := 7) (by decide) with ⟨n, hn, rfl⟩ | ho
  · by_cases hz : n = 0
    · subst hz
      exact Or.inr ⟨fun w => rfl, Or.inl (by rw [h1, if_neg (by decide)])⟩
    · have h10 := ten_lt hn
      have hp : 0 < 10 ^ n := Nat.pow_pos (by decide)
      have hin : D_X6_in (Int32.toInt64 (nI n)) 1 6 = some 1 := by rw [h1, nI_toInt (by omega), if_pos (by omega)]
      have hX : ∀ w, D_X5_isRow w (nI n) y = if y < 0 then some 0 else if nI (10 ^ n) ≤ y then some 0 else some 1 := fun w => by
        unfold D_X5_isRow
        rw [if_neg (by rw [n1, nI_ltI (by omega) (by decide)]; omega), if_neg (by rw [n6, nI_ltI (by decide) (by omega)]; omega), atT_n hn, sb]
      rcases ix_cases y (n := 10 ^ n) (by omega) with ⟨row, hr, rfl⟩ | ho
      · exact Or.inl ⟨n, row, by omega, by omega, hr, rfl, rfl⟩
      · refine Or.inr ⟨fun w => ?_, Or.inr ⟨_, hin, tenTo_n n hn, ?_⟩⟩
        · rw [hX]
          by_cases h : y < 0
          · rw [if_pos h]
          · rw [if_neg h]
            rcases ho with ho | ho
            · exact absurd ho h
            · rw [if_pos ho]
        · refine inM_o (n := 10 ^ n) (by omega) ?_ ho
          rw [n1, pk_sub (by omega), toI64 (by omega)]; omega
  · refine Or.inr ⟨fun w => ?_, Or.inl ?_⟩
    · unfold D_X5_isRow
      by_cases h : x < 1
      · rw [if_pos h]
      · rw [if_neg h, if_pos]
        rcases out_toInt (by decide) ho with h2 | h2
        · exact absurd (show x < nI 1 from by rw [Int32.lt_iff_toInt_lt, nI_toInt (by decide)]; omega) h
        · exact show nI 6 < x from by rw [Int32.lt_iff_toInt_lt, nI_toInt (by decide)]; omega
    · rw [h1, if_neg]
      rcases out_toInt (by decide) ho with h | h <;> omega
/-- the figure of a row -/
def dgN (n row p : Nat) : Nat := row / 10 ^ (n - 1 - p) % 10
theorem dgN_lt {n row p : Nat} : dgN n row p < 10 := Nat.mod_lt _ (by decide)
theorem mod10_n {a : Nat} (ha : a < 2 ^ 30) : nI a - nI a / (10 : Int32) * (10 : Int32) = nI (a % 10) := by
  rw [n10, pk_div (by omega) (by decide) (by decide), pk_mul, pk_sub (by have := Nat.div_mul_le_self a 10; omega)]
  congr 1
  have := Nat.div_add_mod a 10
  omega
theorem dig_n {n row p : Nat} (hn : n ≤ 6) (hr : row < 10 ^ n) : (nI row / nI (10 ^ (n - 1 - p))) - (nI row / nI (10 ^ (n - 1 - p))) / (10 : Int32) * (10 : Int32) = nI (dgN n row p) := by
  have h10 := ten_lt (show n < 7 by omega)
  have h11 := ten_lt (show n - 1 - p < 7 by omega)
  have hp : 0 < 10 ^ (n - 1 - p) := Nat.pow_pos (by decide)
  have hle := Nat.div_le_self row (10 ^ (n - 1 - p))
  rw [pk_div (by omega) hp (by omega), mod10_n (by omega)]; rfl
theorem inRow_n {w : Wd} {n row p : Nat} (hn : n ≤ 6) (hr : row < 10 ^ n) (hp : p < n) : D_X5_weddingInRow w (nI n) (nI row) (nI p) = some (nI (dgN n row p) - 1) := by
  have h11 := ten_lt (show n - 1 - p < 7 by omega)
  have hpos : 0 < 10 ^ (n - 1 - p) := Nat.pow_pos (by decide)
  unfold D_X5_weddingInRow
  rw [n1, pk_sub (by omega), pk_sub (by omega), atT_n (by omega), sb, if_neg (by rw [n0, nI_leI (by omega) (by decide)]; omega), if_pos (by rw [n0, nI_eq (by omega) (by decide)]; omega), dig_n hn hr]
theorem dig_cases (P : Pa) (d : Nat) (hd : d < 10) (hP : okP P) : (∃ i, i < P.1 ∧ d = i + 1 ∧ nI d - 1 = nI i) ∨ ((nI d - 1 < 0 ∨ nI P.1 ≤ nI d - 1) ∧ (d = 0 ∨ P.1 < d)) := by
  have h6 := hP.1
  by_cases h0 : d = 0
  · subst h0; exact Or.inr ⟨Or.inl (by decide), Or.inl rfl⟩
  · have e : nI d - 1 = nI (d - 1) := by rw [n1, pk_sub (by omega)]
    by_cases h1 : d - 1 < P.1
    · exact Or.inl ⟨d - 1, h1, by omega, e⟩
    · exact Or.inr ⟨Or.inr (by rw [e]; exact (nI_leI (by omega) (by omega)).mpr (by omega)), Or.inr (by omega)⟩
/-- a wedding by its figure -/
def stD (P : Pa) (s : Sd) (d : Nat) : Option Sd := if d = 0 then none else wedS P s (d - 1)
theorem wedS_out {P : Pa} {s : Sd} {i : Nat} (h : P.1 ≤ i) : wedS P s i = none := by
  unfold wedS begS
  rw [if_neg (fun z => by omega)]; rfl
theorem stD_out {P : Pa} {s : Sd} {d : Nat} (h : d = 0 ∨ P.1 < d) : stD P s d = none := by
  unfold stD
  split
  · rfl
  · exact wedS_out (by omega)
theorem stD_ok {P : Pa} {s s' : Sd} {d B : Nat} (hP : okP P) (hs : okS P.1 B s) (hB : 10 ≤ B) (h : stD P s d = some s') : okS P.1 B s' := by
  unfold stD at h
  split at h
  · cases h
  · exact wedS_ok hP hs hB h
theorem celD_n {P : Pa} {w : Wd} {q B : Nat} {s : Sd} (hP : okP P) (h : XP P w) (hq : q < 19) (hx : XS1 q s w) (hs : okS P.1 B s) (hB : B < 2 ^ 29) {d : Nat} (hd : d < 10) :
    (stD P s d = none ∧ D_X1_celebrate w q (nI d - 1) = some (0, w)) ∨ ∃ s' w', stD P s d = some s' ∧ D_X1_celebrate w q (nI d - 1) = some (1, w') ∧ XS1 q s' w' ∧ Off [(3, q)] w w' := by
  rcases dig_cases P d hd hP with ⟨i, hi, rfl, e⟩ | ⟨ho, hd0⟩
  · have es : stD P s (i + 1) = wedS P s i := by unfold stD; rw [if_neg (by omega), Nat.add_sub_cancel]
    rw [e, es]
    exact celebrate_n hP h hq hx hs hB hi
  · exact Or.inl ⟨stD_out hd0, celebrate_o h hq ho⟩
theorem wedD_n {P : Pa} {w : Wd} {B : Nat} {s : Sd} (hP : okP P) (h : MP P w) (hm : ML 1 s w) (hs : okS P.1 B s) (hB : B < 2 ^ 28) {d : Nat} (hd : d < 10) :
    (stD P s d = none ∧ (D_X6_isWedding w (nI d - 1) = some 0 ∨ (D_X6_isWedding w (nI d - 1) = some 1 ∧ D_X6_wedOn w 1 (nI d - 1) = some (0, w)))) ∨ ∃ s' w', stD P s d = some s' ∧ D_X6_isWedding w (nI d - 1) = some 1 ∧ D_X6_wedOn w 1 (nI d - 1) = some (1, w') ∧ ML 1 s' w' ∧ OffM w w' := by
  rcases dig_cases P d hd hP with ⟨i, hi, rfl, e⟩ | ⟨ho, hd0⟩
  · have es : stD P s (i + 1) = wedS P s i := by unfold stD; rw [if_neg (by omega), Nat.add_sub_cancel]
    rw [e, es]
    rcases wedOn_n (l := 1) hP h (by omega) hm hs hB hi with ⟨z1, z2⟩ | ⟨s', w', z1, z2, z3, z4, z5⟩
    · exact Or.inl ⟨z1, Or.inr ⟨isWeddingM_n hP h hi, z2⟩⟩
    · exact Or.inr ⟨s', w', z1, isWeddingM_n hP h hi, z2, z3, fun k j hk => by rw [z4.1 k j (by simpa using hk)], fun j hj => z5 j (Or.inl (by omega)), z4.2⟩
  · exact Or.inl ⟨stD_out hd0, Or.inl (isWeddingM_o hP h ho)⟩
def judS (P : Pa) (n row : Nat) : Nat → Nat → Sd → Option Nat
  | 0, _, _ => none
  | k + 1, p, s => match stD P s (dgN n row p) with
    | none => some p
    | some s' => judS P n row k (p + 1) s'
theorem judS_le {P : Pa} {n row : Nat} : ∀ (k p : Nat) (s : Sd) (r : Nat), judS P n row k p s = some r → r < p + k
  | 0, _, _, _, h => by cases h
  | k + 1, p, s, r, h => by
    unfold judS at h
    split at h
    · cases h; omega
    · have := judS_le k (p + 1) _ r h; omega
theorem judgeX_loop {P : Pa} {B n row : Nat} (hP : okP P) (hB : 10 ≤ B ∧ B < 2 ^ 28) (hn : n ≤ 6) (hr : row < 10 ^ n) : ∀ (k p N : Nat) (s : Sd) (w : Wd), n - p = k → k < N → p ≤ n → XP P w → okS P.1 B s → XS1 1 s w →
    ∃ w', D_X5_judge_24 N (nI n) (nI row) (nI p) w = some (enc (judS P n row k p s), w') ∧ Off [(3, 1)] w w' := by
  intro k
  induction k with
  | zero =>
    intro p N s w hk hN hp hX hs hx
    obtain ⟨N, rfl⟩ : ∃ M, N = M + 1 := ⟨N - 1, by omega⟩
    have : p = n := by omega
    subst this
    unfold D_X5_judge_24 judS
    rw [if_pos ((nI_leI (by omega) (by omega)).mpr (Nat.le_refl _))]
    exact ⟨w, rfl, Off.rf⟩
  | succ k ih =>
    intro p N s w hk hN hp hX hs hx
    obtain ⟨N, rfl⟩ : ∃ M, N = M + 1 := ⟨N - 1, by omega⟩
    unfold D_X5_judge_24 judS
    rw [if_neg (by rw [nI_leI (by omega) (by omega)]; omega), inRow_n hn hr (by omega), sb]
    rcases celD_n hP hX (by decide) hx hs (by omega) (dgN_lt (n := n) (row := row) (p := p)) with ⟨z1, z2⟩ | ⟨s', w1, z1, z2, z3, z4⟩
    · rw [z1, z2, sb]
      exact ⟨w, rfl, Off.rf⟩
    · rw [z1, z2, sb]
      obtain ⟨w2, a1, a2⟩ := ih (p + 1) N s' w1 (by omega) (by omega) (by omega) (hX.off z4 (by decide) (by decide) (by decide)) (stD_ok hP hs hB.1 z1) z3
      refine ⟨w2, ?_, z4.tr a2⟩
      dsimp only
      rw [if_neg ne10, ltd, n1, nI_add]
      exact a1
theorem judgeM_loop {P : Pa} {B n row : Nat} (hP : okP P) (hB : 10 ≤ B ∧ B < 2 ^ 28) (hn : n ≤ 6) (hr : row < 10 ^ n) : ∀ (k p N : Nat) (s : Sd) (w : Wd), n - p = k → k < N → p ≤ n → MP P w → okS P.1 B s → ML 1 s w →
    ∃ w', D_X6_judge_37 N (nI n) (nI row) (nI p) w = some (enc (judS P n row k p s), w') ∧ OffM w w' := by
  intro k
  induction k with
  | zero =>
    intro p N s w hk hN hp hM hs hm
    obtain ⟨N, rfl⟩ : ∃ M, N = M + 1 := ⟨N - 1, by omega⟩
    have : p = n := by omega
    subst this
    unfold D_X6_judge_37 judS
    rw [if_pos ((nI_leI (by omega) (by omega)).mpr (Nat.le_refl _))]
    exact ⟨w, rfl, OffM.rf⟩
  | succ k ih =>
    intro p N s w hk hN hp hM hs hm
    obtain ⟨N, rfl⟩ : ∃ M, N = M + 1 := ⟨N - 1, by omega⟩
    have h11 := ten_lt (show n - 1 - p < 7 by omega)
    have hpos : 0 < 10 ^ (n - 1 - p) := Nat.pow_pos (by decide)
    have et : D_X6_tenTo ((nI n - 1) - nI p) = some (nI (10 ^ (n - 1 - p))) := by rw [n1, pk_sub (by omega), pk_sub (by omega), tenTo_n _ (by omega)]
    unfold D_X6_judge_37 judS
    rw [if_neg (by rw [nI_leI (by omega) (by omega)]; omega), et, sb, if_pos (by rw [n0, nI_eq (by omega) (by decide)]; omega), dig_n hn hr, ltd]
    rcases wedD_n hP hM hm hs (by omega) (dgN_lt (n := n) (row := row) (p := p)) with ⟨z1, z2⟩ | ⟨s', w1, z1, z2, z3, z4, z5⟩
    · rw [z1]
      rcases z2 with z2 | ⟨z2, z3⟩
      · rw [z2]; exact ⟨w, rfl, OffM.rf⟩
      · rw [z2, sb, if_neg ne10, z3]; exact ⟨w, rfl, OffM.rf⟩
    · rw [z1, z2, sb, if_neg ne10, z3, sb]
      obtain ⟨w2, a1, a2⟩ := ih (p + 1) N s' w1 (by omega) (by omega) (by omega) (hM.same (Sm.offM z5)) (stD_ok hP hs hB.1 z1) z4
      refine ⟨w2, ?_, z5.tr a2⟩
      dsimp only
      rw [if_neg ne10, ltd, n1, nI_add]
      exact a1
theorem judge_ok (x y : Int32) : OkI (fun w => D_X5_judge w x y) (fun w => D_X6_judge w x y) := by
  refine OkI.q (fun P B N hB w hq => ?_)
  obtain ⟨hP, hX, hM, hs, hx, hm⟩ := hq
  unfold D_X5_judge D_X6_judge
  rcases row_cases x y with ⟨n, row, h1, h6, hr, rfl, rfl⟩ | ⟨o1, o2⟩
  · have h10 := ten_lt (show n < 7 by omega)
    have hp : 0 < 10 ^ n := Nat.pow_pos (by decide)
    obtain ⟨w1, a1, a2, a3⟩ := take_n (a := 1) (b := 0) (by decide) (by decide) (by decide) hx
    have sm1 : Sm w w1 := Sm.off a3 (by decide)
    obtain ⟨w2, b1, b2⟩ := judgeX_loop hP ⟨hB.1, by omega⟩ h6 hr n 0 fuelZ N w1 (by omega) (by unfold fuelZ; omega) (by omega) (hX.same sm1) hs a2
    have sm2 := sm1.tr (Sm.off b2 (by decide))
    obtain ⟨w3, c1, c2, c3⟩ := layTrial_n (hm.same sm2)
    obtain ⟨w4, d1, d2⟩ := judgeM_loop hP ⟨hB.1, by omega⟩ h6 hr n 0 fuelZ N w3 (by omega) (by unfold fuelZ; omega) (by omega) (hM.same (sm2.tr (Sm.offM c3))) hs c2
    have hX1 : D_X5_isRow w (nI n) (nI row) = some 1 := by
      unfold D_X5_isRow
      rw [if_neg (by rw [n1, nI_ltI (by omega) (by decide)]; omega), if_neg (by rw [n6, nI_ltI (by decide) (by omega)]; omega), if_neg (nI_lt0 (by omega)), atT_n (by omega), sb, if_neg (by rw [nI_leI (by omega) (by omega)]; omega)]
    refine ⟨enc (judS P n row n 0 N), w2, w4, ?_, sm2, ?_, (Sm.offM c3).tr (Sm.offM d2)⟩
    · rw [hX1, sb, if_neg ne10, a1, sb]; exact b1
    · have hin : D_X6_in (Int32.toInt64 (nI n)) 1 6 = some 1 := in_y (B := 1) (C := 6) (by omega) rfl (by decide) (by decide) h1 h6
      have hin2 : D_X6_in (Int32.toInt64 (nI row)) 0 (Int32.toInt64 (nI (10 ^ n) - 1)) = some 1 := inM_y (n := 10 ^ n) (by omega) (by rw [n1, pk_sub (by omega), toI64 (by omega)]; omega) hr
      rw [hin, sb, if_neg ne10, tenTo_n n (by omega), sb, hin2, sb, if_neg ne10, c1, sb]
      exact d1
  · refine ⟨-2, w, w, by rw [o1]; rfl, Sm.rf, ?_, Sm.rf⟩
    rcases o2 with o2 | ⟨q, q1, q2, q3⟩
    · rw [o2]; rfl
    · rw [q1, sb, if_neg ne10, q2, sb, q3]; rfl
