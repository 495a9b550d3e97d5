/-! the questions that change nothing -/
theorem out_n {x : Int32} {n : Nat} (hn : n < 2 ^ 31) (h : x < 0 ∨ nI n ≤ x) {j : Nat} (hj : j < n) : x ≠ nI j := by
  intro he
  rcases out_toInt hn h with h | h
  · rw [he, nI_toInt (by omega)] at h; omega
  · rw [he, nI_toInt (by omega)] at h; omega
theorem out_le {x : Int32} {n m : Nat} (hn : n < 2 ^ 31) (h : x < 0 ∨ nI n ≤ x) (h0 : ¬ x < 0) (hm : m < n) : ¬ x ≤ nI m := by
  intro he
  rcases h with h | h
  · exact h0 h
  · rw [Int32.le_iff_toInt_le, nI_toInt hn] at h
    rw [Int32.le_iff_toInt_le, nI_toInt (by omega)] at he
    omega
theorem inM_o {x : Int32} {n : Nat} {c : Int64} (hn : n < 2 ^ 31) (hc : c.toInt = (n : Int) - 1) (hx : x < 0 ∨ nI n ≤ x) : D_X6_in (Int32.toInt64 x) 0 c = some 0 := by
  rw [in_32 (B := 0) (by decide) hc, if_neg]
  rcases out_toInt hn hx with h | h <;> omega
theorem inM_y {j n : Nat} {c : Int64} (hn : n < 2 ^ 31) (hc : c.toInt = (n : Int) - 1) (hj : j < n) : D_X6_in (Int32.toInt64 (nI j)) 0 c = some 1 := by
  rw [in_32 (B := 0) (by decide) hc, nI_toInt (by omega), if_pos (by omega)]
theorem churchM_o {x : Int32} (hx : x < 0 ∨ nI 6 ≤ x) : D_X6_isChurch x = some 0 := by
  unfold D_X6_isChurch
  rw [inM_o (n := 6) (by decide) (by decide) hx]; rfl
theorem churchM_n {j : Nat} (hj : j < 6) : D_X6_isChurch (nI j) = some 1 := by
  unfold D_X6_isChurch
  rw [inM_y (n := 6) (by decide) (by decide) hj]; rfl
theorem churchX_o {x : Int32} (hx : x < 0 ∨ nI 6 ≤ x) : D_X5_isChurch x = some 0 := by
  unfold D_X5_isChurch
  by_cases h : x < 0
  · rw [if_pos h]
  · rw [if_neg h]
    rcases hx with hx | hx
    · exact absurd hx h
    · rw [if_pos (show (6 : Int32) ≤ x from hx)]
theorem churchX_n {j : Nat} (hj : j < 6) : D_X5_isChurch (nI j) = some 1 := by
  unfold D_X5_isChurch
  rw [if_neg (nI_lt0 (by omega)), if_neg (by rw [n6, nI_leI (by decide) (by omega)]; omega)]
theorem roadX_o {x : Int32} (hx : x < 0 ∨ nI 5 ≤ x) : D_X5_isRoad x = some 0 := by
  unfold D_X5_isRoad
  by_cases h : x < 0
  · rw [if_pos h]
  · rw [if_neg h]
    rcases hx with hx | hx
    · exact absurd hx h
    · rw [if_pos (show (5 : Int32) ≤ x from hx)]
theorem roadX_n {j : Nat} (hj : j < 5) : D_X5_isRoad (nI j) = some 1 := by
  unfold D_X5_isRoad
  rw [if_neg (nI_lt0 (by omega)), if_neg (by rw [n5, nI_leI (by decide) (by omega)]; omega)]
theorem ne10 : ¬ (1 : Int32) = 0 := by decide
/-- a question that changes no world -/
def OkP (P : Pa) (B : Nat) (N : Sd) (dx dm : Wd → Option Int32) : Prop := ∀ w, QI P B N w → ∃ r, dx w = some r ∧ dm w = some r
theorem road_ok {P : Pa} {B : Nat} {N : Sd} (x : Int32) : OkP P B N (fun w => D_X5_road w x) (fun w => D_X6_road w x) := by
  intro w hq
  obtain ⟨hP, hX, hM, hs, hx, hm⟩ := hq
  dsimp only
  unfold D_X5_road D_X6_road
  rcases ix_cases x (n := 5) (by decide) with ⟨j, hj, rfl⟩ | ho
  · have e := hm.2.2.2 j hj
    rw [show 8 * 0 + 3 + j = 3 + j by omega] at e
    have i1 : inB (nI (3 + j)) 16 := (inB_n (by omega)).mpr (by omega)
    rw [roadX_n hj, sb, if_neg ne10, at_n rfl (by decide) (show j < lenZ 15 from hj), sb, inM_y (n := 5) (by decide) (by decide) hj, sb, if_neg ne10, n3, nI_add]
    simp only [if_pos i1, nI_clamp (show 3 + j < 2 ^ 31 by omega), e]
    exact ⟨nI (N.2.2.2 j), congrArg some (hx.2.2.2 j hj), rfl⟩
  · rw [roadX_o ho, inM_o (n := 5) (by decide) (by decide) ho]
    exact ⟨_, rfl, rfl⟩
theorem way_ok {P : Pa} {B : Nat} {N : Sd} (x y : Int32) : OkP P B N (fun w => D_X5_way w x y) (fun w => D_X6_way w x y) := by
  intro w hq
  obtain ⟨hP, hX, hM, hs, hx, hm⟩ := hq
  dsimp only
  unfold D_X5_way D_X6_way
  rcases ix_cases x (n := 6) (by decide) with ⟨j, hj, rfl⟩ | ho
  · rcases ix_cases y (n := 6) (by decide) with ⟨k, hk, rfl⟩ | ho
    · have h2 : D_X6_wayOn w 0 (nI j) (nI k) = some (nI (wayN N.2.2.2 j k)) := wayM_n (l := 0) (by omega) hm hs (by omega) (by omega)
      rw [churchX_n hj, sb, if_neg ne10, churchX_n hk, sb, if_neg ne10, hours_n (by decide) hx hs (by omega) (by omega), sb, churchM_n hj, sb, if_neg ne10, churchM_n hk, sb, if_neg ne10, h2]
      exact ⟨_, rfl, rfl⟩
    · rw [churchX_n hj, sb, if_neg ne10, churchX_o ho, sb, churchM_n hj, sb, if_neg ne10, churchM_o ho]
      exact ⟨_, rfl, rfl⟩
  · rw [churchX_o ho, churchM_o ho]
    exact ⟨_, rfl, rfl⟩
theorem wedding_ok {P : Pa} {B : Nat} {N : Sd} (hB : B < 2 ^ 28) (x y : Int32) : OkP P B N (fun w => D_X5_wedding w x y) (fun w => D_X6_wedding w x y) := by
  intro w hq
  obtain ⟨hP, hX, hM, hs, hx, hm⟩ := hq
  have h6 := hP.1
  dsimp only
  unfold D_X5_wedding D_X6_wedding
  rcases ix_cases x (n := P.1) (by omega) with ⟨j, hj, rfl⟩ | ho
  · have i1 : inB (nI j) 6 := (inB_n (by omega)).mpr (by omega)
    have hwd := pow_le64 h6 hs.2.2.1
    have hb : D_X6_beginsNow w 0 (nI j) = some (enc (begS P N j)) := beginsNow_n (l := 0) hP hM (by omega) hm hs hB hj
    rw [has_n hX hP hj, sb, if_neg ne10, isWeddingM_n hP hM hj, sb, if_neg ne10]
    have hc : Int32.toNatClampNeg (nI j) = j := nI_clamp (by omega)
    rcases ix_cases y (n := 7) (by decide) with ⟨k, hk, rfl⟩ | ho
    · have hM2 := hM.2.2 j hj
      have g1 : nI k ≤ nI 6 := (nI_leI (by omega) (by decide)).mpr (by omega)
      have g0 : ¬ nI k < 0 := nI_lt0 (by omega)
      rw [if_neg g0, if_pos (show nI k ≤ 6 from g1)]
      simp only [if_pos i1, hc]
      have hf : k < 5 → D_X1_figure w (nI j) (nI k) = some (nI (P.2.2 j k)) := fun h => fig_n hP hX hj h
      obtain rfl | rfl | rfl | rfl | rfl | rfl | rfl : k = 0 ∨ k = 1 ∨ k = 2 ∨ k = 3 ∨ k = 4 ∨ k = 5 ∨ k = 6 := by omega
      · refine ⟨nI (P.2.2 j 0), ?_, ?_⟩; rw [if_neg (by decide), hf (by decide), sb]; exact congrArg some hM2.1
      · refine ⟨nI (P.2.2 j 1), ?_, ?_⟩; rw [if_neg (by decide), hf (by decide), sb]; exact congrArg some hM2.2.1
      · refine ⟨nI (P.2.2 j 2), ?_, ?_⟩; rw [if_neg (by decide), hf (by decide), sb]; exact congrArg some hM2.2.2.1
      · refine ⟨nI (P.2.2 j 3), ?_, ?_⟩; rw [if_neg (by decide), hf (by decide), sb]; exact congrArg some hM2.2.2.2.1
      · refine ⟨nI (P.2.2 j 4), ?_, ?_⟩; rw [if_neg (by decide), hf (by decide), sb]; exact congrArg some hM2.2.2.2.2
      · refine ⟨nI (if N.2.2.1.testBit j = true then 1 else 0), ?_, ?_⟩
        · rw [if_pos (by decide), if_pos (by decide), isWed_n (by decide) hx.2.2.1 hwd (by omega), sb]
          by_cases ht : N.2.2.1.testBit j = true
          · rw [if_pos ht]; rfl
          · rw [if_neg ht]; rfl
        · have e2 : w.1 25 0 2 = nI N.2.2.1 := hm.2.2.1
          have := bit_n _ hwd j (by omega)
          rw [← e2] at this
          exact congrArg some this
      · refine ⟨enc (begS P N j), ?_, ?_⟩
        · rw [if_pos (by decide), if_neg (by decide), beginOn_n hP hX (by decide) hx hs (by omega) hj, sb]
        · exact show (D_X6_beginsNow w 0 (nI j)).bind (fun q14 => some q14) = _ by rw [hb]; rfl
    · have hn := fun k (hk : k < 7) => out_n (by decide) ho hk
      simp only [if_neg (show ¬ y = 0 from hn 0 (by decide)), if_neg (show ¬ y = 1 from hn 1 (by decide)), if_neg (show ¬ y = 2 from hn 2 (by decide)), if_neg (show ¬ y = 3 from hn 3 (by decide)), if_neg (show ¬ y = 4 from hn 4 (by decide)), if_neg (show ¬ y = 5 from hn 5 (by decide)), if_neg (show ¬ y = 6 from hn 6 (by decide))]
      by_cases h : y < 0
      · rw [if_pos h]; exact ⟨_, rfl, rfl⟩
      · have g : ¬ y ≤ nI 6 := out_le (by decide) ho h (by decide)
        rw [if_neg h, if_neg (show ¬ y ≤ 6 from g)]; exact ⟨_, rfl, rfl⟩
  · rw [has_o hX ho, isWeddingM_o hP hM ho]
    exact ⟨_, rfl, rfl⟩
/-! the last hour -/
def latN (P : Pa) (i wy : Nat) : Nat → Option Nat
  | 0 => none
  | n + 1 => if (begW P i n wy).isSome = true then some n else latN P i wy n
theorem laterX_loop {P : Pa} {w : Wd} (hP : okP P) (hX : XP P w) {i wy : Nat} (hi : i < P.1) (hwy : wy ≤ 15) : ∀ (n N : Nat), n ≤ 10 → n < N → D_X5_later_54 w N (nI i) (nI wy) (nI n - 1) = some (enc (latN P i wy n)) := by
  intro n
  induction n with
  | zero =>
    intro N _ hN
    obtain ⟨N, rfl⟩ : ∃ M, N = M + 1 := ⟨N - 1, by omega⟩
    unfold D_X5_later_54 latN
    rw [if_pos (by decide)]; rfl
  | succ n ih =>
    intro N hn hN
    obtain ⟨N, rfl⟩ : ∃ M, N = M + 1 := ⟨N - 1, by omega⟩
    unfold D_X5_later_54 latN
    have e1 : nI (n + 1) - 1 = nI n := by rw [n1, pk_sub (by omega), Nat.add_sub_cancel]
    have e2 : nI n + (-1) = nI n - 1 := (Int32.sub_eq_add_neg ..).symm
    rw [e1, if_neg (nI_lt0 (by omega)), begin_n hP hX hi (by omega), sb, e2]
    cases hb : begW P i n wy with
    | none =>
      rw [if_pos (by rfl), ltd, if_neg (by decide)]
      exact ih N (by omega) (by omega)
    | some b =>
      have := begW_le hP hi hb
      have hn9 : ¬ enc (some b) = (-9) := nI_ne9 (by omega)
      rw [if_neg hn9, if_pos (show (some b).isSome = true from rfl)]
      rfl
theorem lat_up {P : Pa} {i wy : Nat} : ∀ n, latN P i wy (n + 1) = if (begW P i n wy).isSome = true then some n else latN P i wy n := fun _ => rfl
theorem laterM_loop {P : Pa} {w : Wd} {B : Nat} {s : Sd} (hP : okP P) (hM : MP P w) (hs : okS P.1 B s) (hm : ML 0 s w) {i : Nat} (hi : i < P.1) : ∀ (n j N : Nat), 10 - j = n → n < N → j ≤ 10 → D_X6_later_31 w N (nI i) (enc (latN P i (wayN s.2.2.2 s.2.1 (P.2.2 i 0)) j)) (nI j) = some (enc (latN P i (wayN s.2.2.2 s.2.1 (P.2.2 i 0)) 10)) := by
  intro n
  induction n with
  | zero =>
    intro j N hn hN hj
    obtain ⟨N, rfl⟩ : ∃ M, N = M + 1 := ⟨N - 1, by omega⟩
    have : j = 10 := by omega
    subst this
    unfold D_X6_later_31
    rw [if_pos (by decide)]
  | succ n ih =>
    intro j N hn hN hj
    obtain ⟨N, rfl⟩ : ∃ M, N = M + 1 := ⟨N - 1, by omega⟩
    unfold D_X6_later_31
    have hb : D_X6_begins w 0 (nI i) (nI s.2.1) (nI j) 0 = some (enc (begW P i j (wayN s.2.2.2 s.2.1 (P.2.2 i 0) + 0))) := beginsM_n (l := 0) (more := 0) hP hM (by omega) hm hs hi hs.2.1 (by omega)
    have IH := ih (j + 1) N (by omega) (by omega) (by omega)
    rw [lat_up] at IH
    rw [if_neg (by rw [n10, nI_leI (by decide) (by omega)]; omega), show w.1 25 0 1 = nI s.2.1 from hm.2.1, hb, sb, Nat.add_zero]
    cases hbw : begW P i j (wayN s.2.2.2 s.2.1 (P.2.2 i 0)) with
    | none =>
      rw [hbw, if_neg (by decide)] at IH
      rw [if_pos (by rfl), ltd, n1, nI_add]
      exact IH
    | some b =>
      rw [hbw, if_pos (show (some b).isSome = true from rfl)] at IH
      have := begW_le hP hi hbw
      have hn9 : ¬ enc (some b) = (-9) := nI_ne9 (by omega)
      rw [if_neg hn9, ltd, n1, nI_add]
      exact IH
theorem later_ok {P : Pa} {B : Nat} {N : Sd} (x : Int32) : OkP P B N (fun w => D_X5_later w x) (fun w => D_X6_later w x) := by
  intro w hq
  obtain ⟨hP, hX, hM, hs, hx, hm⟩ := hq
  have h6 := hP.1
  dsimp only
  unfold D_X5_later D_X6_later
  rcases ix_cases x (n := P.1) (by omega) with ⟨j, hj, rfl⟩ | ho
  · have hwd := pow_le64 h6 hs.2.2.1
    rw [has_n hX hP hj, sb, if_neg ne10, isWeddingM_n hP hM hj, sb, if_neg ne10, isWed_n (by decide) hx.2.2.1 hwd (by omega), sb, show w.1 25 0 2 = nI N.2.2.1 from hm.2.2.1, hasM_n _ hwd _ (by omega), sb]
    by_cases ht : N.2.2.1.testBit j = true
    · rw [if_pos ht, if_neg (by decide), if_neg (by decide)]; exact ⟨_, rfl, rfl⟩
    · have hf : D_X1_figure w (nI j) 0 = some (nI (P.2.2 j 0)) := fig_n (k := 0) hP hX hj (by decide)
      have hc := (hP.2.2 j hj).1
      have hw := wayN_le hs.2.2.2 N.2.1 (P.2.2 j 0)
      rw [if_neg ht, if_pos (by decide), if_pos (by decide), hf, sb, hx.2.1, hours_n (by decide) hx hs hs.2.1 hc, sb]
      have h1 := laterX_loop hP hX hj hw 10 fuelZ (by omega) (by decide)
      have h2 := laterM_loop hP hM hs hm hj 10 0 fuelZ rfl (by decide) (by omega)
      exact ⟨_, h1, h2⟩
  · rw [has_o hX ho, isWeddingM_o hP hM ho]
    exact ⟨_, rfl, rfl⟩
