/-! rests -/
theorem wedS_hour {P : Pa} {s s' : Sd} {i : Nat} (hP : okP P) (h : wedS P s i = some s') : s.1 ≤ s'.1 := by
  unfold wedS at h
  cases hb : begS P s i with
  | none => rw [hb] at h; cases h
  | some b =>
    rw [hb] at h
    cases h
    obtain ⟨h1, h2, h3⟩ := begS_some hb
    have := begW_le hP h1 h3
    show s.1 ≤ b + lastsP P i + thickW P i
    omega
theorem begS_hour {P : Pa} {s : Sd} {i b : Nat} (hP : okP P) (h : begS P s i = some b) : s.1 ≤ b := by
  obtain ⟨h1, h2, h3⟩ := begS_some h
  have := begW_le hP h1 h3
  omega
def brV (P : Pa) (s : Sd) (h i : Nat) : Nat := match begS P s i with
  | none => 0
  | some b => 4 - (b - h)
def aftS (P : Pa) (s : Sd) (k : Nat) : Sd := (wedS P s k).getD s
def gnV (P : Pa) (N : Sd) (i k a b : Nat) : Int32 := nI (brV P (if (if a = b then i < k else a = 1) then N else aftS P N k) N.1 i) - nI a
theorem gain60 {P : Pa} {B i a : Nat} {N s : Sd} {w : Wd} (hP : okP P) (hB : B < 2 ^ 27) (hX : XP P w) (hN : XS1 0 N w) (hs : okS P.1 B s) (hx : XS1 1 s w) (hi : i < P.1) (hh : N.1 ≤ s.1) : D_X5_gain_60 (nI i) (nI a) w = some (nI (brV P s N.1 i) - nI a, w) := by
  unfold D_X5_gain_60 brV
  rw [beginOn_n hP hX (by decide) hx hs (by omega) hi, sb]
  cases hb : begS P s i with
  | none => rw [if_pos (by rfl)]; rfl
  | some b =>
    have h9 := begS_le hP hb
    have h8 := begS_hour hP hb
    have hn9 : ¬ enc (some b) = (-9) := nI_ne9 (by omega)
    rw [if_neg hn9, hN.1, show enc (some b) = nI b from rfl, pk_sub (by omega), ltd]
    by_cases h4 : b - N.1 ≤ 4
    · rw [n4, pk_sub h4, n0, maxZ_n (by decide) (by omega)]
      congr 2
    · have hneg : (4 : Int32) - nI (b - N.1) < 0 := by rw [n4]; exact pk_sneg (by omega) (by omega)
      have hm : maxZ 0 ((4 : Int32) - nI (b - N.1)) = nI 0 := by
        unfold maxZ
        first
          | rw [if_neg (by rw [Int32.le_iff_toInt_le]; rw [Int32.lt_iff_toInt_lt] at hneg; omega)]; rfl
          | rw [if_pos (by rw [Int32.le_iff_toInt_le]; rw [Int32.lt_iff_toInt_lt] at hneg; omega)]; rfl
          | rw [if_neg (by rw [Int32.lt_iff_toInt_lt]; rw [Int32.lt_iff_toInt_lt] at hneg; omega)]; rfl
          | rw [if_pos (by rw [Int32.lt_iff_toInt_lt]; rw [Int32.lt_iff_toInt_lt] at hneg; omega)]; rfl
      rw [hm]
      congr 2
      exact congrArg (fun x => nI x - nI a) (by show 0 = 4 - (b - N.1); omega)
theorem gain29 {P : Pa} {B i k a f : Nat} {N : Sd} {w : Wd} (hP : okP P) (hB : 10 ≤ B ∧ B < 2 ^ 27) (hX : XP P w) (hs : okS P.1 B N) (hN : XS1 0 N w) (hi : i < P.1) (hk : k < P.1) (hf : f ≤ 1) : ∃ w', D_X5_gain_29 (nI i) (nI k) (nI a) (nI f) w = some (nI (brV P (if f = 1 then N else aftS P N k) N.1 i) - nI a, w') ∧ Sm w w' := by
  obtain ⟨w1, a1, a2, a3⟩ := take_n (a := 1) (b := 0) (by decide) (by decide) (by decide) hN
  have sm1 : Sm w w1 := Sm.off a3 (by decide)
  have hX1 := hX.same sm1
  have hN1 := hN.same sm1 (by decide) (by decide)
  unfold D_X5_gain_29
  rw [a1, sb]
  by_cases h1 : f = 1
  · subst h1
    rw [if_neg (by decide), if_pos rfl, gain60 hP hB.2 hX1 hN1 hs a2 hi (Nat.le_refl _)]
    exact ⟨w1, rfl, sm1⟩
  · have h0 : f = 0 := by omega
    subst h0
    rw [if_pos (by decide), if_neg (by decide)]
    rcases celebrate_n hP hX1 (by decide) a2 hs (by omega) hk with ⟨z1, z2⟩ | ⟨s', w2, z1, z2, z3, z4⟩
    · have e : aftS P N k = N := by unfold aftS; rw [z1]; rfl
      rw [z2, sb, e]
      dsimp only
      rw [gain60 hP hB.2 hX1 hN1 hs a2 hi (Nat.le_refl _)]
      exact ⟨w1, rfl, sm1⟩
    · have e : aftS P N k = s' := by unfold aftS; rw [z1]; rfl
      have sm2 := sm1.tr (Sm.off z4 (by decide))
      rw [z2, sb, e]
      dsimp only
      rw [gain60 hP hB.2 (hX.same sm2) (hN.same sm2 (by decide) (by decide)) (wedS_ok hP hs hB.1 z1) z3 hi (wedS_hour hP z1)]
      exact ⟨w2, rfl, sm2⟩
theorem gainX_n {P : Pa} {B i k a b : Nat} {N : Sd} {w : Wd} (hP : okP P) (hB : 10 ≤ B ∧ B < 2 ^ 27) (hX : XP P w) (hs : okS P.1 B N) (hN : XS1 0 N w) (hi : i < P.1) (hk : k < P.1) (hik : i ≠ k) (ha : a ≤ 1) (hb : b ≤ 1) : ∃ w', D_X5_gain w (nI i) (nI k) (nI a) (nI b) = some (gnV P N i k a b, w') ∧ Sm w w' := by
  have h6 := hP.1
  have g0 := gain29 (a := a) (f := 0) hP hB hX hs hN hi hk (by omega)
  have g1 := gain29 (a := a) (f := 1) hP hB hX hs hN hi hk (by omega)
  rw [if_neg (by decide)] at g0
  rw [if_pos rfl] at g1
  unfold D_X5_gain gnV
  by_cases hab : a = b
  · rw [if_pos (by rw [hab])]
    simp only [if_pos hab]
    by_cases hle : i < k
    · rw [if_neg (by rw [nI_leI (by omega) (by omega)]; omega), if_pos hle]; exact g1
    · rw [if_pos ((nI_leI (by omega) (by omega)).mpr (by omega)), if_neg hle]; exact g0
  · rw [if_neg (fun z => hab ((nI_eq (by omega) (by omega)).mp z))]
    simp only [if_neg hab]
    by_cases h1 : a = 1
    · rw [if_pos (by rw [h1]; rfl), if_pos h1]; exact g1
    · rw [if_neg (by rw [n1, nI_eq (by omega) (by decide)]; exact h1), if_neg h1]; exact g0
theorem brings_n {P : Pa} {N s : Sd} {w : Wd} {i B : Nat} (hP : okP P) (hm : ML 0 N w) (hs : okS P.1 B s) (hh : N.1 ≤ s.1) : D_X6_bringsOf w (enc (begS P s i)) = some (nI (brV P s N.1 i)) := by
  unfold D_X6_bringsOf brV
  rw [ltd]
  cases hb : begS P s i with
  | none => rw [if_pos (by rfl)]; rfl
  | some b =>
    have h9 := begS_le hP hb
    have h8 := begS_hour hP hb
    have hn9 : ¬ enc (some b) = (-9) := nI_ne9 (by omega)
    rw [if_neg hn9, show w.1 25 0 0 = nI N.1 from hm.1, show enc (some b) = nI b from rfl, pk_sub (by omega)]
    by_cases h4 : b - N.1 ≤ 4
    · rw [if_pos (by rw [n4]; exact (nI_leI (by omega) (by decide)).mpr h4), n4, pk_sub h4]
    · rw [if_neg (by rw [n4, nI_leI (by omega) (by decide)]; exact h4)]
      exact congrArg (fun x => some (nI x)) (by show 0 = 4 - (b - N.1); omega)
theorem gain30 {P : Pa} {B i k a f : Nat} {N : Sd} {w : Wd} (hP : okP P) (hB : 10 ≤ B ∧ B < 2 ^ 27) (hM : MP P w) (hs : okS P.1 B N) (hm : ML 0 N w) (hi : i < P.1) (hk : k < P.1) (hf : f ≤ 1) : ∃ w', D_X6_gain_30 (nI i) (nI k) (nI a) (nI f) w = some (nI (brV P (if f = 1 then N else aftS P N k) N.1 i) - nI a, w') ∧ Sm w w' := by
  obtain ⟨w1, a1, a2, a3⟩ := layTrial_n hm
  have sm1 : Sm w w1 := Sm.offM a3
  have hM1 := hM.same sm1
  have hm1 := hm.same sm1
  unfold D_X6_gain_30
  rw [a1, sb]
  by_cases h1 : f = 1
  · subst h1
    have e : D_X6_beginsNow w1 1 (nI i) = some (enc (begS P N i)) := beginsNow_n (l := 1) hP hM1 (by omega) a2 hs (by omega) hi
    rw [if_neg (by decide), if_pos rfl, e, sb, brings_n hP hm1 hs (Nat.le_refl _), sb]
    exact ⟨w1, rfl, sm1⟩
  · have h0 : f = 0 := by omega
    subst h0
    rw [if_pos (by decide), if_neg (by decide)]
    rcases wedOn_n (l := 1) hP hM1 (by omega) a2 hs (by omega) hk with ⟨z1, z2⟩ | ⟨s', w2, z1, z2, z3, z4, z5⟩
    · have z2' : D_X6_wedOn w1 1 (nI k) = some (0, w1) := z2
      have e : aftS P N k = N := by unfold aftS; rw [z1]; rfl
      have e2 : D_X6_beginsNow w1 1 (nI i) = some (enc (begS P N i)) := beginsNow_n (l := 1) hP hM1 (by omega) a2 hs (by omega) hi
      rw [z2', sb, e]
      dsimp only
      rw [e2, sb, brings_n hP hm1 hs (Nat.le_refl _), sb]
      exact ⟨w1, rfl, sm1⟩
    · have z2' : D_X6_wedOn w1 1 (nI k) = some (1, w2) := z2
      have e : aftS P N k = s' := by unfold aftS; rw [z1]; rfl
      have om : OffM w1 w2 := ⟨fun k j hk => by rw [z4.1 k j (by simpa using hk)], fun j hj => z5 j (Or.inl (by omega)), z4.2⟩
      have sm2 := sm1.tr (Sm.offM om)
      have e2 : D_X6_beginsNow w2 1 (nI i) = some (enc (begS P s' i)) := beginsNow_n (l := 1) hP (hM.same sm2) (by omega) z3 (wedS_ok hP hs hB.1 z1) (by omega) hi
      rw [z2', sb, e]
      dsimp only
      rw [e2, sb, brings_n hP (hm.same sm2) (wedS_ok hP hs hB.1 z1) (wedS_hour hP z1), sb]
      exact ⟨w2, rfl, sm2⟩
theorem gainM_n {P : Pa} {B i k a b : Nat} {N : Sd} {w : Wd} (hP : okP P) (hB : 10 ≤ B ∧ B < 2 ^ 27) (hM : MP P w) (hs : okS P.1 B N) (hm : ML 0 N w) (hi : i < P.1) (hk : k < P.1) (hik : i ≠ k) (ha : a ≤ 1) (hb : b ≤ 1) : ∃ w', D_X6_gain w (nI i) (nI k) (nI a) (nI b) = some (gnV P N i k a b, w') ∧ Sm w w' := by
  have h6 := hP.1
  have g0 := gain30 (a := a) (f := 0) hP hB hM hs hm hi hk (by omega)
  have g1 := gain30 (a := a) (f := 1) hP hB hM hs hm hi hk (by omega)
  rw [if_neg (by decide)] at g0
  rw [if_pos rfl] at g1
  unfold D_X6_gain gnV
  by_cases hab : a = b
  · rw [if_pos (by rw [hab])]
    simp only [if_pos hab]
    by_cases hle : i < k
    · rw [if_neg (by rw [nI_leI (by omega) (by omega)]; omega), if_pos hle]; exact g1
    · rw [if_pos ((nI_leI (by omega) (by omega)).mpr (by omega)), if_neg hle]; exact g0
  · rw [if_neg (fun z => hab ((nI_eq (by omega) (by omega)).mp z))]
    simp only [if_neg hab]
    by_cases h1 : a = 1
    · rw [if_neg (by rw [nI_leI (by omega) (by omega)]; omega), if_pos h1]; exact g1
    · rw [if_pos ((nI_leI (by omega) (by omega)).mpr (by omega)), if_neg h1]; exact g0
def rsV (P : Pa) (N : Sd) (i k a b : Nat) : Int32 := if gnV P N i k a b < gnV P N i k (1 - a) b then 0 else if gnV P N k i b a < gnV P N k i (1 - b) a then 0 else 1
theorem restX_n {P : Pa} {B i k a b : Nat} {N : Sd} {w : Wd} (hP : okP P) (hB : 10 ≤ B ∧ B < 2 ^ 27) (hX : XP P w) (hs : okS P.1 B N) (hN : XS1 0 N w) (hi : i < P.1) (hk : k < P.1) (hik : i ≠ k) (ha : a ≤ 1) (hb : b ≤ 1) : ∃ w', D_X5_isAtRest w (nI i) (nI k) (nI a) (nI b) = some (rsV P N i k a b, w') ∧ Sm w w' := by
  have st : ∀ w1, Sm w w1 → XP P w1 ∧ XS1 0 N w1 := fun w1 h => ⟨hX.same h, hN.same h (by decide) (by decide)⟩
  unfold D_X5_isAtRest rsV
  rw [n1, pk_sub ha, pk_sub hb]
  obtain ⟨w1, a1, s1⟩ := gainX_n hP hB hX hs hN hi hk hik ha hb
  obtain ⟨w2, a2, s2⟩ := gainX_n hP hB (st w1 s1).1 hs (st w1 s1).2 hi hk hik (show 1 - a ≤ 1 by omega) hb
  have t2 := s1.tr s2
  rw [a1, sb, a2, sb]
  dsimp only
  by_cases c1 : gnV P N i k a b < gnV P N i k (1 - a) b
  · rw [if_pos c1, if_pos c1]; exact ⟨w2, rfl, t2⟩
  · rw [if_neg c1, if_neg c1]
    obtain ⟨w3, a3, s3⟩ := gainX_n hP hB (st w2 t2).1 hs (st w2 t2).2 hk hi (fun z => hik z.symm) hb ha
    have t3 := t2.tr s3
    obtain ⟨w4, a4, s4⟩ := gainX_n hP hB (st w3 t3).1 hs (st w3 t3).2 hk hi (fun z => hik z.symm) (show 1 - b ≤ 1 by omega) ha
    have t4 := t3.tr s4
    rw [a3, sb, a4, sb]
    dsimp only
    by_cases c2 : gnV P N k i b a < gnV P N k i (1 - b) a
    · rw [if_pos c2, if_pos c2]; exact ⟨w4, rfl, t4⟩
    · rw [if_neg c2, if_neg c2]; exact ⟨w4, rfl, t4⟩
theorem restM_n {P : Pa} {B i k a b : Nat} {N : Sd} {w : Wd} (hP : okP P) (hB : 10 ≤ B ∧ B < 2 ^ 27) (hM : MP P w) (hs : okS P.1 B N) (hm : ML 0 N w) (hi : i < P.1) (hk : k < P.1) (hik : i ≠ k) (ha : a ≤ 1) (hb : b ≤ 1) : ∃ w', D_X6_isRest w (nI i) (nI k) (nI a) (nI b) = some (rsV P N i k a b, w') ∧ Sm w w' := by
  have st : ∀ w1, Sm w w1 → MP P w1 ∧ ML 0 N w1 := fun w1 h => ⟨hM.same h, hm.same h⟩
  unfold D_X6_isRest rsV
  rw [n1, pk_sub ha, pk_sub hb]
  obtain ⟨w1, a1, s1⟩ := gainM_n hP hB hM hs hm hi hk hik (show 1 - a ≤ 1 by omega) hb
  obtain ⟨w2, a2, s2⟩ := gainM_n hP hB (st w1 s1).1 hs (st w1 s1).2 hi hk hik ha hb
  have t2 := s1.tr s2
  rw [a1, sb, a2, sb]
  dsimp only
  by_cases c1 : gnV P N i k a b < gnV P N i k (1 - a) b
  · rw [if_pos c1, if_pos c1]; exact ⟨w2, rfl, t2⟩
  · rw [if_neg c1, if_neg c1]
    obtain ⟨w3, a3, s3⟩ := gainM_n hP hB (st w2 t2).1 hs (st w2 t2).2 hk hi (fun z => hik z.symm) (show 1 - b ≤ 1 by omega) ha
    have t3 := t2.tr s3
    obtain ⟨w4, a4, s4⟩ := gainM_n hP hB (st w3 t3).1 hs (st w3 t3).2 hk hi (fun z => hik z.symm) hb ha
    have t4 := t3.tr s4
    rw [a3, sb, a4, sb]
    dsimp only
    by_cases c2 : gnV P N k i b a < gnV P N k i (1 - b) a
    · rw [if_pos c2, if_pos c2]; exact ⟨w4, rfl, t4⟩
    · rw [if_neg c2, if_neg c2]; exact ⟨w4, rfl, t4⟩
def rsF (P : Pa) (N : Sd) (i k : Nat) : Nat → Nat → Nat → Option Nat → Nat × Option Nat
  | 0, _, c, o => (c, o)
  | n + 1, p, c, o => if rsV P N i k (p / 2) (p % 2) = 0 then rsF P N i k n (p + 1) c o else rsF P N i k n (p + 1) (c + 1) (match o with | none => some (10 * (p / 2) + p % 2) | some q => some q)
theorem shr1_n : ∀ p, p < 4 → nI p >>> ((1 : Int32) &&& 31) = nI (p / 2) := by decide +kernel
theorem and1_n : ∀ p, p < 4 → nI p &&& (1 : Int32) = nI (p % 2) := by decide +kernel
theorem restsX_loop {P : Pa} {B i k : Nat} {N : Sd} {x3 : Int32} (hP : okP P) (hB : 10 ≤ B ∧ B < 2 ^ 27) (hs : okS P.1 B N) (hi : i < P.1) (hk : k < P.1) (hik : i ≠ k) : ∀ (n p F c : Nat) (o : Option Nat) (w : Wd), 4 - p = n → n < F → p ≤ 4 → c ≤ p → (∀ q, o = some q → q < 12) → XP P w → XS1 0 N w →
    ∃ w', D_X5_rests_76 F (nI i) (nI k) x3 (nI c) (enc o) (nI p) w = some (if x3 = 0 then nI (rsF P N i k n p c o).1 else enc (rsF P N i k n p c o).2, w') ∧ Sm w w' := by
  intro n
  induction n with
  | zero =>
    intro p F c o w hn hF hp hc ho hX hN
    obtain ⟨F, rfl⟩ : ∃ M, F = M + 1 := ⟨F - 1, by omega⟩
    have : p = 4 := by omega
    subst this
    unfold D_X5_rests_76 rsF
    rw [if_pos (by decide)]
    by_cases h : x3 = 0
    · rw [if_pos h, if_pos h]; exact ⟨w, rfl, Sm.rf⟩
    · rw [if_neg h, if_neg h]; exact ⟨w, rfl, Sm.rf⟩
  | succ n ih =>
    intro p F c o w hn hF hp hc ho hX hN
    obtain ⟨F, rfl⟩ : ∃ M, F = M + 1 := ⟨F - 1, by omega⟩
    obtain ⟨w1, a1, s1⟩ := restX_n hP hB hX hs hN hi hk hik (show p / 2 ≤ 1 by omega) (show p % 2 ≤ 1 by omega)
    have hX1 := hX.same s1
    have hN1 := hN.same s1 (by decide) (by decide)
    unfold D_X5_rests_76 rsF
    rw [if_neg (by rw [n4, nI_leI (by decide) (by omega)]; omega), shr1_n p (by omega), and1_n p (by omega), a1, sb]
    dsimp only
    by_cases h0 : rsV P N i k (p / 2) (p % 2) = 0
    · rw [if_pos h0, if_pos h0, ltd, n1, nI_add]
      obtain ⟨w2, b1, b2⟩ := ih (p + 1) F c o w1 (by omega) (by omega) (by omega) (by omega) ho hX1 hN1
      exact ⟨w2, b1, s1.tr b2⟩
    · rw [if_neg h0, if_neg h0, n1, nI_add, ltd]
      cases o with
      | none =>
        obtain ⟨w2, b1, b2⟩ := ih (p + 1) F (c + 1) (some (10 * (p / 2) + p % 2)) w1 (by omega) (by omega) (by omega) (by omega) (fun q hq => by cases hq; omega) hX1 hN1
        refine ⟨w2, ?_, s1.tr b2⟩
        rw [if_pos (by rfl), n10, pk_mul, nI_add, ltd, ltd, nI_add]
        exact b1
      | some q =>
        have hq := ho q rfl
        obtain ⟨w2, b1, b2⟩ := ih (p + 1) F (c + 1) (some q) w1 (by omega) (by omega) (by omega) (by omega) ho hX1 hN1
        refine ⟨w2, ?_, s1.tr b2⟩
        have hn9 : ¬ enc (some q) = (-9) := nI_ne9 (by omega)
        rw [if_neg hn9, ltd, nI_add]
        exact b1
theorem restsM_loop {P : Pa} {B i k : Nat} {N : Sd} {x3 : Int32} (hP : okP P) (hB : 10 ≤ B ∧ B < 2 ^ 27) (hs : okS P.1 B N) (hi : i < P.1) (hk : k < P.1) (hik : i ≠ k) : ∀ (n p F c : Nat) (o : Option Nat) (w : Wd), 4 - p = n → n < F → p ≤ 4 → c ≤ p → (c = 0 ↔ o = none) → MP P w → ML 0 N w →
    ∃ w', D_X6_rests_75 F (nI i) (nI k) x3 (nI c) (enc o) (nI p) w = some (if x3 = 0 then nI (rsF P N i k n p c o).1 else enc (rsF P N i k n p c o).2, w') ∧ Sm w w' := by
  intro n
  induction n with
  | zero =>
    intro p F c o w hn hF hp hc ho hM hm
    obtain ⟨F, rfl⟩ : ∃ M, F = M + 1 := ⟨F - 1, by omega⟩
    have : p = 4 := by omega
    subst this
    unfold D_X6_rests_75 rsF
    rw [if_pos (by decide)]
    by_cases h : x3 = 0
    · rw [if_pos h, if_pos h]; exact ⟨w, rfl, Sm.rf⟩
    · rw [if_neg h, if_neg h]; exact ⟨w, rfl, Sm.rf⟩
  | succ n ih =>
    intro p F c o w hn hF hp hc ho hM hm
    obtain ⟨F, rfl⟩ : ∃ M, F = M + 1 := ⟨F - 1, by omega⟩
    obtain ⟨w1, a1, s1⟩ := restM_n hP hB hM hs hm hi hk hik (show p / 2 ≤ 1 by omega) (show p % 2 ≤ 1 by omega)
    have hM1 := hM.same s1
    have hm1 := hm.same s1
    have e1 : nI p / (2 : Int32) = nI (p / 2) := pk_div (d := 2) (by omega) (by decide) (by decide)
    have e2 : nI p - nI p / (2 : Int32) * (2 : Int32) = nI (p % 2) := pk_rem (d := 2) (by omega) (by decide) (by decide)
    unfold D_X6_rests_75 rsF
    rw [if_neg (by rw [n4, nI_leI (by decide) (by omega)]; omega), e2, e1, a1, sb]
    dsimp only
    by_cases h0 : rsV P N i k (p / 2) (p % 2) = 0
    · rw [if_pos h0, if_pos h0, ltd, n1, nI_add]
      obtain ⟨w2, b1, b2⟩ := ih (p + 1) F c o w1 (by omega) (by omega) (by omega) (by omega) ho hM1 hm1
      exact ⟨w2, b1, s1.tr b2⟩
    · rw [if_neg h0, if_neg h0]
      cases o with
      | none =>
        have hc0 : c = 0 := ho.mpr rfl
        subst hc0
        obtain ⟨w2, b1, b2⟩ := ih (p + 1) F 1 (some (10 * (p / 2) + p % 2)) w1 (by omega) (by omega) (by omega) (by omega) ⟨fun z => by omega, fun z => by cases z⟩ hM1 hm1
        refine ⟨w2, ?_, s1.tr b2⟩
        rw [if_pos (show nI 0 = 0 from rfl), n10, pk_mul, nI_add, ltd, n1, nI_add, nI_add, ltd, ltd]
        exact b1
      | some q =>
        have hcn : c ≠ 0 := fun z => by have := ho.mp z; cases this
        obtain ⟨w2, b1, b2⟩ := ih (p + 1) F (c + 1) (some q) w1 (by omega) (by omega) (by omega) (by omega) ⟨fun z => by omega, fun z => by cases z⟩ hM1 hm1
        refine ⟨w2, ?_, s1.tr b2⟩
        rw [if_neg (by rw [n0, nI_eq (by omega) (by decide)]; exact hcn), n1, nI_add, nI_add, ltd, ltd]
        exact b1
theorem rests_ok (x y z : Int32) : OkI (fun w => D_X5_rests w x y z) (fun w => D_X6_rests w x y z) := by
  refine OkI.q (fun P B N hB w hq => ?_)
  obtain ⟨hP, hX, hM, hs, hx, hm⟩ := hq
  have h6 := hP.1
  have hwd := pow_le64 h6 hs.2.2.1
  have e2 : w.1 25 0 2 = nI N.2.2.1 := hm.2.2.1
  unfold D_X5_rests D_X6_rests
  rcases ix_cases x (n := P.1) (by omega) with ⟨i, hi, rfl⟩ | ho
  · rcases ix_cases y (n := P.1) (by omega) with ⟨k, hk, rfl⟩ | ho
    · simp only [has_n hX hP hi, has_n hX hP hk, sb, if_neg ne10]
      by_cases hik : i = k
      · subst hik
        refine ⟨-2, w, w, by rw [if_pos rfl], Sm.rf, ?_, Sm.rf⟩
        rw [isWeddingM_n hP hM hi, sb, if_neg ne10, sb, if_neg ne10, if_pos rfl]
      · have hne : ¬ nI i = nI k := fun z => hik ((nI_eq (by omega) (by omega)).mp z)
        rw [if_neg hne]
        rcases ix_cases z (n := 2) (by decide) with ⟨v, hv, rfl⟩ | ho
        · have hin : D_X6_in (Int32.toInt64 (nI v)) 0 1 = some 1 := inM_y (n := 2) (by decide) (by decide) hv
          have g1 : nI v ≤ nI 1 := (nI_leI (by omega) (by decide)).mpr (by omega)
          rw [if_neg (nI_lt0 (by omega)), if_pos (show nI v ≤ 1 from g1), isWed_n (by decide) hx.2.2.1 hwd (by omega), sb]
          by_cases t1 : N.2.2.1.testBit i = true
          · refine ⟨-3, w, w, by rw [if_pos t1, if_neg (by decide)], Sm.rf, ?_, Sm.rf⟩
            rw [isWeddingM_n hP hM hi, sb, if_neg ne10, isWeddingM_n hP hM hk, sb, if_neg ne10, if_neg hne, hin, sb, if_neg ne10, e2, hasM_n _ hwd _ (by omega), sb, if_pos t1, if_neg (by decide)]
          · rw [if_neg t1, if_pos (by decide), isWed_n (by decide) hx.2.2.1 hwd (by omega), sb]
            by_cases t2 : N.2.2.1.testBit k = true
            · refine ⟨-3, w, w, by rw [if_pos t2, if_neg (by decide)], Sm.rf, ?_, Sm.rf⟩
              rw [isWeddingM_n hP hM hi, sb, if_neg ne10, isWeddingM_n hP hM hk, sb, if_neg ne10, if_neg hne, hin, sb, if_neg ne10, e2, hasM_n _ hwd _ (by omega), sb, if_neg t1, if_pos (by decide), hasM_n _ hwd _ (by omega), sb, if_pos t2, if_neg (by decide)]
            · rw [if_neg t2, if_pos (by decide)]
              obtain ⟨w1, b1, b2⟩ := restsX_loop (x3 := nI v) hP hB hs hi hk hik 4 0 fuelZ 0 none w (by omega) (by decide) (by omega) (by omega) (fun q hq => by cases hq) hX hx
              obtain ⟨w2, c1, c2⟩ := restsM_loop (x3 := nI v) hP hB hs hi hk hik 4 0 fuelZ 0 none w1 (by omega) (by decide) (by omega) (by omega) ⟨fun _ => rfl, fun _ => rfl⟩ (hM.same b2) (hm.same b2)
              refine ⟨_, w1, w2, b1, b2, ?_, c2⟩
              have e3 : w1.1 25 0 2 = nI N.2.2.1 := (hm.same b2).2.2.1
              rw [isWeddingM_n hP (hM.same b2) hi, sb, if_neg ne10, isWeddingM_n hP (hM.same b2) hk, sb, if_neg ne10, if_neg hne, hin, sb, if_neg ne10, e3, hasM_n _ hwd _ (by omega), sb, if_neg t1, if_pos (by decide), hasM_n _ hwd _ (by omega), sb, if_neg t2, if_pos (by decide)]
              exact c1
        · have hin : D_X6_in (Int32.toInt64 z) 0 1 = some 0 := inM_o (n := 2) (by decide) (by decide) ho
          refine ⟨-2, w, w, ?_, Sm.rf, ?_, Sm.rf⟩
          · by_cases h : z < 0
            · rw [if_pos h]
            · have g : ¬ z ≤ nI 1 := out_le (by decide) ho h (by decide)
              rw [if_neg h, if_neg (show ¬ z ≤ 1 from g)]
          · rw [isWeddingM_n hP hM hi, sb, if_neg ne10, isWeddingM_n hP hM hk, sb, if_neg ne10, if_neg hne, hin, sb, if_pos rfl]
    · refine ⟨-1, w, w, ?_, Sm.rf, ?_, Sm.rf⟩
      · rw [has_n hX hP hi, sb, if_neg ne10, has_o hX ho, sb, if_pos rfl]
      · rw [isWeddingM_n hP hM hi, sb, if_neg ne10, isWeddingM_o hP hM ho, sb, if_pos rfl]
  · refine ⟨-1, w, w, ?_, Sm.rf, ?_, Sm.rf⟩
    · rw [has_o hX ho, sb, if_pos rfl]
    · rw [isWeddingM_o hP hM ho, sb, if_pos rfl]
