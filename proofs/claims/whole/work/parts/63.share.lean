/-! shares -/
theorem clr_lt : ∀ a, a < 64 → ∀ i, i < 6 → a.testBit i = true → clrN a i < a := by decide +kernel
def MoX (P : Pa) (N : Sd) (a : Nat) (w : Wd) : Prop := ∀ b, b < a → w.1 18 0 b = nI (mostR P N b)
theorem fill52 {P : Pa} {B a : Nat} {N : Sd} {w : Wd} {k17 : Int32 → Wd → Option Wd} (hP : okP P) (hB : 10 ≤ B) (hs : okS P.1 B N) (ha : a < 64) (hm : MoX P N a w) : ∀ (n i x F : Nat), 6 - i = n → n < F → i ≤ 6 → x ≤ 6 → D_X5_fillMostOf_52 k17 F (nI a) (nI x) (nI i) w = k17 (nI (a + 1)) (wS w 18 0 a (nI (bstN P N a n i x))) := by
  intro n
  induction n with
  | zero =>
    intro i x F hn hF hi hx
    obtain ⟨F, rfl⟩ : ∃ M, F = M + 1 := ⟨F - 1, by omega⟩
    have : i = 6 := by omega
    subst this
    unfold D_X5_fillMostOf_52 bstN
    rw [if_pos (by decide), if_pos ((inB_n (by omega)).mpr ha), nI_clamp (by omega), ltd, ltd, n1, nI_add]
  | succ n ih =>
    intro i x F hn hF hi hx
    obtain ⟨F, rfl⟩ : ∃ M, F = M + 1 := ⟨F - 1, by omega⟩
    unfold D_X5_fillMostOf_52 bstN
    rw [if_neg (by rw [n6, nI_leI (by decide) (by omega)]; omega), bit_n a ha i (by omega)]
    by_cases ht : a.testBit i = true
    · have hlt := clr_lt a ha i (by omega) ht
      have h6 := mostR_le6 hP hB hs (clrN a i)
      have er : rdZ w 18 0 (clrN a i) = nI (mostR P N (clrN a i)) := hm _ hlt
      rw [if_pos ht, if_pos ht, if_neg (by decide), clr_n a ha i (by omega), at_n rfl (by decide) (show clrN a i < lenZ 18 from by show clrN a i < 64; omega), sb, er, maxZ_n (by omega) (by omega), ltd, ltd, n1, nI_add]
      exact ih (i + 1) (max x (mostR P N (clrN a i))) F (by omega) (by omega) (by omega) (by omega)
    · rw [if_neg ht, if_neg ht, if_pos (by decide), ltd, n1, nI_add]
      exact ih (i + 1) x F (by omega) (by omega) (by omega) hx
theorem fill17 {P : Pa} {B : Nat} {N : Sd} (hP : okP P) (hB : 10 ≤ B) (hs : okS P.1 B N) : ∀ (n a F : Nat) (w : Wd), 64 - a = n → n < F → a ≤ 64 → MoX P N a w → (∀ q, q < 64 → w.1 14 0 q = nI ((fN 6 (R0 N) (nodes0 P N)).2.2.2.2.2.2 q)) →
    ∃ w', D_X5_fillMostOf_17 F (nI a) w = some w' ∧ MoX P N 64 w' ∧ Off [(18, 0)] w w' := by
  intro n
  induction n with
  | zero =>
    intro a F w hn hF ha hm hh
    obtain ⟨F, rfl⟩ : ∃ M, F = M + 1 := ⟨F - 1, by omega⟩
    have : a = 64 := by omega
    subst this
    unfold D_X5_fillMostOf_17
    rw [if_pos (by decide)]
    exact ⟨w, rfl, hm, Off.rf⟩
  | succ n ih =>
    intro a F w hn hF ha hm hh
    obtain ⟨F, rfl⟩ : ∃ M, F = M + 1 := ⟨F - 1, by omega⟩
    have ha64 : a < 64 := by omega
    have up : ∀ v, v = mostR P N a → ∃ w', D_X5_fillMostOf_17 F (nI (a + 1)) (wS w 18 0 a (nI v)) = some w' ∧ MoX P N 64 w' ∧ Off [(18, 0)] w w' := by
      intro v hv
      obtain ⟨w', a1, a2, a3⟩ := ih (a + 1) F (wS w 18 0 a (nI v)) (by omega) (by omega) (by omega) (fun b hb => by
        by_cases hba : b = a
        · rw [hba, wS_at, hv]
        · rw [wS_ne hba]; exact hm b (by omega)) (fun q hq => by rw [wS_off (by decide)]; exact hh q hq)
      exact ⟨w', a1, a2, Off.wS.tr a3⟩
    unfold D_X5_fillMostOf_17
    rw [if_neg (by rw [n64, nI_leI (by decide) (by omega)]; omega), at_n rfl (by decide) (show a < lenZ 14 from ha64), sb, show rdZ w 14 0 a = _ from hh a ha64]
    obtain ⟨k1, k2⟩ := hold_iff hP hB hs a
    by_cases hex : ∃ r s', runS P N r = some s' ∧ setR r = a
    · obtain ⟨r, s', g1, g2⟩ := hex
      rw [k1 ⟨r, s', g1, g2⟩, if_neg (by decide), bitCount_n a ha64, sb, if_pos ((inB_n (by omega)).mpr ha64), nI_clamp (by omega), ltd, ltd, n1, nI_add]
      exact up (cnt6 a) (by rw [← g2]; exact (most_full hP hB hs g1).symm)
    · have hno : ∀ r s', runS P N r = some s' → setR r ≠ a := fun r s' h z => hex ⟨r, s', h, z⟩
      rw [k2 hno, if_pos (by decide)]
      have e := fill52 (k17 := fun y0 wy => D_X5_fillMostOf_17 F y0 wy) hP hB hs ha64 hm 6 0 0 fuelZ rfl (by decide) (by decide) (by decide)
      obtain ⟨w', b1, b2⟩ := up _ (bstN_most hP hB hs ha64 hno)
      exact ⟨w', e.trans b1, b2⟩
theorem fillM_n {P : Pa} {B : Nat} {N : Sd} {w : Wd} (hP : okP P) (hB : 10 ≤ B ∧ B < 2 ^ 28) (hX : XP P w) (hs : okS P.1 B N) (hx : XS1 0 N w) : ∃ w', D_X5_fillMostOf w = some w' ∧ MoX P N 64 w' ∧ Sm w w' := by
  obtain ⟨w1, a1, a2, a3⟩ := runFrom_n hP hB hX hs (by decide) (by decide) hx
  obtain ⟨w2, b1, b2, b3⟩ := fill17 hP hB.1 hs 64 0 fuelZ w1 rfl (by decide) (by decide) (fun b hb => absurd hb (Nat.not_lt_zero b)) a2.2.2.2.2.2.2
  unfold D_X5_fillMostOf
  rw [a1, sb]
  exact ⟨w2, b1, b2, (Sm.off a3 LSr_SC).tr (Sm.off b3 (by decide))⟩
def fcZ : Nat → Nat
  | 0 => 1
  | n + 1 => (n + 1) * fcZ n
theorem facs_n : ∀ n, n < 7 → facsA n = nI (fcZ n) := by decide +kernel
theorem atF_n {w : Wd} {n : Nat} (h : n < 7) : D_X5_at w 41 0 (nI n) = some (nI (fcZ n)) := by
  rw [at_n rfl (by decide) (show n < lenZ 41 from h), ← facs_n n h]; rfl
theorem facM_n : ∀ n, n < 7 → D_X6_factorial (nI n) = some (nI (fcZ n)) := by decide +kernel
theorem fcZ_le : ∀ n, n < 7 → 0 < fcZ n ∧ fcZ n ≤ 720 := by decide +kernel
theorem selfB : ∀ a, a < 64 → ∀ i, i < 6 → (nI a &&& nI (2 ^ i) = 0 ↔ ¬ a.testBit i = true) := by decide +kernel
noncomputable def tmN (P : Pa) (N : Sd) (op i o a : Nat) : Nat := if subN a op then (if a.testBit i = true then 0 else (mostR P N (a ||| 2 ^ i) - mostR P N a) * fcZ (cnt6 a) * fcZ (o - cnt6 a)) else 0
theorem smN_bd {g : Nat → Nat} {c : Nat} : ∀ n, (∀ q, q < n → g q ≤ c) → smN g n ≤ n * c
  | 0, _ => Nat.zero_le _
  | n + 1, e => by
    unfold smN
    have := smN_bd n (fun q hq => e q (by omega))
    have := e n (by omega)
    rw [Nat.succ_mul]; omega
theorem cnt_self {a op i : Nat} (ha : a < 64) (hop : op < 64) (hi : i < 6) (hs : subN a op) (ht : ¬ a.testBit i = true) (hio : op.testBit i = true) : cnt6 a + 1 ≤ cnt6 op := by
  have e := cnt_step a ha i hi (by cases h : a.testBit i with | false => rfl | true => exact absurd h ht)
  rw [← e]
  refine cnt_sub _ (orb_lt (n := 6) ha hi) _ hop (fun j hj z => ?_)
  rcases tb_or.mp z with z | rfl
  · exact hs j hj z
  · exact hio
theorem tmN_le {P : Pa} {B : Nat} {N : Sd} {op i o a : Nat} (hP : okP P) (hB : 10 ≤ B) (hs : okS P.1 B N) (ha : a < 64) (ho : o ≤ 5) : tmN P N op i o a ≤ 3110400 := by
  unfold tmN
  split
  · split
    · omega
    · have h1 := mostR_le6 hP hB hs (a ||| 2 ^ i)
      have h2 := (fcZ_le (cnt6 a) (by have := cnt_le a ha; omega)).2
      have h3 := (fcZ_le (o - cnt6 a) (by omega)).2
      have := Nat.mul_le_mul (Nat.mul_le_mul (show mostR P N (a ||| 2 ^ i) - mostR P N a ≤ 6 by omega) h2) h3
      omega
  · omega
theorem share72 {P : Pa} {B op i o : Nat} {N : Sd} {x2 : Int32} {w : Wd} (hP : okP P) (hB : 10 ≤ B) (hs : okS P.1 B N) (hop : op < 64) (hi : i < 6) (hio : op.testBit i = true) (ho : cnt6 op = o + 1) (hm : MoX P N 64 w) : ∀ (n a F : Nat), 64 - a = n → n < F → a ≤ 64 → D_X5_share_72 F x2 (nI op) (nI (2 ^ i)) (nI o) (nI (smN (tmN P N op i o) a)) (nI a) w = ((D_X5_fraction (nI (smN (tmN P N op i o) 64)) (nI (fcZ (o + 1))) x2).bind fun q13 => some (q13, w)) := by
  have hc6 := cnt_le op hop
  intro n
  induction n with
  | zero =>
    intro a F hn hF ha
    obtain ⟨F, rfl⟩ : ∃ M, F = M + 1 := ⟨F - 1, by omega⟩
    have : a = 64 := by omega
    subst this
    unfold D_X5_share_72
    rw [if_pos (by decide), n1, nI_add, atF_n (by omega), sb]
  | succ n ih =>
    intro a F hn hF ha
    obtain ⟨F, rfl⟩ : ∃ M, F = M + 1 := ⟨F - 1, by omega⟩
    have ha64 : a < 64 := by omega
    have IH := ih (a + 1) F (by omega) (by omega) (by omega)
    have es : smN (tmN P N op i o) (a + 1) = smN (tmN P N op i o) a + tmN P N op i o a := rfl
    rw [es] at IH
    unfold D_X5_share_72
    rw [if_neg (by rw [n64, nI_leI (by decide) (by omega)]; omega)]
    by_cases hsub : subN a op
    · rw [if_pos ((subN_n a ha64 op hop).mpr hsub)]
      by_cases ht : a.testBit i = true
      · have e0 : tmN P N op i o a = 0 := by unfold tmN; rw [if_pos hsub, if_pos ht]
        rw [e0, Nat.add_zero] at IH
        rw [if_neg (fun z => (selfB a ha64 i hi).mp z ht), ltd, n1, nI_add]
        exact IH
      · have e0 : tmN P N op i o a = (mostR P N (a ||| 2 ^ i) - mostR P N a) * fcZ (cnt6 a) * fcZ (o - cnt6 a) := by unfold tmN; rw [if_pos hsub, if_neg ht]
        rw [e0] at IH
        have hor : a ||| 2 ^ i < 64 := orb_lt (n := 6) ha64 hi
        have hcs := cnt_self ha64 hop hi hsub ht hio
        have hmo : mostR P N a ≤ mostR P N (a ||| 2 ^ i) := most_sub hP hB hs (fun j _ z => tb_or.mpr (Or.inl z))
        have er1 : rdZ w 18 0 (a ||| 2 ^ i) = nI (mostR P N (a ||| 2 ^ i)) := hm _ hor
        have er2 : rdZ w 18 0 a = nI (mostR P N a) := hm _ ha64
        have h2i : 2 ^ i < 64 := Nat.pow_lt_pow_right (n := 6) (by decide) hi
        rw [if_pos ((selfB a ha64 i hi).mpr ht), bitCount_n a ha64, sb, or64 a ha64 _ h2i, at_n rfl (by decide) (show a ||| 2 ^ i < lenZ 18 from hor), sb, at_n rfl (by decide) (show a < lenZ 18 from ha64), sb, er1, er2, pk_sub hmo, ltd, atF_n (by omega), sb, pk_sub (by omega), atF_n (by omega), sb, pk_mul, pk_mul, nI_add, ltd, ltd, n1, nI_add]
        exact IH
    · have e0 : tmN P N op i o a = 0 := by unfold tmN; rw [if_neg hsub]
      rw [e0, Nat.add_zero] at IH
      rw [if_neg (fun z => hsub ((subN_n a ha64 op hop).mp z)), ltd, n1, nI_add]
      exact IH
