/-! falls: holding, and weights -/
def bN (f p : Nat) : Nat := if f.testBit p = true then 1 else 0
def hdS (P : Pa) (n row f : Nat) : Nat → Nat → Sd → Nat
  | 0, _, _ => 1
  | k + 1, p, s => match stD P (s.1 + bN f p, s.2) (dgN n row p) with
    | none => 0
    | some s' => hdS P n row f k (p + 1) s'
theorem bN_le {f p : Nat} : bN f p ≤ 1 := by unfold bN; split <;> omega
theorem holdX_loop {P : Pa} {B n row f : Nat} (hP : okP P) (hB : 10 ≤ B ∧ B < 2 ^ 27) (hn : n ≤ 6) (hr : row < 10 ^ n) (hf : f < 64) : ∀ (k p F : Nat) (s : Sd) (w : Wd), n - p = k → k < F → p ≤ n → XP P w → okS P.1 (B + p) s → XS1 1 s w →
    ∃ w', D_X5_holdsWithFalls_14 F (nI n) (nI row) (nI f) (nI p) w = some (nI (hdS P n row f k p s), w') ∧ Off [(3, 1)] w w' := by
  intro k
  induction k with
  | zero =>
    intro p F s w hk hF hp hX hs hx
    obtain ⟨F, rfl⟩ : ∃ M, F = M + 1 := ⟨F - 1, by omega⟩
    have : p = n := by omega
    subst this
    unfold D_X5_holdsWithFalls_14 hdS
    rw [if_pos ((nI_leI (by omega) (by omega)).mpr (Nat.le_refl _))]
    exact ⟨w, rfl, Off.rf⟩
  | succ k ih =>
    intro p F s w hk hF hp hX hs hx
    obtain ⟨F, rfl⟩ : ∃ M, F = M + 1 := ⟨F - 1, by omega⟩
    have hb := bN_le (f := f) (p := p)
    have eb : ((nI f >>> (nI p &&& 31)) &&& (1 : Int32)) = nI (bN f p) := bit_n f hf p (by omega)
    have hs1 := hs.1
    unfold D_X5_holdsWithFalls_14 hdS
    rw [if_neg (by rw [nI_leI (by omega) (by omega)]; omega), eb, hx.1, nI_add, ltd, inRow_n hn hr (by omega), sb]
    have o1 : Off [(3, 1)] w (wS w 3 1 1 (nI (s.1 + bN f p))) := Off.wS
    have hx1 : XS1 1 (s.1 + bN f p, s.2) (wS w 3 1 1 (nI (s.1 + bN f p))) := by
      refine ⟨?_, ?_, ?_, fun r hr => ?_⟩
      · rw [wS_at]
      · rw [wS_ne (by decide)]; exact hx.2.1
      · rw [wS_ne (by decide)]; exact hx.2.2.1
      · rw [wS_off (by simp)]; exact hx.2.2.2 r hr
    have hok : okS P.1 (B + (p + 1)) (s.1 + bN f p, s.2) := ⟨by show s.1 + bN f p ≤ _; omega, hs.2⟩
    have hX1 := hX.off o1 (by decide) (by decide) (by decide)
    rcases celD_n hP hX1 (by decide) hx1 hok (by omega) (dgN_lt (n := n) (row := row) (p := p)) with ⟨z1, z2⟩ | ⟨s', w1, z1, z2, z3, z4⟩
    · rw [z1, z2, sb]
      exact ⟨_, rfl, o1⟩
    · rw [z1, z2, sb]
      obtain ⟨w2, a1, a2⟩ := ih (p + 1) F s' w1 (by omega) (by omega) (by omega) (hX1.off z4 (by decide) (by decide) (by decide)) (stD_ok hP hok (by omega) z1) z3
      refine ⟨w2, ?_, (o1.tr z4).tr a2⟩
      dsimp only
      rw [if_neg ne10, ltd, n1, nI_add]
      exact a1
theorem begW_sh {P : Pa} {i h b wy : Nat} : begW P i (h + b) wy = begW P i h (wy + b) := by
  unfold begW
  rw [show h + b + wy + lateW P i = h + (wy + b) + lateW P i by omega]
theorem holdM_loop {P : Pa} {B n row f : Nat} {N : Sd} {w : Wd} (hP : okP P) (hB : 10 ≤ B ∧ B < 2 ^ 27) (hn : n ≤ 6) (hr : row < 10 ^ n) (hf : f < 64) (hM : MP P w) (hsN : okS P.1 B N) (hm : ML 0 N w) : ∀ (k p F : Nat) (s : Sd), n - p = k → k < F → p ≤ n → okS P.1 (B + p) s → s.2.2.2 = N.2.2.2 → opX P n row s.2.2.1 p →
    D_X6_holds_19 w F (nI n) (nI row) (nI f) (nI s.2.1) (nI s.1) (nI p) = some (nI (hdS P n row f k p s)) := by
  have h6 := hP.1
  intro k
  induction k with
  | zero =>
    intro p F s hk hF hp hs hrd hop
    obtain ⟨F, rfl⟩ : ∃ M, F = M + 1 := ⟨F - 1, by omega⟩
    have : p = n := by omega
    subst this
    unfold D_X6_holds_19 hdS
    rw [if_pos ((nI_leI (by omega) (by omega)).mpr (Nat.le_refl _))]; rfl
  | succ k ih =>
    intro p F s hk hF hp hs hrd hop
    obtain ⟨F, rfl⟩ : ∃ M, F = M + 1 := ⟨F - 1, by omega⟩
    have hb := bN_le (f := f) (p := p)
    have eb : ((nI f >>> (nI p &&& 31)) &&& (1 : Int32)) = nI (bN f p) := bit_n f hf p (by omega)
    have hs1 := hs.1
    have h11 := ten_lt (show n - 1 - p < 7 by omega)
    have hpos : 0 < 10 ^ (n - 1 - p) := Nat.pow_pos (by decide)
    have et : D_X6_tenTo ((nI n - 1) - nI p) = some (nI (10 ^ (n - 1 - p))) := by rw [n1, pk_sub (by omega), pk_sub (by omega), tenTo_n _ (by omega)]
    obtain ⟨g1, g2, g3⟩ := hop.1 p (Nat.le_refl _) (by omega)
    obtain ⟨i, hi⟩ : ∃ i, dgN n row p = i + 1 := ⟨dgN n row p - 1, by omega⟩
    have hi1 : dgN n row p - 1 = i := by omega
    rw [hi1] at g3
    have hiP : i < P.1 := by omega
    have hst := (opX_step (P := P) (row := row) (show p < n by omega) g1 g2 (by rw [hi1]; exact g3)).mp hop
    rw [hi1] at hst
    have e1 : nI (dgN n row p) - 1 = nI i := by rw [hi, n1, pk_sub (by omega), Nat.add_sub_cancel]
    have eS : stD P (s.1 + bN f p, s.2) (dgN n row p) = (begW P i s.1 (wayN N.2.2.2 s.2.1 (P.2.2 i 0) + bN f p)).map fun b => (freeW P i b, P.2.2 i 0, s.2.2.1 ||| 2 ^ i, s.2.2.2) := by
      unfold stD
      rw [if_neg (by omega), hi1]
      unfold wedS begS
      rw [if_pos ⟨hiP, g3⟩]
      show (begW P i (s.1 + bN f p) (wayN s.2.2.2 s.2.1 (P.2.2 i 0))).map _ = _
      rw [begW_sh, hrd]
    unfold D_X6_holds_19 hdS
    have hbg : D_X6_begins w 0 (nI i) (nI s.2.1) (nI s.1) (nI (bN f p)) = some (enc (begW P i s.1 (wayN N.2.2.2 s.2.1 (P.2.2 i 0) + bN f p))) := beginsM_n (l := 0) hP hM (by omega) hm hsN hiP hs.2.1 (by omega)
    rw [if_neg (by rw [nI_leI (by omega) (by omega)]; omega), et, sb, if_pos (by rw [n0, nI_eq (by omega) (by decide)]; omega), dig_n hn hr, e1, ltd, eb, hbg, sb]
    have hok : okS P.1 (B + (p + 1)) (s.1 + bN f p, s.2) := ⟨by show s.1 + bN f p ≤ _; omega, hs.2⟩
    cases hbw : begW P i s.1 (wayN N.2.2.2 s.2.1 (P.2.2 i 0) + bN f p) with
    | none =>
      rw [hbw] at eS
      rw [eS, if_pos (by rfl)]; rfl
    | some b =>
      rw [hbw] at eS
      have h9 := begW_le hP hiP hbw
      have hn9 : ¬ enc (some b) = (-9) := nI_ne9 (by omega)
      have hok2 := stD_ok hP hok (by omega) eS
      rw [eS, if_neg hn9, show enc (some b) = nI b from rfl, behindM_n hP hM hiP, sb, if_pos ((inB_n (by omega)).mpr (by omega)), nI_clamp (by omega), (hM.2.2 i hiP).1, ltd, ltd, n1, nI_add]
      exact ih (p + 1) F (freeW P i b, P.2.2 i 0, s.2.2.1 ||| 2 ^ i, s.2.2.2) (by omega) (by omega) (by omega) hok2 hrd hst
/-! weights -/
def chP (P : Pa) (N : Sd) (n row p : Nat) : Nat := if p = 0 then N.2.1 else P.2.2 (dgN n row (p - 1) - 1) 0
def wyP (P : Pa) (N : Sd) (n row p : Nat) : Nat := wayN N.2.2.2 (chP P N n row p) (P.2.2 (dgN n row p - 1) 0)
def fcN (x wy : Nat) (b : Bool) : Nat := if 0 < wy then (if b = true then x else 10 - x) else (if b = true then 0 else 10)
def WN (wy : Nat → Nat) (x f : Nat) : Nat → Nat
  | 0 => 1
  | p + 1 => WN wy x f p * fcN x (wy p) (f.testBit p)
theorem fcN_le {x wy : Nat} {b : Bool} (hx : x ≤ 10) : fcN x wy b ≤ 10 := by unfold fcN; split <;> split <;> omega
theorem WN_le {wy : Nat → Nat} {x f : Nat} (hx : x ≤ 10) : ∀ p, WN wy x f p ≤ 10 ^ p
  | 0 => Nat.le_refl _
  | p + 1 => by
    unfold WN
    rw [Nat.pow_succ]
    exact Nat.mul_le_mul (WN_le hx p) (fcN_le hx)
theorem chP_le {P : Pa} {B : Nat} {N : Sd} {n row p : Nat} (hP : okP P) (hs : okS P.1 B N) (hop : opX P n row N.2.2.1 0) (hp : p ≤ n) : chP P N n row p ≤ 5 := by
  unfold chP
  split
  · exact hs.2.1
  · obtain ⟨g1, g2, -⟩ := hop.1 (p - 1) (Nat.zero_le _) (by omega)
    exact (hP.2.2 _ (by omega)).1
theorem weight_loop {P : Pa} {B n row x f : Nat} {N : Sd} {w : Wd} (hP : okP P) (hX : XP P w) (hs : okS P.1 B N) (hN : XS1 0 N w) (hn : n ≤ 6) (hr : row < 10 ^ n) (hf : f < 64) (hx : x ≤ 10) (hop : opX P n row N.2.2.1 0) : ∀ (k p F : Nat), n - p = k → k < F → p ≤ n →
    D_X5_weightOfFalls_15 w F (nI n) (nI row) (nI x) (nI f) (nI (WN (wyP P N n row) x f p)) (nI (chP P N n row p)) (nI p) = some (nI (WN (wyP P N n row) x f n)) := by
  have h6 := hP.1
  intro k
  induction k with
  | zero =>
    intro p F hk hF hp
    obtain ⟨F, rfl⟩ : ∃ M, F = M + 1 := ⟨F - 1, by omega⟩
    have : p = n := by omega
    subst this
    unfold D_X5_weightOfFalls_15
    rw [if_pos ((nI_leI (by omega) (by omega)).mpr (Nat.le_refl _))]
  | succ k ih =>
    intro p F hk hF hp
    obtain ⟨F, rfl⟩ : ∃ M, F = M + 1 := ⟨F - 1, by omega⟩
    have eb : ((nI f >>> (nI p &&& 31)) &&& (1 : Int32)) = nI (if f.testBit p = true then 1 else 0) := bit_n f hf p (by omega)
    obtain ⟨g1, g2, g3⟩ := hop.1 p (Nat.zero_le _) (by omega)
    obtain ⟨i, hi⟩ : ∃ i, dgN n row p = i + 1 := ⟨dgN n row p - 1, by omega⟩
    have hiP : i < P.1 := by omega
    have e1 : nI (dgN n row p) - 1 = nI i := by rw [hi, n1, pk_sub (by omega), Nat.add_sub_cancel]
    have hfg : D_X1_figure w (nI i) 0 = some (nI (P.2.2 i 0)) := fig_n (k := 0) hP hX hiP (by decide)
    have hch := chP_le hP hs hop (show p ≤ n by omega)
    have hwy : wyP P N n row p = wayN N.2.2.2 (chP P N n row p) (P.2.2 i 0) := by unfold wyP; rw [hi, Nat.add_sub_cancel]
    have hwl := wayN_le hs.2.2.2 (chP P N n row p) (P.2.2 i 0)
    have hnx : chP P N n row (p + 1) = P.2.2 i 0 := by unfold chP; rw [if_neg (by omega), Nat.add_sub_cancel, hi, Nat.add_sub_cancel]
    have IH := ih (p + 1) F (by omega) (by omega) (by omega)
    rw [hnx] at IH
    unfold D_X5_weightOfFalls_15
    rw [if_neg (by rw [nI_leI (by omega) (by omega)]; omega), inRow_n hn hr (by omega), sb, e1, hfg, sb, eb]
    unfold D_X5_weightOfFalls_53
    rw [hours_n (by decide) hN hs hch (hP.2.2 i hiP).1, sb, ← hwy]
    rw [← hwy] at hwl
    have eW : WN (wyP P N n row) x f (p + 1) = WN (wyP P N n row) x f p * fcN x (wyP P N n row p) (f.testBit p) := rfl
    rw [eW] at IH
    by_cases ht : f.testBit p = true
    · rw [if_pos ht, if_neg (by decide)]
      by_cases h0 : 0 < wyP P N n row p
      · have ef : fcN x (wyP P N n row p) (f.testBit p) = x := by unfold fcN; rw [if_pos h0, if_pos ht]
        rw [ef] at IH
        rw [sb, if_neg (by rw [n0, nI_leI (by omega) (by decide)]; omega), if_neg (by decide), pk_mul, ltd, ltd, n1, nI_add]
        exact IH
      · have ef : fcN x (wyP P N n row p) (f.testBit p) = 0 := by unfold fcN; rw [if_neg h0, if_pos ht]
        rw [ef] at IH
        rw [sb, if_pos (by rw [n0]; exact (nI_leI (by omega) (by decide)).mpr (by omega)), if_neg (by decide), n0, pk_mul, ltd, ltd, n1, nI_add]
        exact IH
    · rw [if_neg ht, if_pos (by decide)]
      by_cases h0 : 0 < wyP P N n row p
      · have ef : fcN x (wyP P N n row p) (f.testBit p) = 10 - x := by unfold fcN; rw [if_pos h0, if_neg ht]
        rw [ef] at IH
        rw [if_neg (by rw [n0, nI_leI (by omega) (by decide)]; omega), if_pos rfl, n10, pk_sub hx, pk_mul, ltd, ltd, n1, nI_add]
        exact IH
      · have ef : fcN x (wyP P N n row p) (f.testBit p) = 10 := by unfold fcN; rw [if_neg h0, if_neg ht]
        rw [ef] at IH
        rw [if_pos (by rw [n0]; exact (nI_leI (by omega) (by decide)).mpr (by omega)), if_pos rfl, n10, pk_mul, ltd, ltd, n1, nI_add]
        exact IH
def wmN (wy : Nat → Nat) : Nat → Nat
  | 0 => 0
  | p + 1 => if 0 < wy p then wmN wy p ||| 2 ^ p else wmN wy p
theorem wmN_lt {wy : Nat → Nat} : ∀ p, wmN wy p < 2 ^ p
  | 0 => by unfold wmN; decide
  | p + 1 => by
    have h := wmN_lt (wy := wy) p
    have h2 : 2 ^ p ≤ 2 ^ (p + 1) := Nat.pow_le_pow_right (by decide) (by omega)
    unfold wmN
    split
    · exact orb_lt (by omega) (by omega)
    · omega
theorem wmN_bit {wy : Nat → Nat} : ∀ p q, (wmN wy p).testBit q = true ↔ q < p ∧ 0 < wy q
  | 0, q => by unfold wmN; simp
  | p + 1, q => by
    have h := wmN_bit (wy := wy) p q
    unfold wmN
    split
    · rename_i h0
      rw [tb_or, h]
      constructor
      · rintro (⟨a, b⟩ | rfl)
        · exact ⟨by omega, b⟩
        · exact ⟨by omega, h0⟩
      · rintro ⟨a, b⟩
        by_cases hq : q = p
        · exact Or.inr hq.symm
        · exact Or.inl ⟨by omega, b⟩
    · rename_i h0
      rw [h]
      constructor
      · rintro ⟨a, b⟩; exact ⟨by omega, b⟩
      · rintro ⟨a, b⟩
        by_cases hq : q = p
        · subst hq; exact absurd b h0
        · exact ⟨by omega, b⟩
theorem waysIn_loop {P : Pa} {B n row : Nat} {N : Sd} {w : Wd} (hP : okP P) (hM : MP P w) (hs : okS P.1 B N) (hm : ML 0 N w) (hn : n ≤ 6) (hr : row < 10 ^ n) (hop : opX P n row N.2.2.1 0) : ∀ (k p F : Nat), n - p = k → k < F → p ≤ n →
    D_X6_waysIn_13 w F (nI n) (nI row) (nI (chP P N n row p)) (nI (wmN (wyP P N n row) p)) (nI p) = some (nI (wmN (wyP P N n row) n)) := by
  have h6 := hP.1
  intro k
  induction k with
  | zero =>
    intro p F hk hF hp
    obtain ⟨F, rfl⟩ : ∃ M, F = M + 1 := ⟨F - 1, by omega⟩
    have : p = n := by omega
    subst this
    unfold D_X6_waysIn_13
    rw [if_pos ((nI_leI (by omega) (by omega)).mpr (Nat.le_refl _))]
  | succ k ih =>
    intro p F hk hF hp
    obtain ⟨F, rfl⟩ : ∃ M, F = M + 1 := ⟨F - 1, by omega⟩
    have h11 := ten_lt (show n - 1 - p < 7 by omega)
    have hpos : 0 < 10 ^ (n - 1 - p) := Nat.pow_pos (by decide)
    have et : D_X6_tenTo ((nI n - 1) - nI p) = some (nI (10 ^ (n - 1 - p))) := by rw [n1, pk_sub (by omega), pk_sub (by omega), tenTo_n _ (by omega)]
    obtain ⟨g1, g2, g3⟩ := hop.1 p (Nat.zero_le _) (by omega)
    obtain ⟨i, hi⟩ : ∃ i, dgN n row p = i + 1 := ⟨dgN n row p - 1, by omega⟩
    have hiP : i < P.1 := by omega
    have e1 : nI (dgN n row p) - 1 = nI i := by rw [hi, n1, pk_sub (by omega), Nat.add_sub_cancel]
    have hch := chP_le hP hs hop (show p ≤ n by omega)
    have hwy : wyP P N n row p = wayN N.2.2.2 (chP P N n row p) (P.2.2 i 0) := by unfold wyP; rw [hi, Nat.add_sub_cancel]
    have hwl := wayN_le hs.2.2.2 (chP P N n row p) (P.2.2 i 0)
    have hnx : chP P N n row (p + 1) = P.2.2 i 0 := by unfold chP; rw [if_neg (by omega), Nat.add_sub_cancel, hi, Nat.add_sub_cancel]
    have hml := pow_le64 (show p ≤ 6 by omega) (wmN_lt (wy := wyP P N n row) p)
    have IH := ih (p + 1) F (by omega) (by omega) (by omega)
    rw [hnx] at IH
    have eW : wmN (wyP P N n row) (p + 1) = if 0 < wyP P N n row p then wmN (wyP P N n row) p ||| 2 ^ p else wmN (wyP P N n row) p := rfl
    rw [eW] at IH
    have i6 : inB (nI i) 6 := (inB_n (by omega)).mpr (by omega)
    have ewy : D_X6_wayOn w 0 (nI (chP P N n row p)) (nI (P.2.2 i 0)) = some (nI (wyP P N n row p)) := by rw [hwy]; exact wayM_n (l := 0) (by omega) hm hs hch (hP.2.2 i hiP).1
    rw [← hwy] at hwl
    unfold D_X6_waysIn_13
    rw [if_neg (by rw [nI_leI (by omega) (by omega)]; omega), et, sb, if_pos (by rw [n0, nI_eq (by omega) (by decide)]; omega), dig_n hn hr, e1, ltd]
    simp only [if_pos i6, nI_clamp (show i < 2 ^ 31 by omega), (hM.2.2 i hiP).1, ewy, sb]
    by_cases h0 : 0 < wyP P N n row p
    · rw [if_pos h0] at IH
      rw [if_neg (by rw [n0, nI_leI (by omega) (by decide)]; omega), orb_n _ hml _ (by omega), ltd, ltd, ltd, n1, nI_add]
      exact IH
    · rw [if_neg h0] at IH
      rw [if_pos (by rw [n0]; exact (nI_leI (by omega) (by decide)).mpr (by omega)), Int32.or_zero, ltd, ltd, ltd, n1, nI_add]
      exact IH
