/-! rows of open weddings -/
def opX (P : Pa) (n row U p : Nat) : Prop := (∀ q, p ≤ q → q < n → 1 ≤ dgN n row q ∧ dgN n row q ≤ P.1 ∧ ¬ U.testBit (dgN n row q - 1) = true) ∧ ∀ q r, p ≤ q → q < r → r < n → dgN n row q ≠ dgN n row r
theorem tb_or {U i j : Nat} : (U ||| 2 ^ i).testBit j = true ↔ U.testBit j = true ∨ i = j := by
  rw [Nat.testBit_or, Nat.testBit_two_pow]; simp
theorem opX_step {P : Pa} {n row U p : Nat} (hp : p < n) (h1 : 1 ≤ dgN n row p) (h2 : dgN n row p ≤ P.1) (h3 : ¬ U.testBit (dgN n row p - 1) = true) : opX P n row U p ↔ opX P n row (U ||| 2 ^ (dgN n row p - 1)) (p + 1) := by
  constructor
  · rintro ⟨a, b⟩
    refine ⟨fun q g1 g2 => ?_, fun q r g1 g2 g3 => b q r (by omega) g2 g3⟩
    obtain ⟨c1, c2, c3⟩ := a q (by omega) g2
    have := b p q (Nat.le_refl _) (by omega) g2
    exact ⟨c1, c2, fun z => by rcases tb_or.mp z with z | z; exact c3 z; omega⟩
  · rintro ⟨a, b⟩
    refine ⟨fun q g1 g2 => ?_, fun q r g1 g2 g3 => ?_⟩
    · by_cases hq : q = p
      · subst hq; exact ⟨h1, h2, h3⟩
      · obtain ⟨c1, c2, c3⟩ := a q (by omega) g2
        exact ⟨c1, c2, fun z => c3 (tb_or.mpr (Or.inl z))⟩
    · by_cases hq : q = p
      · subst hq
        obtain ⟨c1, c2, c3⟩ := a r (by omega) g3
        exact fun z => c3 (tb_or.mpr (Or.inr (by omega)))
      · exact b q r (by omega) g2 g3
theorem bitX_n {a i : Nat} (ha : a < 64) (hi : i < 6) : ((nI a >>> (nI i &&& 31)) &&& (1 : Int32)) = nI (if a.testBit i = true then 1 else 0) := bit_n a ha i hi
theorem openX_loop {P : Pa} {w : Wd} {n row : Nat} (hP : okP P) (hX : XP P w) (hn : n ≤ 6) (hr : row < 10 ^ n) : ∀ (k p F U : Nat), n - p = k → k < F → p ≤ n → U < 64 →
    (opX P n row U p → D_X5_isRowOfOpenWeddings_11 w F (nI n) (nI row) (nI U) (nI p) = some 1) ∧ (¬ opX P n row U p → D_X5_isRowOfOpenWeddings_11 w F (nI n) (nI row) (nI U) (nI p) = some 0) := by
  intro k
  have h6 := hP.1
  induction k with
  | zero =>
    intro p F U hk hF hp hU
    obtain ⟨F, rfl⟩ : ∃ M, F = M + 1 := ⟨F - 1, by omega⟩
    have : p = n := by omega
    subst this
    unfold D_X5_isRowOfOpenWeddings_11
    rw [if_pos ((nI_leI (by omega) (by omega)).mpr (Nat.le_refl _))]
    exact ⟨fun _ => rfl, fun z => absurd ⟨fun q g1 g2 => by omega, fun q r g1 g2 g3 => by omega⟩ z⟩
  | succ k ih =>
    intro p F U hk hF hp hU
    obtain ⟨F, rfl⟩ : ∃ M, F = M + 1 := ⟨F - 1, by omega⟩
    unfold D_X5_isRowOfOpenWeddings_11
    rw [if_neg (by rw [nI_leI (by omega) (by omega)]; omega), inRow_n hn hr (by omega), sb]
    rcases dig_cases P (dgN n row p) dgN_lt hP with ⟨i, hi, he, e⟩ | ⟨ho, hd⟩
    · rw [e, has_n hX hP hi, sb, if_neg ne10, bitX_n hU (by omega)]
      have hi1 : dgN n row p - 1 = i := by omega
      by_cases ht : U.testBit i = true
      · rw [if_pos ht, if_neg (by decide)]
        exact ⟨fun z => absurd (z.1 p (Nat.le_refl _) (by omega)).2.2 (by rw [hi1]; exact fun y => y ht), fun _ => rfl⟩
      · rw [if_neg ht, if_pos (by decide), orb_n _ hU _ (by omega), ltd, ltd, n1, nI_add]
        have st := opX_step (P := P) (U := U) (row := row) (show p < n by omega) (by omega) (by omega) (by rw [hi1]; exact ht)
        rw [hi1] at st
        have hU2 : U ||| 2 ^ i < 64 := orb_lt (n := 6) hU (by omega)
        obtain ⟨a, b⟩ := ih (p + 1) F (U ||| 2 ^ i) (by omega) (by omega) (by omega) hU2
        exact ⟨fun z => a (st.mp z), fun z => b (fun y => z (st.mpr y))⟩
    · rw [has_o hX ho, sb, if_pos rfl]
      exact ⟨fun z => by have := z.1 p (Nat.le_refl _) (by omega); omega, fun _ => rfl⟩
def opM (P : Pa) (n row m u : Nat) : Prop := (∀ q, q < n - u → 1 ≤ dgN n row q ∧ dgN n row q ≤ P.1 ∧ m.testBit (dgN n row q - 1) = true) ∧ ∀ q r, q < r → r < n - u → dgN n row q ≠ dgN n row r
def clrN (a i : Nat) : Nat := a &&& (63 ^^^ 2 ^ i)
theorem clr_n : ∀ a, a < 64 → ∀ i, i < 6 → nI a &&& (((1 : Int32) <<< (nI i &&& 31)) ^^^ (-1)) = nI (clrN a i) := by decide +kernel
theorem clr_b : ∀ a, a < 64 → ∀ i, i < 6 → clrN a i < 64 ∧ ∀ j, j < 6 → ((clrN a i).testBit j = true ↔ a.testBit j = true ∧ i ≠ j) := by decide +kernel
theorem opM_step {P : Pa} {n row m u : Nat} (h6 : P.1 ≤ 6) (hm : m < 64) (hu : u < n) (h1 : 1 ≤ dgN n row (n - 1 - u)) (h2 : dgN n row (n - 1 - u) ≤ P.1) (h3 : m.testBit (dgN n row (n - 1 - u) - 1) = true) : opM P n row m u ↔ opM P n row (clrN m (dgN n row (n - 1 - u) - 1)) (u + 1) := by
  obtain ⟨-, cb⟩ := clr_b m hm (dgN n row (n - 1 - u) - 1) (by omega)
  constructor
  · rintro ⟨a, b⟩
    refine ⟨fun q g2 => ?_, fun q r g2 g3 => b q r g2 (by omega)⟩
    obtain ⟨c1, c2, c3⟩ := a q (by omega)
    have := b q (n - 1 - u) (by omega) (by omega)
    exact ⟨c1, c2, (cb _ (by omega)).mpr ⟨c3, by omega⟩⟩
  · rintro ⟨a, b⟩
    refine ⟨fun q g2 => ?_, fun q r g2 g3 => ?_⟩
    · by_cases hq : q = n - 1 - u
      · subst hq; exact ⟨h1, h2, h3⟩
      · obtain ⟨c1, c2, c3⟩ := a q (by omega)
        exact ⟨c1, c2, ((cb _ (by omega)).mp c3).1⟩
    · by_cases hq : r = n - 1 - u
      · subst hq
        obtain ⟨c1, c2, c3⟩ := a q (by omega)
        exact fun z => ((cb _ (by omega)).mp c3).2 (by omega)
      · exact b q r g2 (by omega)
theorem open0 {w : Wd} {n row : Nat} (hn : n ≤ 6) (hr : row < 10 ^ n) : ∀ (k u F : Nat) (x3 : Int32), n - u = k → k < F → u ≤ n → D_X6_areOpen_20 w F (nI n) (nI row) x3 0 (nI u) = some 0 := by
  intro k
  induction k with
  | zero =>
    intro u F x3 hk hF hu
    obtain ⟨F, rfl⟩ : ∃ M, F = M + 1 := ⟨F - 1, by omega⟩
    have : u = n := by omega
    subst this
    unfold D_X6_areOpen_20
    rw [if_pos ((nI_leI (by omega) (by omega)).mpr (Nat.le_refl _))]; rfl
  | succ k ih =>
    intro u F x3 hk hF hu
    obtain ⟨F, rfl⟩ : ∃ M, F = M + 1 := ⟨F - 1, by omega⟩
    have h11 := ten_lt (show u < 7 by omega)
    have hpos : 0 < 10 ^ u := Nat.pow_pos (by decide)
    unfold D_X6_areOpen_20
    rw [if_neg (by rw [nI_leI (by omega) (by omega)]; omega), tenTo_n u (by omega), sb, if_pos (by rw [n0, nI_eq (by omega) (by decide)]; omega), ltd, if_pos rfl]
    unfold D_X6_areOpen_67
    rw [ltd, ltd, n1, nI_add]
    exact ih (u + 1) F _ (by omega) (by omega) (by omega)
theorem digU_n {n row u : Nat} (hn : n ≤ 6) (hr : row < 10 ^ n) (hu : u < n) : (nI row / nI (10 ^ u)) - (nI row / nI (10 ^ u)) / (10 : Int32) * (10 : Int32) = nI (dgN n row (n - 1 - u)) := by
  have := dig_n (p := n - 1 - u) hn hr
  rw [show n - 1 - (n - 1 - u) = u by omega] at this
  exact this
theorem openM_loop {P : Pa} {w : Wd} {n row : Nat} (hP : okP P) (hM : MP P w) (hn : n ≤ 6) (hr : row < 10 ^ n) : ∀ (k u F m : Nat), n - u = k → k < F → u ≤ n → m < 64 →
    (opM P n row m u → D_X6_areOpen_20 w F (nI n) (nI row) (nI m) 1 (nI u) = some 1) ∧ (¬ opM P n row m u → D_X6_areOpen_20 w F (nI n) (nI row) (nI m) 1 (nI u) = some 0) := by
  intro k
  have h6 := hP.1
  induction k with
  | zero =>
    intro u F m hk hF hu hm
    obtain ⟨F, rfl⟩ : ∃ M, F = M + 1 := ⟨F - 1, by omega⟩
    have : u = n := by omega
    subst this
    unfold D_X6_areOpen_20
    rw [if_pos ((nI_leI (by omega) (by omega)).mpr (Nat.le_refl _))]
    exact ⟨fun _ => rfl, fun z => absurd ⟨fun q g2 => by omega, fun q r g2 g3 => by omega⟩ z⟩
  | succ k ih =>
    intro u F m hk hF hu hm
    obtain ⟨F, rfl⟩ : ∃ M, F = M + 1 := ⟨F - 1, by omega⟩
    have h11 := ten_lt (show u < 7 by omega)
    have hpos : 0 < 10 ^ u := Nat.pow_pos (by decide)
    have bad : ∀ x3 x6, D_X6_areOpen_67 w (fun y0 y1 y2 y3 y4 => D_X6_areOpen_20 w F y0 y1 y2 y3 y4) (nI n) (nI row) x3 (nI u) x6 = some 0 := fun x3 x6 => by
      unfold D_X6_areOpen_67
      rw [ltd, ltd, n1, nI_add]
      exact open0 hn hr (n - (u + 1)) (u + 1) F _ rfl (by omega) (by omega)
    unfold D_X6_areOpen_20
    rw [if_neg (by rw [nI_leI (by omega) (by omega)]; omega), tenTo_n u (by omega), sb, if_pos (by rw [n0, nI_eq (by omega) (by decide)]; omega), digU_n hn hr (by omega), ltd, if_neg ne10]
    rcases dig_cases P (dgN n row (n - 1 - u)) dgN_lt hP with ⟨i, hi, he, e⟩ | ⟨ho, hd⟩
    · rw [e, isWeddingM_n hP hM hi, sb, if_neg ne10, hasM_n _ hm _ (by omega), sb]
      have hi1 : dgN n row (n - 1 - u) - 1 = i := by omega
      by_cases ht : m.testBit i = true
      · rw [if_pos ht, if_neg (by decide), clr_n _ hm _ (by omega), ltd, ltd, show nI u + (1 : Int32) = nI (u + 1) from nI_add ..]
        have st := opM_step (P := P) (row := row) h6 hm (show u < n by omega) (by omega) (by omega) (by rw [hi1]; exact ht)
        rw [hi1] at st
        obtain ⟨a, b⟩ := ih (u + 1) F (clrN m i) (by omega) (by omega) (by omega) (clr_b m hm i (by omega)).1
        exact ⟨fun z => a (st.mp z), fun z => b (fun y => z (st.mpr y))⟩
      · rw [if_neg ht, if_pos (by decide), bad]
        exact ⟨fun z => absurd (z.1 (n - 1 - u) (by omega)).2.2 (by rw [hi1]; exact ht), fun _ => rfl⟩
    · rw [isWeddingM_o hP hM ho, sb, if_pos rfl, bad]
      exact ⟨fun z => by have := z.1 (n - 1 - u) (by omega); omega, fun _ => rfl⟩
def mskN (n wd : Nat) : Nat := (2 ^ n - 1) &&& (63 ^^^ wd)
theorem msk_n : ∀ n, n ≤ 6 → ∀ wd, wd < 64 → nI (2 ^ n - 1) &&& (nI wd ^^^ (-1)) = nI (mskN n wd) := by decide +kernel
theorem msk_b : ∀ n, n ≤ 6 → ∀ wd, wd < 64 → mskN n wd < 64 ∧ ∀ j, j < 6 → ((mskN n wd).testBit j = true ↔ j < n ∧ ¬ wd.testBit j = true) := by decide +kernel
theorem opX_opM {P : Pa} {n row wd : Nat} (h6 : P.1 ≤ 6) (hwd : wd < 64) : opX P n row wd 0 ↔ opM P n row (mskN P.1 wd) 0 := by
  obtain ⟨-, mb⟩ := msk_b P.1 h6 wd hwd
  constructor
  · rintro ⟨a, b⟩
    refine ⟨fun q g => ?_, fun q r g1 g2 => b q r (Nat.zero_le _) g1 g2⟩
    obtain ⟨c1, c2, c3⟩ := a q (Nat.zero_le _) g
    exact ⟨c1, c2, (mb _ (by omega)).mpr ⟨by omega, c3⟩⟩
  · rintro ⟨a, b⟩
    refine ⟨fun q _ g => ?_, fun q r _ g1 g2 => b q r g1 g2⟩
    obtain ⟨c1, c2, c3⟩ := a q g
    exact ⟨c1, c2, ((mb _ (by omega)).mp c3).2⟩
theorem openX_n {P : Pa} {B n row : Nat} {N : Sd} {w : Wd} (hP : okP P) (hX : XP P w) (hs : okS P.1 B N) (hx : XS1 0 N w) (hn : n ≤ 6) (hr : row < 10 ^ n) : (opX P n row N.2.2.1 0 → D_X5_isRowOfOpenWeddings w (nI n) (nI row) = some 1) ∧ (¬ opX P n row N.2.2.1 0 → D_X5_isRowOfOpenWeddings w (nI n) (nI row) = some 0) := by
  unfold D_X5_isRowOfOpenWeddings
  rw [hx.2.2.1, ltd]
  exact openX_loop hP hX hn hr n 0 fuelZ N.2.2.1 rfl (by unfold fuelZ; omega) (Nat.zero_le _) (pow_le64 hP.1 hs.2.2.1)
theorem openM_n {P : Pa} {B n row : Nat} {N : Sd} {w : Wd} (hP : okP P) (hM : MP P w) (hs : okS P.1 B N) (hm : ML 0 N w) (hn : n ≤ 6) (hr : row < 10 ^ n) : (opX P n row N.2.2.1 0 → D_X6_areOpen w (nI n) (nI row) = some 1) ∧ (¬ opX P n row N.2.2.1 0 → D_X6_areOpen w (nI n) (nI row) = some 0) := by
  have hwd := pow_le64 hP.1 hs.2.2.1
  unfold D_X6_areOpen
  rw [everyM_n hP hM, sb, show w.1 25 0 2 = nI N.2.2.1 from hm.2.2.1, msk_n _ hP.1 _ hwd, ltd, opX_opM hP.1 hwd]
  exact openM_loop hP hM hn hr n 0 fuelZ _ rfl (by unfold fuelZ; omega) (Nat.zero_le _) (msk_b _ hP.1 _ hwd).1
