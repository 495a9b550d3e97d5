/-! rows: the reference's answer -/
def cbN (m : Nat) : Nat → Nat
  | 0 => 0
  | e + 1 => cbN m e + (if m.testBit e = true then 1 else 0)
def pkO (m a : Nat) : Nat → Option Nat
  | 0 => none
  | e + 1 => if m.testBit e = true ∧ cbN m e = a then some e else pkO m a e
theorem cbN_le (m : Nat) : ∀ e, cbN m e ≤ e
  | 0 => Nat.le_refl _
  | e + 1 => by
    have := cbN_le m e
    unfold cbN
    split <;> omega
theorem pick_all : ∀ n, n ≤ 6 → ∀ wd, wd < 64 → ∀ a, a < cnt6 (mskN n wd) → pkO (mskN n wd) a n = some ((bitsL n (mskN n wd)).getD a 0) ∧ (bitsL n (mskN n wd)).getD a 0 < n := by decide +kernel
theorem clr_msk : ∀ n, n ≤ 6 → ∀ wd, wd < 64 → ∀ i, i < n → clrN (mskN n wd) i = mskN n (wd ||| 2 ^ i) := by decide +kernel
theorem rowsOfM_n : ∀ m, m < 7 → ∀ k, k < 7 → D_X6_rowsOf (nI m) (nI k) = some (nI (rwN m k)) := by decide +kernel
theorem sub_z : ∀ a, a < 7 → ∀ c, c < 7 → (nI a - nI c = 0 ↔ c = a) := by decide +kernel
theorem sub_s : ∀ a, a < 7 → ∀ c, c < 7 → nI a - nI c - (1 : Int32) = nI a - nI (c + 1) := by decide +kernel
theorem sub_0 : ∀ a, a < 7 → ∀ c, c < 7 → nI a - nI c - (0 : Int32) = nI a - nI c := by decide +kernel
theorem by90 {k40 : Int32 → Int32 → Int32 → Int32 → Int32 → Int32 → Int32 → Wd → Option (Int32 × Wd)} {w : Wd} {m a n : Nat} {x2 x4 x5 x6 x8 : Int32} (hm : m < 64) (ha : a < 7) (hn : n ≤ 6) (hw : w.1 6 0 0 = nI n) : ∀ (c e F : Nat), n - e = c → c < F → e ≤ n →
    ∃ F', D_X6_rowBy_90 k40 F x2 (nI m) x4 x5 x6 x8 (nI a - nI (cbN m e)) (enc (pkO m a e)) (nI e) w = D_X6_rowBy_90 k40 (F' + 1) x2 (nI m) x4 x5 x6 x8 (nI a - nI (cbN m n)) (enc (pkO m a n)) (nI n) w := by
  intro c
  induction c with
  | zero =>
    intro e F hc hF he
    obtain ⟨F, rfl⟩ : ∃ G, F = G + 1 := ⟨F - 1, by omega⟩
    have : e = n := by omega
    subst this
    exact ⟨F, rfl⟩
  | succ c ih =>
    intro e F hc hF he
    obtain ⟨F, rfl⟩ : ∃ G, F = G + 1 := ⟨F - 1, by omega⟩
    have hcb := cbN_le m e
    have hh := hasM_n m hm e (by omega)
    obtain ⟨F', h⟩ := ih (e + 1) F (by omega) (by omega) (by omega)
    have e1 : nI e + (1 : Int32) = nI (e + 1) := by rw [n1, nI_add]
    refine ⟨F', ?_⟩
    rw [← h, D_X6_rowBy_90, hw, if_neg (by rw [nI_leI (by omega) (by omega)]; omega), hh]
    by_cases hb : m.testBit e = true
    · have k1 : cbN m (e + 1) = cbN m e + 1 := by show cbN m e + (if m.testBit e = true then 1 else 0) = _; rw [if_pos hb]
      rw [if_pos hb, sb, if_neg (show ¬ nI 1 = 0 by decide), k1, ← sub_s a ha _ (by omega)]
      by_cases hz : cbN m e = a
      · have k2 : pkO m a (e + 1) = some e := by show (if m.testBit e = true ∧ cbN m e = a then some e else pkO m a e) = _; rw [if_pos ⟨hb, hz⟩]
        rw [if_pos ((sub_z a ha _ (by omega)).mpr hz), sb, if_neg (show ¬ nI 1 = 0 by decide), ltd, ltd, e1, k2]
        rfl
      · have k2 : pkO m a (e + 1) = pkO m a e := by show (if m.testBit e = true ∧ cbN m e = a then some e else pkO m a e) = _; rw [if_neg (fun z => hz z.2)]
        rw [if_neg (fun z => hz ((sub_z a ha _ (by omega)).mp z)), sb, if_neg (show ¬ nI 1 = 0 by decide), ltd, ltd, e1, k2]
    · have k1 : cbN m (e + 1) = cbN m e := by show cbN m e + (if m.testBit e = true then 1 else 0) = _; rw [if_neg hb]; rfl
      have k2 : pkO m a (e + 1) = pkO m a e := by show (if m.testBit e = true ∧ cbN m e = a then some e else pkO m a e) = _; rw [if_neg (fun z => hb z.1)]
      rw [if_neg hb, sb, if_pos (show nI 0 = 0 from rfl), sb, if_pos (show nI 0 = 0 from rfl), ltd, ltd, e1, k1, k2, sub_0 a ha _ (by omega)]
theorem isSeen_loop {V : Nat → Nat × Nat} {nv d c : Nat} {w : Wd} (hv : VIi V nv w) (hd : d ≤ 6) (hc : w.1 25 0 9 = nI c) (hc5 : c ≤ 5) : ∀ (n i F : Nat), nv - i = n → n < F → i ≤ nv → D_X6_isSeen_4 w F (nI d) (if (amV V i d).testBit c = true then 1 else 0) (nI i) = some (if (amV V nv d).testBit c = true then 1 else 0) := by
  intro n
  obtain ⟨v1, v2, v3, v4⟩ := hv
  induction n with
  | zero =>
    intro i F hn hF hi
    obtain ⟨F, rfl⟩ : ∃ G, F = G + 1 := ⟨F - 1, by omega⟩
    have : i = nv := by omega
    subst this
    rw [D_X6_isSeen_4, v3, if_pos ((nI_leI (by omega) (by omega)).mpr (Nat.le_refl _)), if_pos]
    split
    · exact Or.inr rfl
    · exact Or.inl rfl
  | succ n ih =>
    intro i F hn hF hi
    obtain ⟨F, rfl⟩ : ∃ G, F = G + 1 := ⟨F - 1, by omega⟩
    obtain ⟨c1, c2, c3, c4, c5, c6⟩ := v4 i (by omega)
    have IH := ih (i + 1) F (by omega) (by omega) (by omega)
    have e1 : nI i + (1 : Int32) = nI (i + 1) := by rw [n1, nI_add]
    have ea : amV V (i + 1) d = if (V i).1 = d then amV V i d &&& 2 ^ (V i).2 else amV V i d := rfl
    have hin : inB (nI i) 6 := (inB_n (by omega)).mpr (by omega)
    have hcl : (nI i).toNatClampNeg = i := nI_clamp (by omega)
    rw [D_X6_isSeen_4, v3, if_neg (by rw [nI_leI (by omega) (by omega)]; omega)]
    by_cases hb : (amV V i d).testBit c = true
    · rw [if_pos hb, if_neg ne10, if_pos hin]
      simp only [hcl, c5, c6, hc]
      by_cases hd1 : (V i).1 = d
      · rw [if_pos (by rw [hd1]), if_pos hin]
        rw [if_pos hd1] at ea
        have et : (amV V (i + 1) d).testBit c = decide ((V i).2 = c) := by
          rw [ea, Nat.testBit_and, hb, Bool.true_and, Nat.testBit_two_pow]
        by_cases he : (V i).2 = c
        · rw [if_pos (by rw [he]), ltd, e1]
          rw [et, if_pos (by simp [he])] at IH
          exact IH
        · rw [if_neg (fun z => he ((nI_eq (by omega) (by omega)).mp z).symm), ltd, e1]
          rw [et, if_neg (by simp [he])] at IH
          exact IH
      · rw [if_neg (fun z => hd1 ((nI_eq (by omega) (by omega)).mp z)), ltd, e1]
        rw [if_neg hd1] at ea
        rw [ea, if_pos hb] at IH
        exact IH
    · have et : ¬ (amV V (i + 1) d).testBit c = true := by
        rw [ea]
        split
        · rw [Nat.testBit_and]
          intro z
          rw [Bool.and_eq_true] at z
          exact hb z.1
        · exact hb
      rw [if_neg hb, if_pos rfl, ltd, e1]
      rw [if_neg et] at IH
      exact IH
theorem isSeen_n {P : Pa} {V : Nat → Nat × Nat} {nv d B : Nat} {s : Sd} {w : Wd} (hv : VIi V nv w) (hd : d ≤ 6) (hm : ML 1 s w) (hs : okS P.1 B s) : D_X6_isSeen w (nI d) = some (if ALs V nv d s.2.1 = true then 1 else 0) := by
  have h9 : w.1 25 0 9 = nI s.2.1 := hm.2.1
  have hv6 := hv.1
  have := isSeen_loop hv hd h9 hs.2.1 nv 0 fuelZ rfl (by unfold fuelZ; omega) (Nat.zero_le _)
  rw [show amV V 0 d = 63 from rfl, if_pos (b63 _ hs.2.1)] at this
  exact this
theorem by40_0 {F : Nat} {x2 x3 x4 x5 x6 x8 : Int32} {w : Wd} (hF : 0 < F) : D_X6_rowBy_40 F x2 x3 x4 x5 x6 0 x8 w = some (-9, w) := by
  obtain ⟨F, rfl⟩ : ∃ G, F = G + 1 := ⟨F - 1, by omega⟩
  rw [D_X6_rowBy_40]
  simp
theorem rbF_lt {P : Pa} {al : Nat → Nat → Bool} (hP : okP P) : ∀ (k d : Nat) (s : Sd) (q x a : Nat), q < 64 → rbF P al k d s q x = some a → a < 64
  | 0, d, s, q, x, a, hq, h => by cases h; exact hq
  | k + 1, d, s, q, x, a, hq, h => by
    unfold rbF at h
    split at h
    · cases h
    · rename_i s' hw
      split at h
      · have hi := (wedS_some hw).1
        have h6 := hP.1
        exact rbF_lt hP k (d + 1) s' _ _ a (orb_lt (n := 6) hq (by omega)) h
      · cases h
theorem by40 {P : Pa} {B nv n many : Nat} {V : Nat → Nat × Nat} (hP : okP P) (hB : 10 ≤ B ∧ B < 2 ^ 28) (hnm : n ≤ many) (hmany : many ≤ 6) : ∀ (kk k F : Nat) (s : Sd) (x q : Nat) (w : Wd), n - k = kk → kk < F → k ≤ n → MP P w → VIi V nv w → okS P.1 B s → ML 1 s w → cnt6 (lfN P s) + k = many → x < rwN (cnt6 (lfN P s)) kk → q < 64 →
    ∃ w', D_X6_rowBy_40 F (nI n) (nI (lfN P s)) (nI many) (nI x) (nI q) 1 (nI k) w = some (enc (rbF P (ALs V nv) kk k s q x), w') ∧ OffM w w' := by
  intro kk
  have h6 := hP.1
  induction kk with
  | zero =>
    intro k F s x q w hk hF hkn hM hv hs hm hc hx hq
    obtain ⟨F, rfl⟩ : ∃ G, F = G + 1 := ⟨F - 1, by omega⟩
    rw [D_X6_rowBy_40, if_pos ((nI_leI (by omega) (by omega)).mpr (by omega)), if_neg ne10]
    exact ⟨w, rfl, OffM.rf⟩
  | succ kk ih =>
    intro k F s x q w hk hF hkn hM hv hs hm hc hx hq
    obtain ⟨F, rfl⟩ : ∃ G, F = G + 1 := ⟨F - 1, by omega⟩
    have hwd := pow_le64 h6 hs.2.2.1
    have hlt : lfN P s < 64 := (msk_b P.1 h6 s.2.2.1 hwd).1
    have e1 : (nI many - (1 : Int32)) - nI k = nI (cnt6 (lfN P s) - 1) := by
      rw [n1, pk_sub (by omega), pk_sub (by omega)]
      congr 1; omega
    have e2 : (nI n - (1 : Int32)) - nI k = nI kk := by
      rw [n1, pk_sub (by omega), pk_sub (by omega)]
      congr 1; omega
    have hro := rowsOfM_n (cnt6 (lfN P s) - 1) (by omega) kk (by omega)
    have hU0 := (rw_pos (cnt6 (lfN P s) - 1) (by omega) kk (by omega)).mp (by omega)
    have hUle := rw_le (cnt6 (lfN P s) - 1) (by omega) kk (by omega)
    have hxle := rw_le (cnt6 (lfN P s)) (by omega) (kk + 1) (by omega)
    have hrw : rwN (cnt6 (lfN P s)) (kk + 1) = cnt6 (lfN P s) * rwN (cnt6 (lfN P s) - 1) kk := rfl
    have hrb : rbF P (ALs V nv) (kk + 1) k s q x = match wedS P s (bitN P s (x / rwN (cnt6 (lfN P s) - 1) kk)) with
      | none => none
      | some s' => if ALs V nv (k + 1) s'.2.1 = true then rbF P (ALs V nv) kk (k + 1) s' (q ||| 2 ^ bitN P s (x / rwN (cnt6 (lfN P s) - 1) kk)) (x % rwN (cnt6 (lfN P s) - 1) kk) else none := rfl
    rw [hrb]
    rw [D_X6_rowBy_40, if_neg (by rw [nI_leI (by omega) (by omega)]; omega), if_neg ne10, e1, e2, hro, sb]
    generalize hUe : rwN (cnt6 (lfN P s) - 1) kk = U at *
    have ha : x / U < cnt6 (lfN P s) := (Nat.div_lt_iff_lt_mul hU0).mpr (by rw [← hrw]; exact hx)
    have hUn : ¬ nI U = 0 := by rw [n0, nI_eq (by omega) (by decide)]; omega
    have ediv : nI x / nI U = nI (x / U) := pk_div (by omega) hU0 (by omega)
    have emod : nI x - nI (x / U) * nI U = nI (x % U) := by
      rw [pk_mul, pk_sub (by exact Nat.div_mul_le_self x U)]
      congr 1
      have := Nat.div_add_mod x U
      rw [Nat.mul_comm] at this
      omega
    rw [if_pos hUn, ltd, if_pos hUn, ltd, ediv, emod]
    obtain ⟨p1, p2⟩ := pick_all P.1 h6 s.2.2.1 hwd (x / U) ha
    obtain ⟨F', h90⟩ := by90 (k40 := fun y0 y1 y2 y3 y4 y5 y6 wy => D_X6_rowBy_40 F y0 y1 y2 y3 y4 y5 y6 wy) (w := w) (m := lfN P s) (a := x / U) (n := P.1) (x2 := nI n) (x4 := nI many) (x5 := nI (x % U)) (x6 := nI q) (x8 := nI k) hlt (by omega) h6 hM.1 P.1 0 fuelZ rfl (by unfold fuelZ; omega) (Nat.zero_le _)
    have h90' : D_X6_rowBy_90 (fun y0 y1 y2 y3 y4 y5 y6 wy => D_X6_rowBy_40 F y0 y1 y2 y3 y4 y5 y6 wy) fuelZ (nI n) (nI (lfN P s)) (nI many) (nI (x % U)) (nI q) (nI k) (nI (x / U)) (-9) 0 w = D_X6_rowBy_90 (fun y0 y1 y2 y3 y4 y5 y6 wy => D_X6_rowBy_40 F y0 y1 y2 y3 y4 y5 y6 wy) (F' + 1) (nI n) (nI (lfN P s)) (nI many) (nI (x % U)) (nI q) (nI k) (nI (x / U) - nI (cbN (lfN P s) P.1)) (enc (pkO (lfN P s) (x / U) P.1)) (nI P.1) w := by
      rw [← h90, show cbN (lfN P s) 0 = 0 from rfl, show nI (x / U) - nI 0 = nI (x / U) from Int32.sub_zero _]
      rfl
    have p1' : pkO (lfN P s) (x / U) P.1 = some (bitN P s (x / U)) := p1
    have p2' : bitN P s (x / U) < P.1 := p2
    generalize bitN P s (x / U) = i at *
    rw [h90', p1', show enc (some i) = nI i from rfl, D_X6_rowBy_90, hM.1, if_pos ((nI_leI (by omega) (by omega)).mpr (Nat.le_refl _)), clr_n _ hlt i (by omega), orb_n _ hq i (by omega), ltd, ltd]
    have hq2 : q ||| 2 ^ i < 64 := orb_lt (n := 6) hq (by omega)
    rcases wedOn_n (l := 1) hP hM (by omega) hm hs hB.2 p2' with ⟨z1, z2⟩ | ⟨s', w1, z1, z2, z3, z4, z5⟩
    · have z2' : D_X6_wedOn w 1 (nI i) = some (0, w) := z2
      rw [z2', sb, if_pos rfl, ltd, by40_0 (by omega), z1]
      exact ⟨w, rfl, OffM.rf⟩
    · have z2' : D_X6_wedOn w 1 (nI i) = some (1, w1) := z2
      have o1 : OffM w w1 := ⟨fun k j hk => by rw [z4.1 k j (by simpa using hk)], fun j hj => z5 j (Or.inl (by omega)), z4.2⟩
      have s1 := Sm.offM o1
      obtain ⟨g1, g2, b, g3, g4⟩ := wedS_some z1
      have hs' := wedS_ok hP hs hB.1 z1
      have hwe : s'.2.2.1 = s.2.2.1 ||| 2 ^ i := by rw [g4]
      have hcn : cnt6 (lfN P s') = cnt6 (lfN P s) - 1 := by
        unfold lfN
        rw [hwe]
        exact cnt_less P.1 h6 _ hwd _ g1 (by simpa using g2)
      have hcl : clrN (lfN P s) i = lfN P s' := by
        unfold lfN
        rw [hwe]
        exact clr_msk P.1 h6 _ hwd _ g1
      have hse : D_X6_isSeen w1 (nI (k + 1)) = some (if ALs V nv (k + 1) s'.2.1 = true then 1 else 0) := isSeen_n (hv.same s1) (by omega) z3 hs'
      rw [z2', sb, if_neg ne10, n1, nI_add, hse, sb, z1]
      dsimp only
      by_cases hal : ALs V nv (k + 1) s'.2.1 = true
      · rw [if_pos hal, if_pos hal, if_neg ne10, ltd, hcl]
        obtain ⟨w2, a1, a2⟩ := ih (k + 1) F s' (x % U) (q ||| 2 ^ i) w1 (by omega) (by omega) (by omega) (hM.same s1) (hv.same s1) hs' z3 (by omega) (by rw [hcn, hUe]; exact Nat.mod_lt _ hU0) hq2
        exact ⟨w2, a1, o1.tr a2⟩
      · rw [if_neg hal, if_neg hal, if_pos rfl, ltd, by40_0 (by omega)]
        exact ⟨w1, rfl, o1⟩
