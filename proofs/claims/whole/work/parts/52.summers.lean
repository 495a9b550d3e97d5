/-! summers -/
def u33 (v : Int64) : Int64 := (Int64.toUInt64 v >>> (Int64.toUInt64 (Int32.toInt64 (33 : Int32)) &&& Int64.toUInt64 63)).toInt64
theorem u33_n (v : Int64) : ∃ m, m < 2 ^ 31 ∧ u33 v = Int64.ofNat m := by
  have h33 : (Int64.toUInt64 (Int32.toInt64 (33 : Int32)) &&& Int64.toUInt64 63) = 33 := by decide
  refine ⟨(Int64.toUInt64 v >>> (33 : UInt64)).toNat, ?_, ?_⟩
  · rw [UInt64.toNat_shiftRight]
    have := (Int64.toUInt64 v).toNat_lt
    rw [show ((33 : UInt64).toNat % 64) = 33 by decide, Nat.shiftRight_eq_div_pow]
    omega
  · unfold u33
    rw [h33]
    apply Int64.toBitVec_inj.mp
    apply BitVec.eq_of_toNat_eq
    show (Int64.toUInt64 v >>> (33 : UInt64)).toNat = (BitVec.ofNat 64 (Int64.toUInt64 v >>> (33 : UInt64)).toNat).toNat
    rw [BitVec.toNat_ofNat, Nat.mod_eq_of_lt (Int64.toUInt64 v >>> (33 : UInt64)).toNat_lt]
theorem l_toInt {m : Nat} (hm : m < 2 ^ 62) : (Int64.ofNat m).toInt = m := by
  rw [Int64.toInt_ofNat_of_lt (by omega)]
theorem i32_of {x : Int64} {m : Nat} (hm : m < 2 ^ 31) (h : x.toInt = m) : Int64.toInt32 x = nI m := by
  apply Int32.toInt_inj.mp
  rw [Int64.toInt_toInt32, h, nI_toInt hm]
  exact Int.bmod_eq_of_le (by omega) (by omega)
theorem and7_n (m : Nat) (hm : m < 2 ^ 31) : nI m &&& (7 : Int32) = nI (m % 8) := by
  apply Int32.toBitVec_inj.mp
  apply BitVec.eq_of_toNat_eq
  show (BitVec.ofNat 32 m &&& 7#32).toNat = (BitVec.ofNat 32 (m % 8)).toNat
  rw [BitVec.toNat_and, BitVec.toNat_ofNat, BitVec.toNat_ofNat, BitVec.toNat_ofNat, Nat.mod_eq_of_lt (show m < 2 ^ 32 by omega), Nat.mod_eq_of_lt (show m % 8 < 2 ^ 32 by omega)]
  exact Nat.and_two_pow_sub_one_eq_mod m 3
theorem evX_n {m : Nat} (hm : m < 2 ^ 31) : Int64.toInt32 (Int64.ofNat m) &&& (7 : Int32) = nI (m % 8) := by
  rw [i32_of hm (l_toInt (by omega)), and7_n m hm]
theorem evM_n {m : Nat} (hm : m < 2 ^ 31) : Int64.toInt32 (Int64.ofNat m - Int64.ofNat m / (8 : Int64) * (8 : Int64)) = nI (m % 8) := by
  have h8 : (8 : Int64).toInt = 8 := by decide
  have h1 : (Int64.ofNat m / (8 : Int64)).toInt = ((m / 8 : Nat) : Int) := by
    rw [Int64.toInt_div, l_toInt (by omega), h8]
    rw [show ((m : Int).tdiv 8) = ((m / 8 : Nat) : Int) from rfl]
    exact Int.bmod_eq_of_le (by omega) (by omega)
  have h2 : (Int64.ofNat m / (8 : Int64) * (8 : Int64)).toInt = ((m / 8 * 8 : Nat) : Int) := by
    rw [Int64.toInt_mul, h1, h8]
    exact (Int.bmod_eq_of_le (by omega) (by omega)).trans (by omega)
  refine i32_of (by omega) ?_
  rw [Int64.toInt_sub, h2, l_toInt (by omega)]
  exact (Int.bmod_eq_of_le (by omega) (by omega)).trans (by omega)
def nxV (v : Int64) : Int64 := v * (6364136223846793005 : Int64) + (1442695040888963407 : Int64)
theorem ev_n (v : Int64) : ∃ e, e < 8 ∧ Int64.toInt32 (u33 v) &&& (7 : Int32) = nI e ∧ Int64.toInt32 (u33 v - u33 v / (8 : Int64) * (8 : Int64)) = nI e := by
  obtain ⟨m, hm, he⟩ := u33_n v
  rw [he]
  exact ⟨m % 8, by omega, evX_n hm, evM_n hm⟩
noncomputable def evV (v : Int64) : Nat := Classical.choose (ev_n v)
theorem evV_n (v : Int64) : evV v < 8 ∧ Int64.toInt32 (u33 v) &&& (7 : Int32) = nI (evV v) ∧ Int64.toInt32 (u33 v - u33 v / (8 : Int64) * (8 : Int64)) = nI (evV v) := Classical.choose_spec (ev_n v)
/-- one event of a summer -/
noncomputable def sumE (P : Pa) (e : Nat) (s : Sd) : Nat × Sd := if e = 6 then (0, (s.1 + 1, s.2)) else if e = 7 then (0, (0, s.2.1, 0, s.2.2.2)) else match wedS P s e with
  | none => (0, s)
  | some s' => (1, s')
noncomputable def sumS (P : Pa) : Nat → Int64 → Nat → Sd → Nat × Int64
  | 0, v, n, _ => (n, v)
  | k + 1, v, n, s => sumS P k (nxV v) (n + (sumE P (evV (nxV v)) s).1) (sumE P (evV (nxV v)) s).2
theorem sumE_ok {P : Pa} {B e : Nat} {s : Sd} (hP : okP P) (hs : okS P.1 B s) (hB : 10 ≤ B) : okS P.1 (B + 1) (sumE P e s).2 ∧ (sumE P e s).1 ≤ 1 := by
  have h1 := hs.1
  unfold sumE
  split
  · exact ⟨⟨by show s.1 + 1 ≤ _; omega, hs.2⟩, by omega⟩
  · split
    · exact ⟨⟨by show 0 ≤ _; omega, hs.2.1, Nat.pow_pos (by decide), hs.2.2.2⟩, by omega⟩
    · split
      · exact ⟨hs.mono (by omega), by omega⟩
      · rename_i s' h
        exact ⟨(wedS_ok hP hs hB h).mono (by omega), by omega⟩
theorem summersX_loop {P : Pa} {B m : Nat} (hP : okP P) (hB : 10 ≤ B ∧ B < 2 ^ 27) (hm : m ≤ 30) : ∀ (k i N n : Nat) (s : Sd) (w : Wd), m - i = k → k < N → i ≤ m → n ≤ i → XP P w → okS P.1 (B + i) s → XS1 1 s w →
    ∃ w', D_X5_summers_29 N (nI m) (nI n) (nI i) w = some (nI (sumS P k (w.2 5) n s).1, w') ∧ (∀ k' i', (k', i') ≠ (3, 1) → w'.1 k' i' = w.1 k' i') ∧ w'.2 5 = (sumS P k (w.2 5) n s).2 ∧ w'.2 6 = w.2 6 := by
  intro k
  induction k with
  | zero =>
    intro i N n s w hk hN hi hn hX hs hx
    obtain ⟨N, rfl⟩ : ∃ M, N = M + 1 := ⟨N - 1, by omega⟩
    have : i = m := by omega
    subst this
    unfold D_X5_summers_29 sumS
    rw [if_pos ((nI_leI (by omega) (by omega)).mpr (Nat.le_refl _))]
    exact ⟨w, rfl, fun _ _ _ => rfl, rfl, rfl⟩
  | succ k ih =>
    intro i N n s w hk hN hi hn hX hs hx
    obtain ⟨N, rfl⟩ : ∃ M, N = M + 1 := ⟨N - 1, by omega⟩
    obtain ⟨e1, e2, -⟩ := evV_n (nxV (w.2 5))
    obtain ⟨q1, q2⟩ := sumE_ok (e := evV (nxV (w.2 5))) hP hs (by omega)
    have es := hs.1
    unfold D_X5_summers_29 sumS
    rw [if_neg (by rw [nI_leI (by omega) (by omega)]; omega), ltd]
    have ew : (wL w 5 ((w.2 5) * (6364136223846793005 : Int64) + (1442695040888963407 : Int64))).2 5 = nxV (w.2 5) := rfl
    have e2' : Int64.toInt32 ((Int64.toUInt64 (nxV (w.2 5)) >>> (Int64.toUInt64 (Int32.toInt64 (33 : Int32)) &&& Int64.toUInt64 63)).toInt64) &&& (7 : Int32) = nI (evV (nxV (w.2 5))) := e2
    rw [ew, e2', ltd]
    generalize hw1 : wL w 5 ((w.2 5) * (6364136223846793005 : Int64) + (1442695040888963407 : Int64)) = w1
    have f1 : w1.1 = w.1 := by rw [← hw1]; rfl
    have f5 : w1.2 5 = nxV (w.2 5) := by rw [← hw1]; rfl
    have f6 : w1.2 6 = w.2 6 := by rw [← hw1]; rfl
    have hX1 : XP P w1 := by unfold XP; rw [f1]; exact hX
    have hx1 : XS1 1 s w1 := by unfold XS1; rw [f1]; exact hx
    have step : ∀ (w2 : Wd) (a : Nat), a ≤ 1 → (sumE P (evV (nxV (w.2 5))) s).1 = a → XS1 1 (sumE P (evV (nxV (w.2 5))) s).2 w2 → Off [(3, 1)] w1 w2 → ∃ w', D_X5_summers_29 N (nI m) (nI (n + a)) (nI (i + 1)) w2 = some (nI (sumS P k (nxV (w.2 5)) (n + (sumE P (evV (nxV (w.2 5))) s).1) (sumE P (evV (nxV (w.2 5))) s).2).1, w') ∧ (∀ k' i', (k', i') ≠ (3, 1) → w'.1 k' i' = w.1 k' i') ∧ w'.2 5 = (sumS P k (nxV (w.2 5)) (n + (sumE P (evV (nxV (w.2 5))) s).1) (sumE P (evV (nxV (w.2 5))) s).2).2 ∧ w'.2 6 = w.2 6 := by
      intro w2 a ha he hx2 o
      have g5 : w2.2 5 = nxV (w.2 5) := by rw [o.2]; exact f5
      obtain ⟨w', a1, a2, a3, a4⟩ := ih (i + 1) N (n + a) (sumE P (evV (nxV (w.2 5))) s).2 w2 (by omega) (by omega) (by omega) (by omega) (hX1.off o (by decide) (by decide) (by decide)) q1 hx2
      rw [g5] at a1 a3
      rw [he]
      exact ⟨w', a1, fun k' i' h => (a2 k' i' h).trans ((o.1 k' i' (by simpa using h)).trans (by rw [f1])), a3, a4.trans (by rw [o.2]; exact f6)⟩
    generalize evV (nxV (w.2 5)) = e at *
    by_cases h6 : 6 ≤ e
    · rw [if_pos (show (6 : Int32) ≤ nI e from (nI_leI (a := 6) (by decide) (by omega)).mpr h6)]
      by_cases h66 : e = 6
      · subst h66
        have hE : sumE P 6 s = (0, (s.1 + 1, s.2)) := by unfold sumE; rw [if_pos rfl]
        rw [if_pos (by decide), hx1.1, n1, nI_add, ltd, ltd, nI_add]
        refine step _ 0 (by omega) (by rw [hE]) (by
          rw [hE]
          refine ⟨wS_at, ?_, ?_, fun r hr => ?_⟩
          · rw [wS_ne (by decide)]; exact hx1.2.1
          · rw [wS_ne (by decide)]; exact hx1.2.2.1
          · rw [wS_off (by simp)]; exact hx1.2.2.2 r hr) Off.wS
      · have h7 : e = 7 := by omega
        subst h7
        have hE : sumE P 7 s = (0, (0, s.2.1, 0, s.2.2.2)) := by unfold sumE; rw [if_neg (by decide), if_pos rfl]
        rw [if_neg (by decide), ltd, ltd, ltd, n1, nI_add]
        refine step _ 0 (by omega) (by rw [hE]) (by
          rw [hE]
          refine ⟨?_, ?_, ?_, fun r hr => ?_⟩
          · rw [wS_ne (by decide), wS_at]; rfl
          · rw [wS_ne (by decide), wS_ne (by decide)]; exact hx1.2.1
          · rw [wS_at]; rfl
          · rw [wS_off (by simp), wS_off (by simp)]; exact hx1.2.2.2 r hr) (Off.wS.tr Off.wS)
    · have hE : sumE P e s = match wedS P s e with | none => (0, s) | some s' => (1, s') := by unfold sumE; rw [if_neg (by omega), if_neg (by omega)]
      rw [if_neg (show ¬ (6 : Int32) ≤ nI e from by rw [n6, nI_leI (by decide) (by omega)]; omega)]
      have hcel : (wedS P s e = none ∧ D_X1_celebrate w1 1 (nI e) = some (0, w1)) ∨ ∃ s' w', wedS P s e = some s' ∧ D_X1_celebrate w1 1 (nI e) = some (1, w') ∧ XS1 1 s' w' ∧ Off [(3, 1)] w1 w' := by
        have hp6 := hP.1
        by_cases hi : e < P.1
        · exact celebrate_n hP hX1 (by decide) hx1 hs (by omega) hi
        · exact Or.inl ⟨wedS_out (by omega), celebrate_o hX1 (by decide) (Or.inr ((nI_leI (by omega) (by omega)).mpr (by omega)))⟩
      rcases hcel with ⟨z1, z2⟩ | ⟨s', w2, z1, z2, z3, z4⟩
      · rw [z1] at hE
        rw [z2, sb]
        dsimp only
        rw [if_pos rfl, ltd, ltd, n1, nI_add, n0, nI_add]
        exact step w1 0 (by omega) (by rw [hE]) (by rw [hE]; exact hx1) Off.rf
      · rw [z1] at hE
        rw [z2, sb]
        dsimp only
        rw [if_neg ne10, ltd, ltd, n1, nI_add, nI_add]
        exact step w2 1 (by omega) (by rw [hE]) (by rw [hE]; exact z3) z4
theorem summersM_loop {P : Pa} {B m : Nat} (hP : okP P) (hB : 10 ≤ B ∧ B < 2 ^ 27) (hm : m ≤ 30) : ∀ (k i N n : Nat) (s : Sd) (w : Wd), m - i = k → k < N → i ≤ m → n ≤ i → MP P w → okS P.1 (B + i) s → ML 1 s w →
    ∃ w', D_X6_summers_23 N (nI m) (nI n) (nI i) w = some (nI (sumS P k (w.2 6) n s).1, w') ∧ OffM (w.1, w.2) (w'.1, w.2) ∧ w'.2 6 = (sumS P k (w.2 6) n s).2 ∧ w'.2 5 = w.2 5 := by
  intro k
  induction k with
  | zero =>
    intro i N n s w hk hN hi hn hM hs hx
    obtain ⟨N, rfl⟩ : ∃ M, N = M + 1 := ⟨N - 1, by omega⟩
    have : i = m := by omega
    subst this
    unfold D_X6_summers_23 sumS
    rw [if_pos ((nI_leI (by omega) (by omega)).mpr (Nat.le_refl _))]
    exact ⟨w, rfl, OffM.rf, rfl, rfl⟩
  | succ k ih =>
    intro i N n s w hk hN hi hn hM hs hx
    obtain ⟨N, rfl⟩ : ∃ M, N = M + 1 := ⟨N - 1, by omega⟩
    obtain ⟨e1, -, e2⟩ := evV_n (nxV (w.2 6))
    obtain ⟨q1, q2⟩ := sumE_ok (e := evV (nxV (w.2 6))) hP hs (by omega)
    have es := hs.1
    unfold D_X6_summers_23 sumS
    rw [if_neg (by rw [nI_leI (by omega) (by omega)]; omega), ltd]
    have ew : (wL w 6 ((w.2 6) * (6364136223846793005 : Int64) + (1442695040888963407 : Int64))).2 6 = nxV (w.2 6) := rfl
    have e2' : Int64.toInt32 (((Int64.toUInt64 (nxV (w.2 6)) >>> (Int64.toUInt64 (Int32.toInt64 (33 : Int32)) &&& Int64.toUInt64 63)).toInt64) - ((Int64.toUInt64 (nxV (w.2 6)) >>> (Int64.toUInt64 (Int32.toInt64 (33 : Int32)) &&& Int64.toUInt64 63)).toInt64) / (8 : Int64) * (8 : Int64)) = nI (evV (nxV (w.2 6))) := e2
    rw [ew, e2', ltd]
    generalize hw1 : wL w 6 ((w.2 6) * (6364136223846793005 : Int64) + (1442695040888963407 : Int64)) = w1
    have f1 : w1.1 = w.1 := by rw [← hw1]; rfl
    have f6 : w1.2 6 = nxV (w.2 6) := by rw [← hw1]; rfl
    have f5 : w1.2 5 = w.2 5 := by rw [← hw1]; rfl
    have hM1 : MP P w1 := by unfold MP; rw [f1]; exact hM
    have hx1 : ML 1 s w1 := by unfold ML; rw [f1]; exact hx
    have step : ∀ (w2 : Wd) (a : Nat), a ≤ 1 → (sumE P (evV (nxV (w.2 6))) s).1 = a → ML 1 (sumE P (evV (nxV (w.2 6))) s).2 w2 → OffM w1 w2 → ∃ w', D_X6_summers_23 N (nI m) (nI (n + a)) (nI (i + 1)) w2 = some (nI (sumS P k (nxV (w.2 6)) (n + (sumE P (evV (nxV (w.2 6))) s).1) (sumE P (evV (nxV (w.2 6))) s).2).1, w') ∧ OffM (w.1, w.2) (w'.1, w.2) ∧ w'.2 6 = (sumS P k (nxV (w.2 6)) (n + (sumE P (evV (nxV (w.2 6))) s).1) (sumE P (evV (nxV (w.2 6))) s).2).2 ∧ w'.2 5 = w.2 5 := by
      intro w2 a ha he hx2 o
      have g6 : w2.2 6 = nxV (w.2 6) := by rw [o.2.2]; exact f6
      obtain ⟨w', a1, a2, a3, a4⟩ := ih (i + 1) N (n + a) (sumE P (evV (nxV (w.2 6))) s).2 w2 (by omega) (by omega) (by omega) (by omega) (hM1.same (Sm.offM o)) q1 hx2
      rw [g6] at a1 a3
      rw [he]
      refine ⟨w', a1, ⟨fun k' i' h => (a2.1 k' i' h).trans ((o.1 k' i' h).trans (by rw [f1])), fun j hj => (a2.2.1 j hj).trans ((o.2.1 j hj).trans (by rw [f1])), rfl⟩, a3, a4.trans (by rw [o.2.2]; exact f5)⟩
    generalize evV (nxV (w.2 6)) = e at *
    have oC : ∀ (v : Int32) (j : Nat) (w0 : Wd), 8 ≤ j → OffM w0 (wS w0 25 0 j v) := fun v j w0 hj => ⟨fun k i hk => wS_off (fun z => hk (by rw [z.1, z.2])), fun r hr => wS_ne (by omega), rfl⟩
    by_cases h66 : e = 6
    · subst h66
      have hE : sumE P 6 s = (0, (s.1 + 1, s.2)) := by unfold sumE; rw [if_pos rfl]
      rw [if_pos (by decide), show w1.1 25 0 8 = nI s.1 from hx1.1, n1, nI_add, ltd, ltd, nI_add]
      refine step _ 0 (by omega) (by rw [hE]) (by
        rw [hE]
        refine ⟨wS_at, ?_, ?_, fun r hr => ?_⟩
        · rw [wS_ne (by decide)]; exact hx1.2.1
        · rw [wS_ne (by decide)]; exact hx1.2.2.1
        · rw [wS_ne (by omega)]; exact hx1.2.2.2 r hr) (oC _ _ _ (by decide))
    · by_cases h7 : e = 7
      · subst h7
        have hE : sumE P 7 s = (0, (0, s.2.1, 0, s.2.2.2)) := by unfold sumE; rw [if_neg (by decide), if_pos rfl]
        rw [if_neg (by decide), if_pos (by decide), ltd, ltd, ltd, n1, nI_add]
        refine step _ 0 (by omega) (by rw [hE]) (by
          rw [hE]
          refine ⟨?_, ?_, ?_, fun r hr => ?_⟩
          · exact (wS_ne (by decide)).trans wS_at
          · rw [wS_ne (by decide), wS_ne (by decide)]; exact hx1.2.1
          · exact wS_at
          · rw [wS_ne (by omega), wS_ne (by omega)]; exact hx1.2.2.2 r hr) ((oC _ _ _ (by decide)).tr (oC _ _ _ (by decide)))
      · have hE : sumE P e s = match wedS P s e with | none => (0, s) | some s' => (1, s') := by unfold sumE; rw [if_neg h66, if_neg h7]
        rw [if_neg (show ¬ nI e = (6 : Int32) from by rw [n6, nI_eq (by omega) (by decide)]; exact h66), if_neg (show ¬ nI e = (7 : Int32) from by rw [n7, nI_eq (by omega) (by decide)]; exact h7)]
        have hp6 := hP.1
        by_cases hi : e < P.1
        · rw [isWeddingM_n hP hM1 hi, sb, if_neg ne10]
          rcases wedOn_n (l := 1) hP hM1 (by omega) hx1 hs (by omega) hi with ⟨z1, z2⟩ | ⟨s', w2, z1, z2, z3, z4, z5⟩
          · have z2' : D_X6_wedOn w1 1 (nI e) = some (0, w1) := z2
            rw [z1] at hE
            rw [z2', sb]
            dsimp only
            rw [if_pos rfl, ltd, ltd, n1, nI_add, n0, nI_add]
            exact step w1 0 (by omega) (by rw [hE]) (by rw [hE]; exact hx1) OffM.rf
          · have z2' : D_X6_wedOn w1 1 (nI e) = some (1, w2) := z2
            rw [z1] at hE
            rw [z2', sb]
            dsimp only
            rw [if_neg ne10, ltd, ltd, n1, nI_add, nI_add]
            exact step w2 1 (by omega) (by rw [hE]) (by rw [hE]; exact z3) ⟨fun k j hk => by rw [z4.1 k j (by simpa using hk)], fun j hj => z5 j (Or.inl (by omega)), z4.2⟩
        · rw [wedS_out (by omega)] at hE
          rw [isWeddingM_o hP hM1 (Or.inr ((nI_leI (by omega) (by omega)).mpr (by omega))), sb, if_pos rfl, ltd, n1, nI_add]
          exact step w1 0 (by omega) (by rw [hE]) (by rw [hE]; exact hx1) OffM.rf
theorem Inv.seeds {c : Nat} {w w' : Wd} (h : Inv c w) (h1 : w'.1 = w.1) (h2 : w'.2 5 = w'.2 6) : Inv c w' := by
  unfold Inv TXi QI ACi KEi VIi XP MP ML XS1 Blk at *
  rw [h1]
  obtain ⟨t, tx, P, N, A, na, old, nx, K, V, nv, a1, a2, a3, a4, a5, a6⟩ := h
  exact ⟨t, tx, P, N, A, na, old, nx, K, V, nv, a1, a2, a3, a4, a5, h2⟩
theorem summers_ok (x : Int32) : OkI (fun w => D_X5_summers w x) (fun w => D_X6_summers w x) := by
  intro c w hc hi
  have hi' := hi
  obtain ⟨t, tx, P, N, A, na, old, nx, K, V, nv, h1, h2, h3, h4, h5, h6⟩ := hi
  obtain ⟨hP, hX, hM, hs, hx, hm⟩ := id h2
  dsimp only
  unfold D_X5_summers D_X6_summers
  have hin : ∀ x : Int32, D_X6_in (Int32.toInt64 x) 1 30 = some (if (1 : Int) ≤ x.toInt ∧ x.toInt ≤ 30 then 1 else 0) := fun x => in_32 (by decide) (by decide)
  have bad : (x < 1 ∨ ¬ x ≤ 30) → ∃ r w1 w2, (if x < 1 then (some ((-2), w)) else (if x ≤ 30 then ((D_X3_take w 1 0).bind fun q3 => D_X5_summers_29 fuelZ x 0 0 q3) else (some ((-2), w)))) = some (r, w1) ∧ ((D_X6_in (Int32.toInt64 x) 1 30).bind fun q1 => if q1 = 0 then (some ((-2), w1)) else ((D_X6_layTrial w1).bind fun q3 => D_X6_summers_23 fuelZ x 0 0 q3)) = some (r, w2) ∧ Inv (c + 1) w2 := by
    intro h
    refine ⟨-2, w, w, ?_, ?_, hi'.same Sm.rf⟩
    · by_cases h1 : x < 1
      · rw [if_pos h1]
      · rw [if_neg h1, if_neg (h.resolve_left h1)]
    · rw [hin, if_neg, sb, if_pos rfl]
      intro ⟨z1, z2⟩
      rcases h with h | h
      · rw [Int32.lt_iff_toInt_lt, show (1 : Int32).toInt = 1 by decide] at h; omega
      · rw [Int32.le_iff_toInt_le, show (30 : Int32).toInt = 30 by decide] at h; omega
  rcases ix_cases x (n := 31) (by decide) with ⟨m, hm31, rfl⟩ | ho
  · by_cases h0 : m = 0
    · subst h0; exact bad (Or.inl (by decide))
    · have hm30 : m ≤ 30 := by omega
      obtain ⟨w1, a1, a2, a3⟩ := take_n (a := 1) (b := 0) (by decide) (by decide) (by decide) hx
      have sm1 : Sm w w1 := Sm.off a3 (by decide)
      obtain ⟨w2, b1, b2, b3, b4⟩ := summersX_loop hP ⟨by omega, by omega⟩ hm30 m 0 fuelZ 0 N w1 (by omega) (by unfold fuelZ; omega) (by omega) (by omega) (hX.same sm1) hs a2
      have sm2 : Sm w (w2.1, w.2) := sm1.tr (Sm.off (L := [(3, 1)]) ⟨fun k i hk => b2 k i (by simpa using hk), sm1.2.2.symm⟩ (by decide))
      have hm2 : ML 0 N w2 := show ML 0 N (w2.1, w.2) from hm.same sm2
      obtain ⟨w3, c1, c2, c3⟩ := layTrial_n hm2
      have sm3 : Sm w (w3.1, w.2) := sm2.tr (Sm.offM (⟨c3.1, c3.2.1, rfl⟩ : OffM (w2.1, w.2) (w3.1, w.2)))
      have hM3 : MP P w3 := show MP P (w3.1, w.2) from hM.same sm3
      obtain ⟨w4, d1, d2, d3, d4⟩ := summersM_loop hP ⟨by omega, by omega⟩ hm30 m 0 fuelZ 0 N w3 (by omega) (by unfold fuelZ; omega) (by omega) (by omega) hM3 hs c2
      have sm4 : Sm w (w4.1, w.2) := sm3.tr (Sm.offM (⟨d2.1, d2.2.1, rfl⟩ : OffM (w3.1, w.2) (w4.1, w.2)))
      have e1 : w1.2 5 = w.2 5 := by rw [sm1.2.2]
      have e2 : w3.2 6 = w.2 5 := by rw [c3.2.2, b4, sm1.2.2, h6]
      have hge : ¬ nI m < 1 := by rw [n1, nI_ltI (by omega) (by decide)]; omega
      have hle : nI m ≤ 30 := by rw [n30, nI_leI (by omega) (by decide)]; exact hm30
      rw [e1] at b1 b3
      rw [e2] at d1 d3
      refine ⟨nI (sumS P m (w.2 5) 0 N).1, w2, w4, ?_, ?_, (hi'.same sm4).seeds rfl ?_⟩
      · rw [if_neg hge, if_pos hle, a1, sb]; exact b1
      · rw [hin, nI_toInt (by omega), if_pos (by omega), sb, if_neg ne10, c1, sb]; exact d1
      · rw [d4, d3, c3.2.2, b3]
  · refine bad ?_
    by_cases h : x < 0
    · refine Or.inl ?_
      rw [Int32.lt_iff_toInt_lt] at h ⊢
      rw [show (0 : Int32).toInt = 0 by decide] at h
      rw [show (1 : Int32).toInt = 1 by decide]; omega
    · have g : ¬ x ≤ nI 30 := out_le (by decide) ho h (by decide)
      exact Or.inr g
