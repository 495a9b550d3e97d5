/-! rows, put together -/
def gRw (P : Pa) (al : Nat → Nat → Bool) (n : Nat) (s : Sd) (x : Nat) : Option Nat := if al 0 s.2.1 = true then rbF P al n 0 s 0 x else none
theorem gRw_lt {P : Pa} {al : Nat → Nat → Bool} {n x a : Nat} {s : Sd} (hP : okP P) (h : gRw P al n s x = some a) : a < 64 := by
  unfold gRw at h
  split at h
  · exact rbF_lt hP n 0 s 0 x a (by decide) h
  · cases h
theorem rowBy_n {P : Pa} {B nv n x : Nat} {V : Nat → Nat × Nat} {N : Sd} {w : Wd} (hP : okP P) (hB : 10 ≤ B ∧ B < 2 ^ 28) (hnm : n ≤ cnt6 (lfN P N)) (hM : MP P w) (hv : VIi V nv w) (hs : okS P.1 B N) (hm : ML 0 N w) (hx : x < rwN (cnt6 (lfN P N)) n) :
    ∃ w', D_X6_rowBy w (nI x) (nI n) = some (enc (gRw P (ALs V nv) n N x), w') ∧ OffM w w' := by
  have h6 := hP.1
  have hwd := pow_le64 h6 hs.2.2.1
  have hlt : lfN P N < 64 := (msk_b P.1 h6 _ hwd).1
  have hc6 : cnt6 (lfN P N) ≤ 6 := cnt_le _ hlt
  obtain ⟨w1, a1, a2, a3⟩ := layTrial_n hm
  have s1 := Sm.offM a3
  have h2 : w1.1 25 0 2 = nI N.2.2.1 := (hm.same s1).2.2.1
  have hmsk : nI (2 ^ P.1 - 1) &&& (nI N.2.2.1 ^^^ (-1)) = nI (lfN P N) := msk_n P.1 h6 _ hwd
  have hse : D_X6_isSeen w1 0 = some (if ALs V nv 0 N.2.1 = true then 1 else 0) := isSeen_n (d := 0) (hv.same s1) (by omega) a2 hs
  unfold D_X6_rowBy
  rw [a1, sb, everyM_n hP (hM.same s1), sb, h2, hmsk, ltd, onesM_n _ hlt, sb, hse, sb]
  unfold gRw
  by_cases ha : ALs V nv 0 N.2.1 = true
  · rw [if_pos ha, if_pos ha]
    obtain ⟨w2, b1, b2⟩ := by40 (nv := nv) (V := V) hP hB hnm hc6 n 0 fuelZ N x 0 w1 rfl (by unfold fuelZ; omega) (Nat.zero_le _) (hM.same s1) (hv.same s1) hs a2 rfl hx (by decide)
    exact ⟨w2, b1, a3.tr b2⟩
  · rw [if_neg ha, if_neg ha, by40_0 (by decide)]
    exact ⟨w1, rfl, a3⟩
theorem fin59 {P : Pa} {w : Wd} {j : Nat} {T : Nat × Nat × Nat} (hP : okP P) (hM : MP P w) (hj : j < 3) (h1 : T.1 < 2 ^ 20) (h3 : T.2.2 < 64) (k : Int32 → Option (Int32 × Wd)) (hk : k (nI (evP P)) = some (nI (andn (evP P) T.2.2), w)) : (if nI j = 0 then some (nI T.1, w) else if nI T.1 = 0 then some (-9, w) else if nI j = 1 then some (nI T.2.1, w) else (D_X6_every w).bind k) = some (ansR (evP P) j T, w) := by
  have z0 : ∀ a, a < 2 ^ 31 → (nI a = 0 ↔ a = 0) := fun a ha => by rw [n0, nI_eq ha (by decide)]
  have z1 : nI j = 1 ↔ j = 1 := by rw [n1, nI_eq (by omega) (by decide)]
  have he : D_X6_every w = some (nI (evP P)) := everyM_n hP hM
  unfold ansR
  by_cases g0 : j = 0
  · rw [if_pos g0, if_pos ((z0 j (by omega)).mpr g0)]
  · rw [if_neg g0, if_neg (fun z => g0 ((z0 j (by omega)).mp z))]
    by_cases g1 : T.1 = 0
    · rw [if_pos g1, if_pos ((z0 T.1 (by omega)).mpr g1)]
    · rw [if_neg g1, if_neg (fun z => g1 ((z0 T.1 (by omega)).mp z))]
      by_cases g2 : j = 1
      · rw [if_pos g2, if_pos (z1.mpr g2)]
      · rw [if_neg g2, if_neg (fun z => g2 (z1.mp z)), he, sb, hk]
theorem rows59 {P : Pa} {B nv n j : Nat} {V : Nat → Nat × Nat} {N : Sd} (hP : okP P) (hB : 10 ≤ B ∧ B < 2 ^ 28) (hn : n ≤ 6) (hj : j < 3) (hs : okS P.1 B N) : ∀ (c x F : Nat) (T : Nat × Nat × Nat) (w : Wd), rwN (cnt6 (lfN P N)) n - x = c → c < F → x ≤ rwN (cnt6 (lfN P N)) n → MP P w → VIi V nv w → ML 0 N w → T.1 ≤ x → T.2.1 < 64 → T.2.2 < 64 →
    ∃ w', D_X6_rows_59 F (nI n) (nI j) (nI (cnt6 (lfN P N))) (nI T.1) (nI T.2.1) (nI T.2.2) (nI x) w = some (ansR (evP P) j (((List.range' x c).filterMap (gRw P (ALs V nv) n N)).foldl acF T), w') ∧ OffM w w' := by
  intro c
  have h6 := hP.1
  have hwd := pow_le64 h6 hs.2.2.1
  have hlt : lfN P N < 64 := (msk_b P.1 h6 _ hwd).1
  have hc6 : cnt6 (lfN P N) ≤ 6 := cnt_le _ hlt
  have hro := rowsOfM_n (cnt6 (lfN P N)) (by omega) n (by omega)
  have hle := rw_le (cnt6 (lfN P N)) (by omega) n (by omega)
  have hev := evP_lt hP
  induction c with
  | zero =>
    intro x F T w hc hF hx hM hv hm h1 h2 h3
    obtain ⟨F, rfl⟩ : ∃ G, F = G + 1 := ⟨F - 1, by omega⟩
    rw [D_X6_rows_59, hro, sb, if_pos ((nI_leI (by omega) (by omega)).mpr (by omega))]
    refine ⟨w, ?_, OffM.rf⟩
    exact fin59 hP hM hj (by omega) h3 _ (by rw [andn_n _ hev _ h3])
  | succ c ih =>
    intro x F T w hc hF hx hM hv hm h1 h2 h3
    obtain ⟨F, rfl⟩ : ∃ G, F = G + 1 := ⟨F - 1, by omega⟩
    have hnm := (rw_pos (cnt6 (lfN P N)) (by omega) n (by omega)).mpr (by omega)
    obtain ⟨w1, a1, a2⟩ := rowBy_n (nv := nv) (V := V) (x := x) hP hB hnm hM hv hs hm (by omega)
    have s1 := Sm.offM a2
    rw [D_X6_rows_59, hro, sb, if_neg (by rw [nI_leI (by omega) (by omega)]; omega), if_neg (by rw [nI_ltI (by omega) (by omega)]; omega), a1, sb, ltd, List.range'_succ]
    dsimp only
    cases hg : gRw P (ALs V nv) n N x with
    | none =>
      obtain ⟨w2, b1, b2⟩ := ih (x + 1) F T w1 (by omega) (by omega) (by omega) (hM.same s1) (hv.same s1) (hm.same s1) (by omega) h2 h3
      rw [show enc none = (-9) from rfl, if_pos rfl, ltd, n1, nI_add, List.filterMap_cons_none hg]
      exact ⟨w2, b1, a2.tr b2⟩
    | some a =>
      have ha := gRw_lt hP hg
      obtain ⟨w2, b1, b2⟩ := ih (x + 1) F (acF T a) w1 (by omega) (by omega) (by omega) (hM.same s1) (hv.same s1) (hm.same s1) (by show T.1 + 1 ≤ x + 1; omega) (and64_lt h2) (or64_lt h3 ha)
      rw [show enc (some a) = nI a from rfl, if_neg (nI_ne9 (by omega)), ltd, ltd, ltd, ltd, n1, nI_add, nI_add, and64 _ h2 _ ha, or64 _ h3 _ ha, List.filterMap_cons_some hg, List.foldl_cons]
      exact ⟨w2, b1, a2.tr b2⟩
theorem rowL_is {P : Pa} {al : Nat → Nat → Bool} {n : Nat} {s : Sd} : (List.range' 0 (rwN (cnt6 (lfN P s)) n)).filterMap (gRw P al n s) = rowL P al n s := by
  unfold rowL
  rw [← List.range_eq_range']
  by_cases ha : al 0 s.2.1 = true
  · rw [if_pos ha]
    exact fm_congr _ (fun x _ => by unfold gRw; rw [if_pos ha])
  · rw [if_neg ha, fm_congr (g := fun _ => none) _ (fun x _ => by unfold gRw; rw [if_neg ha])]
    simp
theorem ans_same {n j : Nat} (h6 : n ≤ 6) : ∀ (D : List Nat), (∀ a ∈ D, a < 2 ^ n) → ansR (2 ^ n - 1) j (D.foldl acF (0, 63, 0)) = ansR (2 ^ n - 1) j (D.foldl acF (0, 2 ^ n - 1, 0))
  | [], _ => by
    unfold ansR
    by_cases h : j = 0
    · rw [if_pos h, if_pos h]; rfl
    · rw [if_neg h, if_neg h]; rfl
  | a :: D, h => by
    have ha := h a List.mem_cons_self
    have e : acF (0, 63, 0) a = acF (0, 2 ^ n - 1, 0) a := by
      unfold acF
      have e1 : 63 &&& a = a := by
        rw [Nat.and_comm, show 63 = 2 ^ 6 - 1 from rfl, Nat.and_two_pow_sub_one_eq_mod]
        exact Nat.mod_eq_of_lt (pow_le64 h6 ha)
      have e2 : (2 ^ n - 1) &&& a = a := by
        rw [Nat.and_comm, Nat.and_two_pow_sub_one_eq_mod]
        exact Nat.mod_eq_of_lt ha
      show ((0 : Nat) + 1, 63 &&& a, 0 ||| a) = (0 + 1, (2 ^ n - 1) &&& a, 0 ||| a)
      rw [e1, e2]
    rw [List.foldl_cons, List.foldl_cons, e]
theorem rows_ok (x y : Int32) : OkI (fun w => D_X5_rows w x y) (fun w => D_X6_rows w x y) := by
  intro c w hc hi
  have hi' := hi
  obtain ⟨t, tx, P, N, A, na, old, nx, K, V, nv, h1, ⟨hP, hX, hM, hs, hx, hm⟩, h3, h4, hv, h6⟩ := hi
  have hP6 := hP.1
  have out : (∀ w : Wd, D_X5_rows w x y = some (-2, w)) → (∀ w : Wd, D_X6_rows w x y = some (-2, w)) → ∃ r w1 w2, D_X5_rows w x y = some (r, w1) ∧ D_X6_rows w1 x y = some (r, w2) ∧ Inv (c + 1) w2 := fun g1 g2 => ⟨-2, w, w, g1 w, g2 w, hi'.same Sm.rf⟩
  rcases ix_cases x (n := 7) (by decide) with ⟨n, hn, rfl⟩ | ho
  · rcases ix_cases y (n := 3) (by decide) with ⟨j, hj, rfl⟩ | ho
    · obtain ⟨w1, a1, a2⟩ := rowsX_n (j := j) hP ⟨by omega, by omega⟩ hX hs hx hv (show n ≤ 6 by omega) hj
      have s1 := Sm.off a2 LSr_SC
      have hwd := pow_le64 hP6 hs.2.2.1
      have hlt : lfN P N < 64 := (msk_b P.1 hP6 _ hwd).1
      have hc6 : cnt6 (lfN P N) ≤ 6 := cnt_le _ hlt
      have hle := rw_le (cnt6 (lfN P N)) (by omega) n hn
      obtain ⟨w2, b1, b2⟩ := rows59 (nv := nv) (V := V) hP ⟨by omega, by omega⟩ (show n ≤ 6 by omega) hj hs (rwN (cnt6 (lfN P N)) n) 0 fuelZ (0, 2 ^ P.1 - 1, 0) w1 rfl (by unfold fuelZ; omega) (Nat.zero_le _) (hM.same s1) (hv.same s1) (hm.same s1) (Nat.zero_le _) (evP_lt hP) (show 0 < 64 by decide)
      refine ⟨_, w1, w2, a1, ?_, hi'.same (s1.tr (Sm.offM b2))⟩
      have h2 : w1.1 25 0 2 = nI N.2.2.1 := (hm.same s1).2.2.1
      have hmsk : nI (2 ^ P.1 - 1) &&& (nI N.2.2.1 ^^^ (-1)) = nI (lfN P N) := msk_n P.1 hP6 _ hwd
      show D_X6_rows w1 (nI n) (nI j) = _
      unfold D_X6_rows
      rw [inM_y (n := 7) (by decide) (by decide) hn, sb, if_neg ne10, inM_y (n := 3) (by decide) (by decide) hj, sb, if_neg ne10, everyM_n hP (hM.same s1), sb, h2, hmsk, onesM_n _ hlt, sb, sb]
      rw [rowL_is, show 2 ^ P.1 - 1 = evP P from rfl] at b1
      have hsame := ans_same (j := j) hP6 (rowL P (ALs V nv) n N) (rowL_lt hP (B := 16 * c + 16) (by omega) hs (by omega))
      rw [show evP P = 2 ^ P.1 - 1 from rfl, ← hsame] at b1
      exact b1
    · refine out (fun w => ?_) (fun w => ?_)
      · unfold D_X5_rows
        rw [if_neg (nI_lt0 (by omega)), if_neg (by rw [n6, nI_ltI (by decide) (by omega)]; omega)]
        by_cases h : y < 0
        · rw [if_pos h]
        · have g : ¬ y ≤ nI 2 := out_le (by decide) ho h (by decide)
          rw [if_neg h, if_neg (show ¬ y ≤ 2 from g)]
      · unfold D_X6_rows
        rw [inM_y (n := 7) (by decide) (by decide) hn, sb, if_neg ne10, inM_o (n := 3) (by decide) (by decide) ho, sb, if_pos rfl]
  · refine out (fun w => ?_) (fun w => ?_)
    · unfold D_X5_rows
      by_cases h : x < 0
      · rw [if_pos h]
      · rw [if_neg h, if_pos]
        rcases out_toInt (by decide) ho with h2 | h2
        · exact absurd (show x < 0 from by rw [Int32.lt_iff_toInt_lt]; exact h2) h
        · exact show nI 6 < x from by rw [Int32.lt_iff_toInt_lt, nI_toInt (by decide)]; omega
    · unfold D_X6_rows
      rw [inM_o (n := 7) (by decide) (by decide) ho, sb, if_pos rfl]
