/-! rows: what is allowed, and the class's answer -/
def amV (V : Nat → Nat × Nat) : Nat → Nat → Nat
  | 0, _ => 63
  | i + 1, d => if (V i).1 = d then amV V i d &&& 2 ^ (V i).2 else amV V i d
theorem amV_lt (V : Nat → Nat × Nat) : ∀ i d, amV V i d < 64
  | 0, _ => by show 63 < 64; decide
  | i + 1, d => by
    unfold amV
    split
    · exact and64_lt (amV_lt V i d)
    · exact amV_lt V i d
def ALs (V : Nat → Nat × Nat) (nv : Nat) : Nat → Nat → Bool := fun d c => (amV V nv d).testBit c
theorem pw64 : ∀ c, c ≤ 5 → 2 ^ c < 64 := by decide
theorem allowOnly_n {P : Pa} {B b c : Nat} {s : Sd} {am : Nat → Nat} {w : Wd} (h : CX P B s am w) (hb : b ≤ 6) (hc : c ≤ 5) : D_X2_allowOnly w (nI b) (nI c) = some (wS w 13 0 b (nI (am b &&& 2 ^ c))) := by
  obtain ⟨h1, h2⟩ := h.2.2.2 b hb
  unfold D_X2_allowOnly
  rw [if_neg (nI_lt0 (by omega)), if_neg (by rw [n7, nI_leI (by omega) (by omega)]; omega)]
  simp only [if_pos ((inB_n (j := b) (n := 7) (by omega)).mpr (by omega)), nI_clamp (show b < 2 ^ 31 by omega), h1, shl_n c (by omega), and64 _ h2 _ (pw64 c hc), ltd]
theorem XR.off {R : RS} {w w' : Wd} {L : List (Nat × Nat)} (h : XR R w) (ho : Off L w w') (h1 : (2, 0) ∉ L) (h2 : (14, 0) ∉ L) : XR R w' := by
  unfold XR
  rw [ho.1 2 0 h1, ho.1 14 0 h2]
  exact h
theorem rowsX_loop {P : Pa} {B lim nv : Nat} {V : Nat → Nat × Nat} {s : Sd} {x2 : Int32} : ∀ (n i F : Nat) (w : Wd), nv - i = n → n < F → i ≤ nv → VIi V nv w → CX P B s (amV V i) w → XR (R0 s) w → w.1 2 0 3 = nI lim →
    ∃ F' w', D_X5_rows_36 F x2 (nI i) w = D_X5_rows_36 (F' + 1) x2 (nI nv) w' ∧ VIi V nv w' ∧ CX P B s (amV V nv) w' ∧ XR (R0 s) w' ∧ w'.1 2 0 3 = nI lim ∧ Off [(13, 0)] w w' := by
  intro n
  induction n with
  | zero =>
    intro i F w hn hF hi hv hX hr hl
    obtain ⟨F, rfl⟩ : ∃ G, F = G + 1 := ⟨F - 1, by omega⟩
    have : i = nv := by omega
    subst this
    exact ⟨F, w, rfl, hv, hX, hr, hl, Off.rf⟩
  | succ n ih =>
    intro i F w hn hF hi hv hX hr hl
    obtain ⟨F, rfl⟩ : ∃ G, F = G + 1 := ⟨F - 1, by omega⟩
    obtain ⟨v1, v2, v3, v4⟩ := id hv
    obtain ⟨c1, c2, c3, c4, c5, c6⟩ := v4 i (by omega)
    have e16 : D_X5_at w 16 0 (nI i) = some (nI (V i).1) := by
      rw [at_n rfl (by decide) (show i < lenZ 16 by show i < 6; omega)]
      exact congrArg some c3
    have e17 : D_X5_at w 17 0 (nI i) = some (nI (V i).2) := by
      rw [at_n rfl (by decide) (show i < lenZ 17 by show i < 6; omega)]
      exact congrArg some c4
    have step : D_X5_rows_36 (F + 1) x2 (nI i) w = D_X5_rows_36 F x2 (nI (i + 1)) (wS w 13 0 (V i).1 (nI (amV V i (V i).1 &&& 2 ^ (V i).2))) := by
      rw [D_X5_rows_36, v2, if_neg (by rw [nI_leI (by omega) (by omega)]; omega), e16, sb, e17, sb, allowOnly_n hX c1 c2, sb, ltd, n1, nI_add]
    have o1 : Off [(13, 0)] w (wS w 13 0 (V i).1 (nI (amV V i (V i).1 &&& 2 ^ (V i).2))) := Off.wS
    have hX1 : CX P B s (amV V (i + 1)) (wS w 13 0 (V i).1 (nI (amV V i (V i).1 &&& 2 ^ (V i).2))) := by
      refine ⟨hX.1.off o1 (by decide) (by decide) (by decide), hX.2.1.off o1 (by decide) (by decide), hX.2.2.1, fun d hd => ⟨?_, amV_lt V (i + 1) d⟩⟩
      show _ = nI (if (V i).1 = d then amV V i d &&& 2 ^ (V i).2 else amV V i d)
      by_cases hdb : (V i).1 = d
      · rw [if_pos hdb, ← hdb, wS_at]
      · rw [if_neg hdb, wS_ne (fun z => hdb z.symm)]
        exact (hX.2.2.2 d hd).1
    rw [step]
    obtain ⟨F', w', a1, a2, a3, a4, a5, a6⟩ := ih (i + 1) F _ (by omega) (by omega) (by omega) (hv.same (Sm.off o1 (by decide))) hX1 (hr.off o1 (by decide) (by decide)) (by rw [o1.1 2 0 (by decide)]; exact hl)
    exact ⟨F', w', a1, a2, a3, a4, a5, o1.tr a6⟩
def ansR (ev j : Nat) (T : Nat × Nat × Nat) : Int32 := if j = 0 then nI T.1 else if T.1 = 0 then -9 else if j = 1 then nI T.2.1 else nI (andn ev T.2.2)
def rowL (P : Pa) (al : Nat → Nat → Bool) (n : Nat) (s : Sd) : List Nat := if al 0 s.2.1 = true then (List.range (rwN (cnt6 (lfN P s)) n)).filterMap (rbF P al n 0 s 0) else []
theorem acF_1 : ∀ (D : List Nat) (T : Nat × Nat × Nat), (D.foldl acF T).1 = T.1 + D.length
  | [], T => rfl
  | a :: D, T => by
    rw [List.foldl_cons, acF_1 D, List.length_cons]
    show T.1 + 1 + D.length = _
    omega
theorem acF_2 : ∀ (D : List Nat) (T : Nat × Nat × Nat), (∀ a ∈ D, a < 64) → T.2.1 < 64 → T.2.2 < 64 → (D.foldl acF T).2.1 < 64 ∧ (D.foldl acF T).2.2 < 64
  | [], T, _, h1, h2 => ⟨h1, h2⟩
  | a :: D, T, h, h1, h2 => by
    rw [List.foldl_cons]
    exact acF_2 D _ (fun b hb => h b (List.mem_cons_of_mem _ hb)) (and64_lt h1) (or64_lt h2 (h a List.mem_cons_self))
theorem rw_le : ∀ m, m < 7 → ∀ k, k < 7 → rwN m k ≤ 720 := by decide +kernel
theorem rw_pos : ∀ m, m < 7 → ∀ k, k < 7 → (k ≤ m ↔ 0 < rwN m k) := by decide +kernel
theorem rowL_lt {P : Pa} {B n : Nat} {al : Nat → Nat → Bool} {s : Sd} (hP : okP P) (hB : 10 ≤ B) (hs : okS P.1 B s) (hn : n ≤ 6) : ∀ a ∈ rowL P al n s, a < 2 ^ P.1 := by
  intro a ha
  unfold rowL at ha
  split at ha
  · rw [← enum_rows (lim := n) hP hB n 8 0 s 0 0 hs (by omega) (by omega)] at ha
    unfold leafS at ha
    obtain ⟨b, hb, he⟩ := List.mem_filterMap.mp ha
    split at he
    · cases he
      obtain ⟨r, s', k1, k2, k3, k4, k5⟩ := nodes_row hP hB 8 0 s 0 0 hs (by omega) b hb
      rw [k4, Nat.zero_or]
      exact setR_lt r (run_inv hP hB r s s' hs k1).2.2.2.1
    · cases he
  · cases ha
theorem rowL_len {P : Pa} {n : Nat} {al : Nat → Nat → Bool} {s : Sd} (hn : n ≤ 6) (h6 : cnt6 (lfN P s) ≤ 6) : (rowL P al n s).length ≤ 720 := by
  unfold rowL
  split
  · have h1 := List.length_filterMap_le (rbF P al n 0 s 0) (List.range (rwN (cnt6 (lfN P s)) n))
    rw [List.length_range] at h1
    have := rw_le _ (show cnt6 (lfN P s) < 7 by omega) n (by omega)
    omega
  · simp
theorem rowsX_n {P : Pa} {B n j nv : Nat} {V : Nat → Nat × Nat} {s : Sd} {w : Wd} (hP : okP P) (hB : 10 ≤ B ∧ B < 2 ^ 28) (hX : XP P w) (hs : okS P.1 B s) (hx : XS1 0 s w) (hv : VIi V nv w) (hn : n ≤ 6) (hj : j < 3) :
    ∃ w', D_X5_rows w (nI n) (nI j) = some (ansR (evP P) j ((rowL P (ALs V nv) n s).foldl acF (0, 63, 0)), w') ∧ Off LSr w w' := by
  have h6 := hP.1
  obtain ⟨w1, a1, a2, a3, a4, a5⟩ := reset_n (lim := n) hX hs (by decide) (by decide) hx
  have s1 := Sm.off a5 LSr_SC
  have hv6 := hv.1
  obtain ⟨F', w2, b1, b2, b3, b4, b5, b6⟩ := rowsX_loop (x2 := nI j) nv 0 fuelZ w1 rfl (by unfold fuelZ; omega) (Nat.zero_le _) (hv.same s1) (B := B) (P := P) (s := s) ⟨a2.1, a2.2.1, a2.2.2.1, a2.2.2.2⟩ a3 a4
  obtain ⟨w3, c1, c2, c3⟩ := run_n hP hB hn b3 b4 b5
  have hle : nI j ≤ (2 : Int32) := by rw [n2]; exact (nI_leI (by omega) (by decide)).mpr (by omega)
  have b1' : D_X5_rows_36 fuelZ (nI j) 0 w1 = D_X5_rows_36 (F' + 1) (nI j) (nI nv) w2 := b1
  have o3 : Off LSr w w3 := a5.tr ((b6.mono (by decide)).tr (c3.mono (by decide)))
  refine ⟨w3, ?_, o3⟩
  have hT : XR (if (amV V nv 0).testBit s.2.1 = true then fN n (R0 s) (nodesS P (ALs V nv) n 8 0 s 0 0) else R0 s) w3 := c2
  have hD : ∃ T : Nat × Nat × Nat, T = (rowL P (ALs V nv) n s).foldl acF (0, 63, 0) ∧ w3.1 2 0 7 = nI T.1 ∧ w3.1 2 0 8 = nI T.2.1 ∧ w3.1 2 0 9 = nI T.2.2 := by
    obtain ⟨-, -, -, x7, x8, x9, -⟩ := hT
    unfold rowL
    by_cases ha : (amV V nv 0).testBit s.2.1 = true
    · rw [if_pos ha] at x7 x8 x9
      rw [if_pos (show ALs V nv 0 s.2.1 = true from ha)]
      refine ⟨_, rfl, ?_⟩
      rw [← enum_rows (lim := n) hP hB.1 n 8 0 s 0 0 hs (by omega) (by omega)]
      have := fold_leaf n (nodesS P (ALs V nv) n 8 0 s 0 0) (R0 s)
      rw [show ((0 : Nat), (63 : Nat), (0 : Nat)) = ((R0 s).2.2.2.1, (R0 s).2.2.2.2.1, (R0 s).2.2.2.2.2.1) from rfl, ← this]
      exact ⟨x7, x8, x9⟩
    · rw [if_neg ha] at x7 x8 x9
      rw [if_neg (show ¬ ALs V nv 0 s.2.1 = true from ha)]
      exact ⟨_, rfl, x7, x8, x9⟩
  obtain ⟨T, hTe, x7, x8, x9⟩ := hD
  rw [← hTe]
  have hX3 : XP P w3 := hX.off o3 (by decide) (by decide) (by decide)
  have hwd := pow_le64 h6 hs.2.2.1
  have hc6 : cnt6 (lfN P s) ≤ 6 := cnt_le _ (msk_b P.1 h6 _ hwd).1
  have hT1 : T.1 ≤ 720 := by
    rw [hTe, acF_1]
    have := rowL_len (P := P) (al := ALs V nv) (s := s) hn hc6
    show 0 + _ ≤ 720
    omega
  have hT2 := acF_2 (rowL P (ALs V nv) n s) (0, 63, 0) (fun a ha => pow_le64 h6 (rowL_lt hP hB.1 hs hn a ha)) (by decide) (by decide)
  rw [← hTe] at hT2
  have hev : D_X1_everyone w3 = some (nI (evP P)) := by
    unfold D_X1_everyone evP
    rw [hX3.1, all_n P.1 h6]
  unfold D_X5_rows
  rw [if_neg (nI_lt0 (by omega)), if_neg (by rw [n6, nI_ltI (by decide) (by omega)]; omega), if_neg (nI_lt0 (by omega)), if_pos hle, a1, sb, b1', D_X5_rows_36, b2.2.1, if_pos ((nI_leI (by omega) (by omega)).mpr (Nat.le_refl _)), c1, sb, x7, x8, x9, hev, sb, andn_n _ (evP_lt hP) _ hT2.2]
  unfold ansR
  have z0 : ∀ a, a < 2 ^ 31 → (nI a = 0 ↔ a = 0) := fun a ha => by rw [n0, nI_eq ha (by decide)]
  have z1 : nI j = 1 ↔ j = 1 := by rw [n1, nI_eq (by omega) (by decide)]
  by_cases g0 : j = 0
  · rw [if_pos g0, if_pos ((z0 j (by omega)).mpr g0)]
  · rw [if_neg g0, if_neg (fun z => g0 ((z0 j (by omega)).mp z))]
    by_cases g1 : T.1 = 0
    · rw [if_pos g1, if_pos ((z0 T.1 (by omega)).mpr g1)]
    · rw [if_neg g1, if_neg (fun z => g1 ((z0 T.1 (by omega)).mp z))]
      by_cases g2 : j = 1
      · rw [if_pos g2, if_pos (z1.mpr g2)]
      · rw [if_neg g2, if_neg (fun z => g2 (z1.mp z))]
