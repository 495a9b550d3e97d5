/-! a search from a state -/
def R0 (s : Sd) : RS := (0, 0, s.1, 0, 63, 0, fun _ => 0)
def LSr : List (Nat × Nat) := [(2, 0), (3, 2), (15, 2), (13, 0), (14, 0)]
theorem reset77 {i : Nat} : ∀ (n j N : Nat) (w : Wd), 64 - j < n → n ≤ N → j ≤ 64 → (∀ q, q < j → w.1 14 0 q = nI 0) → ∃ w', D_X2_reset_77 i N (nI j) w = some w' ∧ (∀ q, q < 64 → w'.1 14 0 q = nI 0) ∧ Off [(14, 0)] w w' := by
  intro n
  induction n with
  | zero => intro j N w h; omega
  | succ n ih =>
    intro j N w h hN hj hg
    obtain ⟨N, rfl⟩ : ∃ M, N = M + 1 := ⟨N - 1, by omega⟩
    unfold D_X2_reset_77
    by_cases h64 : j = 64
    · subst h64
      rw [if_pos (by rw [n64]; exact (nI_leI (by decide) (by decide)).mpr (Nat.le_refl _))]
      exact ⟨w, rfl, hg, Off.rf⟩
    · rw [if_neg (by rw [n64, nI_leI (by omega) (by omega)]; omega), if_pos ((inB_n (by omega)).mpr (by omega)), ltd, ltd, nI_clamp (by omega), n1, nI_add]
      obtain ⟨w', h1, h2, h3⟩ := ih (j + 1) N (wS w 14 0 j 0) (by omega) (by omega) (by omega) (fun q hq => by
        by_cases hqj : q = j
        · subst hqj; rw [wS_at]; rfl
        · rw [wS_ne hqj]; exact hg q (by omega))
      exact ⟨w', h1, h2, Off.wS.tr h3⟩
theorem reset52 {i : Nat} : ∀ (n j N : Nat) (w : Wd), 7 - j < n → n ≤ N → j ≤ 7 → (∀ q, q < j → w.1 13 0 q = nI 63) → ∃ w', D_X2_reset_52 i N (nI j) w = some w' ∧ (∀ q, q < 7 → w'.1 13 0 q = nI 63) ∧ (∀ q, q < 64 → w'.1 14 0 q = nI 0) ∧ Off [(13, 0), (14, 0)] w w' := by
  intro n
  induction n with
  | zero => intro j N w h; omega
  | succ n ih =>
    intro j N w h hN hj hg
    obtain ⟨N, rfl⟩ : ∃ M, N = M + 1 := ⟨N - 1, by omega⟩
    unfold D_X2_reset_52
    by_cases h7 : j = 7
    · subst h7
      rw [if_pos (by rw [n7]; exact (nI_leI (by decide) (by decide)).mpr (Nat.le_refl _)), n0]
      obtain ⟨w', h1, h2, h3⟩ := reset77 (i := i) 65 0 fuelZ w (by omega) (by decide) (by omega) (fun q hq => by omega)
      refine ⟨w', h1, fun q hq => ?_, h2, h3.mono (by simp)⟩
      rw [h3.1 13 0 (by simp)]; exact hg q hq
    · rw [if_neg (by rw [n7, nI_leI (by omega) (by omega)]; omega), if_pos ((inB_n (by omega)).mpr (by omega)), ltd, ltd, nI_clamp (by omega), n1, nI_add]
      obtain ⟨w', h1, h2, h3, h4⟩ := ih (j + 1) N (wS w 13 0 j 63) (by omega) (by omega) (by omega) (fun q hq => by
        by_cases hqj : q = j
        · subst hqj; rw [wS_at]; rfl
        · rw [wS_ne hqj]; exact hg q (by omega))
      exact ⟨w', h1, h2, h3, (Off.wS.mono (by simp)).tr h4⟩
theorem reset_n {P : Pa} {B i lim : Nat} {s : Sd} {w : Wd} (hX : XP P w) (hs : okS P.1 B s) (hi : i < 19) (h2 : i ≠ 2) (hx : XS1 i s w) : ∃ w', D_X2_reset w i (nI lim) = some w' ∧ CX P B s (fun _ => 63) w' ∧ XR (R0 s) w' ∧ w'.1 2 0 3 = nI lim ∧ Off LSr w w' := by
  obtain ⟨w1, a1, a2, a3⟩ := take_n (a := 2) (by decide) hi (fun z => h2 z.symm) hx
  unfold D_X2_reset
  rw [if_pos hi, a1, sb, ltd, ltd, ltd, ltd, ltd, ltd, ltd]
  have oo : ∀ (w : Wd) (j : Nat) (x : Int32) (k : Nat), k ≠ 2 → ∀ i, (wS w 2 0 j x).1 k i = w.1 k i := fun w j x k hk i => wS_off (fun z => hk z.1)
  obtain ⟨w2, b1, b2, b3, b4⟩ := reset52 (i := i) 8 0 fuelZ (wS (wS (wS (wS (wS (wS (wS w1 2 0 3 (nI lim)) 2 0 4 0) 2 0 5 0) 2 0 6 ((wS (wS (wS w1 2 0 3 (nI lim)) 2 0 4 0) 2 0 5 0).1 3 2 1)) 2 0 7 0) 2 0 8 63) 2 0 9 0) (by omega) (by decide) (by omega) (fun q hq => by omega)
  have ob : Off [(2, 0)] w1 (wS (wS (wS (wS (wS (wS (wS w1 2 0 3 (nI lim)) 2 0 4 0) 2 0 5 0) 2 0 6 ((wS (wS (wS w1 2 0 3 (nI lim)) 2 0 4 0) 2 0 5 0).1 3 2 1)) 2 0 7 0) 2 0 8 63) 2 0 9 0) := Off.wS.tr (Off.wS.tr (Off.wS.tr (Off.wS.tr (Off.wS.tr (Off.wS.tr Off.wS)))))
  have o12 : Off LSr w w2 := (a3.mono (by simp [LSr])).tr ((ob.mono (by simp [LSr])).tr (b4.mono (by simp [LSr])))
  have o1 : Off [(2, 0), (13, 0), (14, 0)] w1 w2 := (ob.mono (by simp)).tr (b4.mono (by simp))
  have e2 := b4.1 2 0 (by simp)
  refine ⟨w2, b1, ⟨hX.off o12 (by decide) (by decide) (by decide), a2.off o1 (by decide) (by decide), hs, fun d hd => ⟨b2 d (by omega), by show 63 < 64; omega⟩⟩, ⟨?_, ?_, ?_, ?_, ?_, ?_, b3⟩, ?_, o12⟩
  · rw [e2, wS_ne (by decide), wS_ne (by decide), wS_ne (by decide), wS_ne (by decide), wS_ne (by decide), wS_at]; rfl
  · rw [e2, wS_ne (by decide), wS_ne (by decide), wS_ne (by decide), wS_ne (by decide), wS_at]; rfl
  · rw [e2, wS_ne (by decide), wS_ne (by decide), wS_ne (by decide), wS_at, oo _ _ _ 3 (by decide), oo _ _ _ 3 (by decide), oo _ _ _ 3 (by decide), a2.1]; rfl
  · rw [e2, wS_ne (by decide), wS_ne (by decide), wS_at]; rfl
  · rw [e2, wS_ne (by decide), wS_at]; rfl
  · rw [e2, wS_at]; rfl
  · rw [e2, wS_ne (by decide), wS_ne (by decide), wS_ne (by decide), wS_ne (by decide), wS_ne (by decide), wS_ne (by decide), wS_at]
theorem stN_0 (s : Sd) : stN s s.2.1 s.1 0 = s := by
  unfold stN; rw [Nat.or_zero]
theorem run_n {P : Pa} {B : Nat} {s : Sd} {am : Nat → Nat} {lim : Nat} {w : Wd} (hP : okP P) (hB : 10 ≤ B ∧ B < 2 ^ 28) (hlim : lim ≤ 6) (hX : CX P B s am w) (hr : XR (R0 s) w) (hl : w.1 2 0 3 = nI lim) :
    ∃ w', D_X2_run w = some w' ∧ XR (if (am 0).testBit s.2.1 = true then fN lim (R0 s) (nodesS P (fun d c => (am d).testBit c) lim 8 0 s 0 0) else R0 s) w' ∧ Off [(2, 0), (14, 0)] w w' := by
  obtain ⟨h1, h2, h3, h4⟩ := id hX
  unfold D_X2_run
  have e : D_X2_allows w 0 (w.1 3 2 2) = some (if (am 0).testBit s.2.1 = true then 1 else 0) := by
    rw [h2.2.1]; exact allows_n hX (d := 0) (by omega) h3.2.1
  rw [e, sb]
  by_cases hb : (am 0).testBit s.2.1 = true
  · rw [if_pos hb, if_neg (by decide +kernel), if_pos hb, h2.1, h2.2.1]
    obtain ⟨w', g1, g2, g3, g4, g5⟩ := goOn_n hP hB hlim 8 0 s.2.1 s.1 0 0 (R0 s) w (by omega) (by omega) h3.2.1 h3.1 (Nat.two_pow_pos _) hX ⟨by show 0 ≤ 6; omega, by show s.1 < 2 ^ 30; have := h3.1; omega, by show 63 < 64; omega, by show 0 < 64; omega⟩ hr hl
    have g1' : D_X2_goOn 8 w 0 (nI s.2.1) (nI s.1) 0 0 = some w' := g1
    rw [g1', sb]
    rw [stN_0] at g3
    exact ⟨w', rfl, g3, g4⟩
  · rw [if_neg hb, if_pos rfl, if_neg hb]
    exact ⟨w, rfl, hr, Off.rf⟩
theorem b63 : ∀ c, c ≤ 5 → (63 : Nat).testBit c = true := by decide
theorem runFrom_n {P : Pa} {B i : Nat} {s : Sd} {w : Wd} (hP : okP P) (hB : 10 ≤ B ∧ B < 2 ^ 28) (hX : XP P w) (hs : okS P.1 B s) (hi : i < 19) (h2 : i ≠ 2) (hx : XS1 i s w) : ∃ w', D_X2_runFrom w i = some w' ∧ XR (fN 6 (R0 s) (nodesS P (fun _ c => (63 : Nat).testBit c) 6 8 0 s 0 0)) w' ∧ Off LSr w w' := by
  obtain ⟨w1, a1, a2, a3, a4, a5⟩ := reset_n (lim := 6) hX hs hi h2 hx
  unfold D_X2_runFrom
  rw [if_pos hi, show (6 : Int32) = nI 6 from rfl, a1, sb]
  obtain ⟨w2, b1, b2, b3⟩ := run_n hP hB (Nat.le_refl 6) a2 a3 a4
  rw [b1, sb]
  rw [if_pos (b63 _ hs.2.1)] at b2
  exact ⟨w2, rfl, b2, a5.tr (b3.mono (by simp [LSr]))⟩
