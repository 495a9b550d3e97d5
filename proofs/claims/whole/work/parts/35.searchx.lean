/-! the class's search goes through all rows -/
abbrev ND : Type := Nat × Nat × Nat × Nat
abbrev RS : Type := Nat × Nat × Nat × Nat × Nat × Nat × (Nat → Nat)
def nodesS (P : Pa) (al : Nat → Nat → Bool) (lim : Nat) : Nat → Nat → Sd → Nat → Nat → List ND
  | 0, _, _, _, _ => []
  | f + 1, d, s, q, v => (d, s.1, q, v) :: (if d < lim then (List.range' 0 P.1).flatMap (fun i => if al (d + 1) (P.2.2 i 0) = true then (match wedS P s i with
    | some s' => nodesS P al lim f (d + 1) s' (q ||| 2 ^ i) (10 * v + i + 1)
    | none => []) else []) else [])
def recF (lim : Nat) (R : RS) (a : ND) : RS :=
  let R1 : Nat × Nat × Nat := if R.1 < a.1 then (a.1, a.2.2.2, a.2.1) else if a.1 = R.1 then (R.1, R.2.1, min R.2.2.1 a.2.1) else (R.1, R.2.1, R.2.2.1)
  let R2 : Nat × Nat × Nat := if a.1 = lim then (R.2.2.2.1 + 1, R.2.2.2.2.1 &&& a.2.2.1, R.2.2.2.2.2.1 ||| a.2.2.1) else (R.2.2.2.1, R.2.2.2.2.1, R.2.2.2.2.2.1)
  (R1.1, R1.2.1, R1.2.2, R2.1, R2.2.1, R2.2.2, fun j => if j = a.2.2.1 then 1 else R.2.2.2.2.2.2 j)
def okR (R : RS) : Prop := R.1 ≤ 6 ∧ R.2.2.1 < 2 ^ 30 ∧ R.2.2.2.2.1 < 64 ∧ R.2.2.2.2.2.1 < 64
def XR (R : RS) (w : Wd) : Prop := w.1 2 0 4 = nI R.1 ∧ w.1 2 0 5 = nI R.2.1 ∧ w.1 2 0 6 = nI R.2.2.1 ∧ w.1 2 0 7 = nI R.2.2.2.1 ∧ w.1 2 0 8 = nI R.2.2.2.2.1 ∧ w.1 2 0 9 = nI R.2.2.2.2.2.1 ∧ ∀ q, q < 64 → w.1 14 0 q = nI (R.2.2.2.2.2.2 q)
def okN (a : ND) : Prop := a.1 ≤ 6 ∧ a.2.1 < 2 ^ 30 ∧ a.2.2.1 < 64
theorem and64 : ∀ a, a < 64 → ∀ b, b < 64 → nI a &&& nI b = nI (a &&& b) := by decide +kernel
theorem or64 : ∀ a, a < 64 → ∀ b, b < 64 → nI a ||| nI b = nI (a ||| b) := by decide +kernel
theorem and64_lt {a b : Nat} (h : a < 64) : a &&& b < 64 := Nat.lt_of_le_of_lt Nat.and_le_left h
theorem or64_lt {a b : Nat} (h : a < 64) (h2 : b < 64) : a ||| b < 64 := Nat.or_lt_two_pow (n := 6) h h2
theorem recF_ok {lim : Nat} {R : RS} {a : ND} (h : okR R) (ha : okN a) : okR (recF lim R a) := by
  obtain ⟨h1, h2, h3, h4⟩ := h
  obtain ⟨a1, a2, a3⟩ := ha
  unfold recF okR
  refine ⟨?_, ?_, ?_, ?_⟩
  · dsimp only; split
    · exact a1
    · split <;> exact h1
  · dsimp only; split
    · exact a2
    · split
      · dsimp only; omega
      · exact h2
  · dsimp only; split
    · exact and64_lt h3
    · exact h3
  · dsimp only; split
    · exact or64_lt h4 a3
    · exact h4
/-- the first half of a record: the longest, the first, the end -/
theorem rec_tail {lim : Nat} {R : RS} {a : ND} {w : Wd} {L1 L2 L3 : Nat} (hR : okR R) (ha : okN a) (hlim : lim ≤ 6) (hl : w.1 2 0 3 = nI lim) (h4 : w.1 2 0 4 = nI L1) (h5 : w.1 2 0 5 = nI L2) (h6 : w.1 2 0 6 = nI L3) (h7 : w.1 2 0 7 = nI R.2.2.2.1) (h8 : w.1 2 0 8 = nI R.2.2.2.2.1) (h9 : w.1 2 0 9 = nI R.2.2.2.2.2.1) (hh : ∀ q, q < 64 → w.1 14 0 q = nI (R.2.2.2.2.2.2 q)) :
    ∃ w', (if nI a.2.2.1 < 0 then (D_X2_record_67 (nI a.1) (nI a.2.2.1) w) else (if 64 ≤ nI a.2.2.1 then (D_X2_record_67 (nI a.1) (nI a.2.2.1) w) else (if inB (nI a.2.2.1) 64 then lt (wS w 14 0 (Int32.toNatClampNeg (nI a.2.2.1)) 1) fun w15 => D_X2_record_67 (nI a.1) (nI a.2.2.1) w15 else none))) = some w' ∧
      XR (L1, L2, L3, (if a.1 = lim then (R.2.2.2.1 + 1, R.2.2.2.2.1 &&& a.2.2.1, R.2.2.2.2.2.1 ||| a.2.2.1) else (R.2.2.2.1, R.2.2.2.2.1, R.2.2.2.2.2.1) : Nat × Nat × Nat).1, (if a.1 = lim then (R.2.2.2.1 + 1, R.2.2.2.2.1 &&& a.2.2.1, R.2.2.2.2.2.1 ||| a.2.2.1) else (R.2.2.2.1, R.2.2.2.2.1, R.2.2.2.2.2.1) : Nat × Nat × Nat).2.1, (if a.1 = lim then (R.2.2.2.1 + 1, R.2.2.2.2.1 &&& a.2.2.1, R.2.2.2.2.2.1 ||| a.2.2.1) else (R.2.2.2.1, R.2.2.2.2.1, R.2.2.2.2.2.1) : Nat × Nat × Nat).2.2, fun j => if j = a.2.2.1 then 1 else R.2.2.2.2.2.2 j) w' ∧ Off [(2, 0), (14, 0)] w w' ∧ w'.1 2 0 3 = nI lim := by
  obtain ⟨r1, r2, r3, r4⟩ := hR
  obtain ⟨a1, a2, a3⟩ := ha
  have q31 : a.2.2.1 < 2 ^ 31 := by omega
  rw [if_neg (nI_lt0 q31), if_neg (by rw [n64, nI_leI (by decide) q31]; omega), if_pos ((inB_n q31).mpr a3), ltd, nI_clamp q31]
  have o2 : (wS w 14 0 a.2.2.1 1).1 2 0 = w.1 2 0 := wS_off (by simp)
  have hold : ∀ q, q < 64 → (wS w 14 0 a.2.2.1 1).1 14 0 q = nI (if q = a.2.2.1 then 1 else R.2.2.2.2.2.2 q) := fun q hq => by
    by_cases h : q = a.2.2.1
    · rw [if_pos h, h, wS_at, n1]
    · rw [if_neg h, wS_ne h, hh q hq]
  unfold D_X2_record_67
  rw [o2, hl]
  have o14 : ∀ (w : Wd) (j : Nat) (x : Int32), (wS w 2 0 j x).1 14 0 = w.1 14 0 := fun w j x => wS_off (by simp)
  by_cases hd : a.1 = lim
  · rw [if_pos (by rw [hd]), ltd, ltd, ltd, if_pos hd]
    refine ⟨_, rfl, ⟨?_, ?_, ?_, ?_, ?_, ?_, ?_⟩, ?_, ?_⟩
    · rw [wS_ne (by decide), wS_ne (by decide), wS_ne (by decide), o2]; exact h4
    · rw [wS_ne (by decide), wS_ne (by decide), wS_ne (by decide), o2]; exact h5
    · rw [wS_ne (by decide), wS_ne (by decide), wS_ne (by decide), o2]; exact h6
    · rw [wS_ne (by decide), wS_ne (by decide), wS_at, h7, n1, nI_add]
    · rw [wS_ne (by decide), wS_at, wS_ne (by decide), o2, h8, and64 _ r3 _ a3]
    · rw [wS_at, wS_ne (by decide), wS_ne (by decide), o2, h9, or64 _ r4 _ a3]
    · intro q hq; rw [o14, o14, o14]; exact hold q hq
    · exact (Off.wS.mono (by simp)).tr ((Off.wS.mono (by simp)).tr ((Off.wS.mono (by simp)).tr (Off.wS.mono (by simp))))
    · rw [wS_ne (by decide), wS_ne (by decide), wS_ne (by decide), o2]; exact hl
  · rw [if_neg (fun z => hd ((nI_eq (by omega) (by omega)).mp z)), if_neg hd]
    exact ⟨_, rfl, ⟨by rw [o2]; exact h4, by rw [o2]; exact h5, by rw [o2]; exact h6, by rw [o2]; exact h7, by rw [o2]; exact h8, by rw [o2]; exact h9, hold⟩, Off.wS.mono (by simp), by rw [o2]; exact hl⟩
theorem record_n {lim : Nat} {R : RS} {a : ND} {w : Wd} (hR : okR R) (ha : okN a) (hlim : lim ≤ 6) (hl : w.1 2 0 3 = nI lim) (h : XR R w) : ∃ w', D_X2_record w (nI a.1) (nI a.2.1) (nI a.2.2.1) (nI a.2.2.2) = some w' ∧ XR (recF lim R a) w' ∧ Off [(2, 0), (14, 0)] w w' ∧ w'.1 2 0 3 = nI lim := by
  obtain ⟨h4, h5, h6, h7, h8, h9, hh⟩ := h
  have r1 := hR.1
  have r2 := hR.2.1
  have a1 := ha.1
  have a2 := ha.2.1
  have o14 : ∀ (w : Wd) (j : Nat) (x : Int32), (wS w 2 0 j x).1 14 0 = w.1 14 0 := fun w j x => wS_off (by simp)
  unfold D_X2_record recF
  rw [h4]
  by_cases c1 : R.1 < a.1
  · rw [if_neg (by rw [nI_leI (by omega) (by omega)]; omega), ltd, ltd, ltd]
    obtain ⟨w', e1, e2, e3, e4⟩ := rec_tail (w := wS (wS (wS w 2 0 4 (nI a.1)) 2 0 5 (nI a.2.2.2)) 2 0 6 (nI a.2.1)) (L1 := a.1) (L2 := a.2.2.2) (L3 := a.2.1) hR ha hlim
      (by rw [wS_ne (by decide), wS_ne (by decide), wS_ne (by decide)]; exact hl) (by rw [wS_ne (by decide), wS_ne (by decide), wS_at]) (by rw [wS_ne (by decide), wS_at]) wS_at (by rw [wS_ne (by decide), wS_ne (by decide), wS_ne (by decide)]; exact h7) (by rw [wS_ne (by decide), wS_ne (by decide), wS_ne (by decide)]; exact h8) (by rw [wS_ne (by decide), wS_ne (by decide), wS_ne (by decide)]; exact h9) (fun q hq => by rw [o14, o14, o14]; exact hh q hq)
    refine ⟨w', e1, ?_, ((Off.wS.mono (by simp)).tr ((Off.wS.mono (by simp)).tr (Off.wS.mono (by simp)))).tr e3, e4⟩
    simp only [if_pos c1]
    exact e2
  · rw [if_pos (by rw [nI_leI (by omega) (by omega)]; omega)]
    simp only [if_neg c1]
    by_cases c2 : a.1 = R.1
    · rw [if_pos (by rw [c2]), ltd, h6, minZ_n (by omega) (by omega)]
      simp only [if_pos c2]
      obtain ⟨w', e1, e2, e3, e4⟩ := rec_tail (w := wS w 2 0 6 (nI (min R.2.2.1 a.2.1))) (L1 := R.1) (L2 := R.2.1) (L3 := min R.2.2.1 a.2.1) hR ha hlim
        (by rw [wS_ne (by decide)]; exact hl) (by rw [wS_ne (by decide)]; exact h4) (by rw [wS_ne (by decide)]; exact h5) wS_at (by rw [wS_ne (by decide)]; exact h7) (by rw [wS_ne (by decide)]; exact h8) (by rw [wS_ne (by decide)]; exact h9) (fun q hq => by rw [o14]; exact hh q hq)
      exact ⟨w', e1, e2, (Off.wS.mono (by simp)).tr e3, e4⟩
    · rw [if_neg (fun z => c2 ((nI_eq (by omega) (by omega)).mp z))]
      simp only [if_neg c2]
      exact rec_tail hR ha hlim hl h4 h5 h6 h7 h8 h9 hh
