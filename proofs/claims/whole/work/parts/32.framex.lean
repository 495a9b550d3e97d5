/-! what stays; weddings, copies and acts of the class -/
def Off (L : List (Nat × Nat)) (w w' : Wd) : Prop := (∀ k i, (k, i) ∉ L → w'.1 k i = w.1 k i) ∧ w'.2 = w.2
theorem Off.rf {L : List (Nat × Nat)} {w : Wd} : Off L w w := ⟨fun _ _ _ => rfl, rfl⟩
theorem Off.tr {L : List (Nat × Nat)} {a b c : Wd} (h1 : Off L a b) (h2 : Off L b c) : Off L a c := ⟨fun k i h => (h2.1 k i h).trans (h1.1 k i h), h2.2.trans h1.2⟩
theorem Off.mono {L L' : List (Nat × Nat)} {a b : Wd} (h : Off L a b) (hs : ∀ q ∈ L, q ∈ L') : Off L' a b := ⟨fun k i hk => h.1 k i (fun z => hk (hs _ z)), h.2⟩
theorem Off.wS {w : Wd} {k i j : Nat} {x : Int32} : Off [(k, i)] w (wS w k i j x) := ⟨fun k' i' h => wS_off (fun z => h (by rw [z.1, z.2]; exact List.mem_singleton.mpr rfl)), rfl⟩
theorem wS_at {w : Wd} {k i j : Nat} {x : Int32} : (wS w k i j x).1 k i j = x := by rw [wS_same]; simp
theorem wS_ne {w : Wd} {k i j j' : Nat} {x : Int32} (h : j' ≠ j) : (wS w k i j x).1 k i j' = w.1 k i j' := by rw [wS_same]; simp [h]
theorem XP.off {P : Pa} {w w' : Wd} {L : List (Nat × Nat)} (h : XP P w) (ho : Off L w w') (h1 : (1, 0) ∉ L) (h2 : (11, 0) ∉ L) (h3 : (12, 0) ∉ L) : XP P w' := by
  unfold XP
  rw [ho.1 1 0 h1, ho.1 11 0 h2, ho.1 12 0 h3]
  exact h
theorem XS1.off {q : Nat} {s : Sd} {w w' : Wd} {L : List (Nat × Nat)} (h : XS1 q s w) (ho : Off L w w') (h1 : (3, q) ∉ L) (h2 : (15, q) ∉ L) : XS1 q s w' := by
  unfold XS1
  rw [ho.1 3 q h1, ho.1 15 q h2]
  exact h
theorem begS_some {P : Pa} {s : Sd} {i b : Nat} (h : begS P s i = some b) : i < P.1 ∧ ¬ s.2.2.1.testBit i = true ∧ begW P i s.1 (wayN s.2.2.2 s.2.1 (P.2.2 i 0)) = some b := by
  unfold begS at h
  split at h
  · rename_i hc; exact ⟨hc.1, hc.2, h⟩
  · cases h
theorem begS_le {P : Pa} {s : Sd} {i b : Nat} (hP : okP P) (h : begS P s i = some b) : b ≤ 9 ∧ b + lastsP P i ≤ 9 := by
  obtain ⟨h1, -, h3⟩ := begS_some h
  have := begW_le hP h1 h3
  omega
theorem wedS_ok {P : Pa} {s s' : Sd} {i B : Nat} (hP : okP P) (hs : okS P.1 B s) (hB : 10 ≤ B) (h : wedS P s i = some s') : okS P.1 B s' := by
  unfold wedS at h
  cases hb : begS P s i with
  | none => rw [hb] at h; cases h
  | some b =>
    rw [hb] at h
    cases h
    obtain ⟨h1, h2, h3⟩ := begS_some hb
    obtain ⟨g1, g2⟩ := begS_le hP hb
    refine ⟨?_, (hP.2.2 i h1).1, orb_lt hs.2.2.1 h1, hs.2.2.2⟩
    show freeW P i b ≤ B
    unfold freeW thickW
    split <;> omega
theorem celebrate_n {P : Pa} {w : Wd} {q B : Nat} {s : Sd} (hP : okP P) (h : XP P w) (hq : q < 19) (hx : XS1 q s w) (hs : okS P.1 B s) (hB : B < 2 ^ 29) {i : Nat} (hi : i < P.1) :
    (wedS P s i = none ∧ D_X1_celebrate w q (nI i) = some (0, w)) ∨ ∃ s' w', wedS P s i = some s' ∧ D_X1_celebrate w q (nI i) = some (1, w') ∧ XS1 q s' w' ∧ Off [(3, q)] w w' := by
  have h6 := hP.1
  unfold D_X1_celebrate
  rw [if_pos hq, beginOn_n hP h hq hx hs hB hi, sb]
  unfold wedS
  cases hb : begS P s i with
  | none => exact Or.inl ⟨rfl, if_pos rfl⟩
  | some b =>
    obtain ⟨g1, g2⟩ := begS_le hP hb
    refine Or.inr ⟨_, wS (wS (wS w 3 q 1 (nI (freeW P i b))) 3 q 2 (nI (P.2.2 i 0))) 3 q 3 (nI (s.2.2.1 ||| 2 ^ i)), rfl, ?_, ⟨?_, ?_, wS_at, ?_⟩, ?_⟩
    · have o1 : Off [(3, q)] w (wS w 3 q 1 (nI (freeW P i b))) := Off.wS
      have x1 : XP P (wS w 3 q 1 (nI (freeW P i b))) := h.off o1 (by simp) (by simp) (by simp)
      rw [show enc (some b) = nI b from rfl, if_neg (nI_ne9 (by omega)), free_n hP h hi, sb, ltd, n0, fig_n hP x1 hi (by decide), sb, ltd, ltd, wS_ne (by decide), wS_ne (by decide), hx.2.2.1, orb_n _ (pow_le64 h6 hs.2.2.1) i (by omega)]
    · rw [wS_ne (by decide), wS_ne (by decide), wS_at]
    · rw [wS_ne (by decide), wS_at]
    · intro r hr
      have h15 : ∀ (w : Wd) (j : Nat) (x : Int32), (wS w 3 q j x).1 15 q = w.1 15 q := fun w j x => wS_off (by simp)
      rw [h15, h15, h15]
      exact hx.2.2.2 r hr
    · exact Off.wS.tr (Off.wS.tr Off.wS)
theorem celebrate_o {P : Pa} {w : Wd} {q : Nat} (h : XP P w) (hq : q < 19) {x : Int32} (hx : x < 0 ∨ nI P.1 ≤ x) : D_X1_celebrate w q x = some (0, w) := by
  unfold D_X1_celebrate
  rw [if_pos hq, beginOn_o h hq hx, sb, if_pos rfl]
/-! copies -/
theorem take_loop {a b : Nat} (ha : a < 19) (hb : b < 19) (hab : a ≠ b) {f : Nat → Int32} : ∀ (n j N : Nat) (w : Wd), 5 - j < n → n ≤ N → j ≤ 5 → (∀ r, r < 5 → w.1 15 b r = f r) → (∀ r, r < j → w.1 15 a r = f r) →
    ∃ w', D_X3_take_31 a b N (nI j) w = some w' ∧ (∀ r, r < 5 → w'.1 15 a r = f r) ∧ Off [(15, a)] w w' := by
  intro n
  induction n with
  | zero => intro j N w h; omega
  | succ n ih =>
    intro j N w h hN hj hf hg
    obtain ⟨N, rfl⟩ : ∃ M, N = M + 1 := ⟨N - 1, by omega⟩
    unfold D_X3_take_31
    by_cases h5 : j = 5
    · subst h5
      rw [if_pos (by rw [n5]; exact (nI_leI (by decide) (by decide)).mpr (Nat.le_refl _))]
      exact ⟨w, rfl, hg, Off.rf⟩
    · have hj5 : j < 5 := by omega
      rw [if_neg (by rw [n5, nI_leI (by decide) (by omega)]; omega), at_n (arrZ_15 hb) (by decide) (show j < lenZ 15 from hj5), sb, if_pos ((inB_n (by omega)).mpr hj5), ltd, ltd, nI_clamp (by omega), n1, nI_add]
      have e : rdZ w 15 b j = f j := hf j hj5
      rw [e]
      have hoff : ∀ r, (wS w 15 a j (f j)).1 15 b r = w.1 15 b r := fun r => by rw [wS_off (by simp only [true_and]; exact fun z => hab z.symm)]
      obtain ⟨w', h1, h2, h3⟩ := ih (j + 1) N (wS w 15 a j (f j)) (by omega) (by omega) (by omega) (fun r hr => by rw [hoff]; exact hf r hr) (fun r hr => by
        by_cases hrj : r = j
        · subst hrj; exact wS_at
        · rw [wS_ne hrj]; exact hg r (by omega))
      exact ⟨w', h1, h2, Off.wS.tr h3⟩
theorem take_n {a b : Nat} {w : Wd} {s : Sd} (ha : a < 19) (hb : b < 19) (hab : a ≠ b) (h : XS1 b s w) : ∃ w', D_X3_take w a b = some w' ∧ XS1 a s w' ∧ Off [(3, a), (15, a)] w w' := by
  have hba : b ≠ a := fun z => hab z.symm
  have o3 : ∀ (w : Wd) (j j' : Nat) (x : Int32), (wS w 3 a j x).1 3 b j' = w.1 3 b j' := fun w j j' x => by rw [wS_off (by simp only [true_and]; exact hba)]
  have o15 : ∀ (w : Wd) (j : Nat) (x : Int32) (q : Nat), (wS w 3 a j x).1 15 q = w.1 15 q := fun w j x q => wS_off (by simp)
  unfold D_X3_take
  rw [if_pos ha, if_pos hb, ltd, ltd, ltd, o3, o3, o3]
  obtain ⟨w', h1, h2, h3⟩ := take_loop ha hb hab (f := fun r => nI (s.2.2.2 r)) 6 0 fuelZ (wS (wS (wS w 3 a 1 (w.1 3 b 1)) 3 a 2 (w.1 3 b 2)) 3 a 3 (w.1 3 b 3)) (by omega) (by decide) (by omega) (fun r hr => by rw [o15, o15, o15]; exact h.2.2.2 r hr) (fun r hr => by omega)
  refine ⟨w', h1, ?_, ?_⟩
  · have e : w'.1 3 a = (wS (wS (wS w 3 a 1 (w.1 3 b 1)) 3 a 2 (w.1 3 b 2)) 3 a 3 (w.1 3 b 3)).1 3 a := h3.1 3 a (by simp)
    refine ⟨?_, ?_, ?_, h2⟩
    · rw [e, wS_ne (by decide), wS_ne (by decide), wS_at]; exact h.1
    · rw [e, wS_ne (by decide), wS_at]; exact h.2.1
    · rw [e, wS_at]; exact h.2.2.1
  · exact ((Off.wS.tr (Off.wS.tr Off.wS)).mono (by simp)).tr (h3.mono (by simp))
