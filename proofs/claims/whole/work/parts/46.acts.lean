/-! acts kept, and taken back -/
def AXh (A : Nat → Sd) (na old : Nat) (w : Wd) : Prop := w.1 0 0 1 = nI old ∧ w.1 0 0 2 = nI na ∧ ∀ i, i < na → XS1 (5 + (old + i) % 14) (A i) w
def AMh (A : Nat → Sd) (na nx : Nat) (w : Wd) : Prop := w.1 6 0 10 = nI na ∧ w.1 6 0 11 = nI nx ∧ ∀ i, i < na → Blk 27 (8 * ((nx + 14 - na + i) % 14)) (A i) w
theorem ACi_iff {n B : Nat} {A : Nat → Sd} {na old nx : Nat} {w : Wd} : ACi n B A na old nx w ↔ (na ≤ 14 ∧ old < 14 ∧ nx < 14 ∧ ∀ i, i < na → okS n B (A i)) ∧ AXh A na old w ∧ AMh A na nx w := by
  unfold ACi AXh AMh
  constructor
  · rintro ⟨h1, h2, h3, h4, h5, h6, h7, h8⟩
    exact ⟨⟨h1, h2, h3, fun i hi => (h8 i hi).1⟩, ⟨h4, h5, fun i hi => (h8 i hi).2.1⟩, h6, h7, fun i hi => (h8 i hi).2.2⟩
  · rintro ⟨⟨h1, h2, h3, h8⟩, ⟨h4, h5, h9⟩, h6, h7, h10⟩
    exact ⟨h1, h2, h3, h4, h5, h6, h7, fun i hi => ⟨h8 i hi, h9 i hi, h10 i hi⟩⟩
def pshA (A : Nat → Sd) (na : Nat) (N : Sd) : Nat → Sd := if na < 14 then fun i => if i = na then N else A i else fun i => if i = 13 then N else A (i + 1)
def pshN (na : Nat) : Nat := if na < 14 then na + 1 else 14
def pshO (na old : Nat) : Nat := if na < 14 then old else (old + 1) % 14
theorem mod14_n {a : Nat} (ha : a < 2 ^ 30) : nI a - nI a / (14 : Int32) * (14 : Int32) = nI (a % 14) := by
  rw [n14, pk_div (by omega) (by decide) (by decide), pk_mul, pk_sub (by have := Nat.div_mul_le_self a 14; omega)]
  congr 1
  have := Nat.div_add_mod a 14
  omega
theorem standAt_n {w : Wd} {old j : Nat} (h : w.1 0 0 1 = nI old) (ho : old < 14) (hj : j ≤ 14) : D_X0_standAt w (nI j) = some (5 + (old + j) % 14) := by
  unfold D_X0_standAt
  have hlt := Nat.mod_lt (old + j) (show 14 > 0 by decide)
  rw [h, nI_add, mod14_n (by omega), ltd, if_neg (nI_lt0 (by omega)), if_neg (by rw [n14, nI_leI (by decide) (by omega)]; omega), if_pos ((inB_n (by omega)).mpr hlt), nI_clamp (by omega)]
theorem remember_n {w : Wd} {A : Nat → Sd} {na old : Nat} {N : Sd} (hna : na ≤ 14) (ho : old < 14) (h : AXh A na old w) (hx : XS1 0 N w) :
    ∃ w', D_X0_remember w 0 = some w' ∧ AXh (pshA A na N) (pshN na) (pshO na old) w' ∧ Off [(0, 0), (3, 5 + (old + na) % 14), (15, 5 + (old + na) % 14)] w w' := by
  obtain ⟨h1, h2, h3⟩ := h
  have hlt := Nat.mod_lt (old + na) (show 14 > 0 by decide)
  unfold D_X0_remember
  rw [if_pos (by decide), h2, standAt_n h1 ho hna, sb, if_pos (by omega)]
  obtain ⟨w1, a1, a2, a3⟩ := take_n (a := 5 + (old + na) % 14) (b := 0) (by omega) (by decide) (by omega) hx
  have e1 : w1.1 0 0 1 = nI old := by rw [a3.1 0 0 (by simp)]; exact h1
  have e2 : w1.1 0 0 2 = nI na := by rw [a3.1 0 0 (by simp)]; exact h2
  rw [a1, sb, e1, e2]
  by_cases hf : na < 14
  · rw [if_neg (by rw [n14, nI_leI (by decide) (by omega)]; omega), ltd, n1, nI_add]
    have o1 : Off [(0, 0)] w1 (wS w1 0 0 2 (nI (na + 1))) := Off.wS
    refine ⟨_, rfl, ⟨?_, ?_, fun i hi => ?_⟩, (a3.mono (by intro q hq; exact List.mem_cons_of_mem _ hq)).tr (o1.mono (by intro q hq; rw [List.mem_singleton.mp hq]; exact List.mem_cons_self))⟩
    · rw [wS_ne (by decide), e1]; unfold pshO; rw [if_pos hf]
    · rw [wS_at]; unfold pshN; rw [if_pos hf]
    · unfold pshN at hi
      unfold pshO pshA
      rw [if_pos hf] at hi
      rw [if_pos hf, if_pos hf]
      refine XS1.off ?_ o1 (by simp) (by simp)
      by_cases hin : i = na
      · rw [if_pos hin, hin]; exact a2
      · rw [if_neg hin]
        refine (h3 i (by omega)).off a3 ?_ ?_
        · intro hm; simp only [List.mem_cons, Prod.mk.injEq, List.not_mem_nil, or_false] at hm; omega
        · intro hm; simp only [List.mem_cons, Prod.mk.injEq, List.not_mem_nil, or_false] at hm; omega
  · have hna14 : na = 14 := by omega
    rw [if_pos (by rw [n14, nI_leI (by decide) (by omega)]; omega), n1, nI_add, mod14_n (by omega), ltd]
    have o1 : Off [(0, 0)] w1 (wS w1 0 0 1 (nI ((old + 1) % 14))) := Off.wS
    refine ⟨_, rfl, ⟨?_, ?_, fun i hi => ?_⟩, (a3.mono (by intro q hq; exact List.mem_cons_of_mem _ hq)).tr (o1.mono (by intro q hq; rw [List.mem_singleton.mp hq]; exact List.mem_cons_self))⟩
    · rw [wS_at]; unfold pshO; rw [if_neg hf]
    · rw [wS_ne (by decide), e2]; unfold pshN; rw [if_neg hf, hna14]
    · unfold pshN at hi
      unfold pshO pshA
      rw [if_neg hf] at hi
      rw [if_neg hf, if_neg hf]
      refine XS1.off ?_ o1 (by simp) (by simp)
      by_cases hin : i = 13
      · rw [if_pos hin, hin, show 5 + ((old + 1) % 14 + 13) % 14 = 5 + (old + na) % 14 by omega]; exact a2
      · rw [if_neg hin, show 5 + ((old + 1) % 14 + i) % 14 = 5 + (old + (i + 1)) % 14 by omega]
        refine (h3 (i + 1) (by omega)).off a3 ?_ ?_
        · intro hm; simp only [List.mem_cons, Prod.mk.injEq, List.not_mem_nil, or_false] at hm; omega
        · intro hm; simp only [List.mem_cons, Prod.mk.injEq, List.not_mem_nil, or_false] at hm; omega
/-- only these cells have changed -/
def OffC (C : Nat → Nat → Nat → Prop) (w w' : Wd) : Prop := (∀ k i j, ¬ C k i j → w'.1 k i j = w.1 k i j) ∧ w'.2 = w.2
theorem OffC.tr {C D : Nat → Nat → Nat → Prop} {a b c : Wd} (h1 : OffC C a b) (h2 : OffC D b c) : OffC (fun k i j => C k i j ∨ D k i j) a c := ⟨fun k i j h => (h2.1 k i j (fun z => h (Or.inr z))).trans (h1.1 k i j (fun z => h (Or.inl z))), h2.2.trans h1.2⟩
theorem OffC.mono {C D : Nat → Nat → Nat → Prop} {a b : Wd} (h : OffC C a b) (hs : ∀ k i j, C k i j → D k i j) : OffC D a b := ⟨fun k i j hk => h.1 k i j (fun z => hk (hs k i j z)), h.2⟩
theorem OffC.wS {w : Wd} {k i j : Nat} {x : Int32} : OffC (fun a b c => a = k ∧ b = i ∧ c = j) w (wS w k i j x) := ⟨fun a b c h => by
  by_cases h1 : a = k ∧ b = i
  · obtain ⟨rfl, rfl⟩ := h1
    exact wS_ne (fun z => h ⟨rfl, rfl, z⟩)
  · rw [wS_off h1], rfl⟩
theorem OffC.rf {C : Nat → Nat → Nat → Prop} {w : Wd} : OffC C w w := ⟨fun _ _ _ _ => rfl, rfl⟩
theorem Blk_cells {k b k' b' : Nat} {s : Sd} {w w' : Wd} (h : Blk k b s w) (hc : ∀ r, r < 8 → w'.1 k' 0 (b' + r) = w.1 k 0 (b + r)) : Blk k' b' s w' := by
  refine ⟨?_, ?_, ?_, fun r hr => ?_⟩
  · exact (hc 0 (by omega)).trans h.1
  · exact (hc 1 (by omega)).trans h.2.1
  · exact (hc 2 (by omega)).trans h.2.2.1
  · rw [show b' + 3 + r = b' + (3 + r) by omega, hc (3 + r) (by omega), show b + (3 + r) = b + 3 + r by omega]
    exact h.2.2.2 r hr
theorem Blk_off {C : Nat → Nat → Nat → Prop} {k b : Nat} {s : Sd} {w w' : Wd} (h : Blk k b s w) (ho : OffC C w w') (hc : ∀ r, r < 8 → ¬ C k 0 (b + r)) : Blk k b s w' :=
  Blk_cells h (fun r hr => ho.1 k 0 (b + r) (hc r hr))
theorem keepAct_loop {nx na : Nat} (hnx : nx < 14) (hna : na ≤ 14) : ∀ (n j N : Nat) (w : Wd), 8 - j < n → n ≤ N → j ≤ 8 → w.1 6 0 11 = nI nx → w.1 6 0 10 = nI na → (∀ r, r < j → w.1 27 0 (8 * nx + r) = w.1 25 0 r) →
    ∃ w', D_X6_keepAct_2 N (nI j) w = some w' ∧ (∀ r, r < 8 → w'.1 27 0 (8 * nx + r) = w.1 25 0 r) ∧ w'.1 6 0 11 = nI ((nx + 1) % 14) ∧ w'.1 6 0 10 = nI (pshN na) ∧ OffC (fun k i c => (k = 27 ∧ i = 0 ∧ 8 * nx ≤ c ∧ c < 8 * nx + 8) ∨ (k = 6 ∧ i = 0 ∧ (c = 10 ∨ c = 11))) w w' := by
  intro n
  induction n with
  | zero => intro j N w h; omega
  | succ n ih =>
    intro j N w h hN hj e1 e2 hg
    obtain ⟨N, rfl⟩ : ∃ M, N = M + 1 := ⟨N - 1, by omega⟩
    unfold D_X6_keepAct_2
    by_cases h8 : j = 8
    · subst h8
      rw [if_pos (by rw [n8]; exact (nI_leI (by decide) (by decide)).mpr (Nat.le_refl _)), e1, n1, nI_add, mod14_n (by omega), ltd]
      have e3 : (wS w 6 0 11 (nI ((nx + 1) % 14))).1 6 0 10 = nI na := by rw [wS_ne (by decide)]; exact e2
      rw [e3]
      have key : ∀ v, ∃ w', lt (wS (wS w 6 0 11 (nI ((nx + 1) % 14))) 6 0 10 (nI v)) (fun w4 => some w4) = some w' ∧ (∀ r, r < 8 → w'.1 27 0 (8 * nx + r) = w.1 25 0 r) ∧ w'.1 6 0 11 = nI ((nx + 1) % 14) ∧ w'.1 6 0 10 = nI v ∧ OffC (fun k i c => (k = 27 ∧ i = 0 ∧ 8 * nx ≤ c ∧ c < 8 * nx + 8) ∨ (k = 6 ∧ i = 0 ∧ (c = 10 ∨ c = 11))) w w' := by
        intro v
        refine ⟨_, rfl, fun r hr => ?_, ?_, ?_, ?_⟩
        · rw [wS_off (by decide), wS_off (by decide)]; exact hg r hr
        · rw [wS_ne (by decide), wS_at]
        · rw [wS_at]
        · refine (OffC.wS.tr OffC.wS).mono ?_
          rintro k i c (⟨rfl, rfl, rfl⟩ | ⟨rfl, rfl, rfl⟩)
          · exact Or.inr ⟨rfl, rfl, Or.inr rfl⟩
          · exact Or.inr ⟨rfl, rfl, Or.inl rfl⟩
      by_cases hf : na < 14
      · rw [if_neg (by rw [n14, nI_leI (by decide) (by omega)]; omega), nI_add]
        have := key (na + 1)
        unfold pshN
        rw [if_pos hf]
        exact this
      · rw [if_pos (by rw [n14, nI_leI (by decide) (by omega)]; omega)]
        have := key 14
        unfold pshN
        rw [if_neg hf]
        exact this
    · have hj8 : j < 8 := by omega
      rw [if_neg (by rw [n8, nI_leI (by decide) (by omega)]; omega), e1, n8, pk_mul, nI_add, if_pos ((inB_n (by omega)).mpr (by omega)), if_pos ((inB_n (by omega)).mpr (by omega)), ltd, ltd, nI_clamp (by omega), nI_clamp (by omega), n1, nI_add]
      obtain ⟨w', h1, h2, h3, h4, h5⟩ := ih (j + 1) N (wS w 27 0 (8 * nx + j) (w.1 25 0 j)) (by omega) (by omega) (by omega) (by rw [wS_off (by decide)]; exact e1) (by rw [wS_off (by decide)]; exact e2) (fun r hr => by
        rw [wS_off (k' := 25) (by decide)]
        by_cases hrj : r = j
        · subst hrj; rw [wS_at]
        · rw [wS_ne (by omega)]; exact hg r (by omega))
      refine ⟨w', h1, fun r hr => (h2 r hr).trans (by rw [wS_off (by decide)]), h3, h4, (OffC.wS.tr h5).mono ?_⟩
      rintro k i c (⟨rfl, rfl, rfl⟩ | z)
      · exact Or.inl ⟨rfl, rfl, by omega, by omega⟩
      · exact z
theorem keepAct_n {w : Wd} {A : Nat → Sd} {na nx : Nat} {N : Sd} (hna : na ≤ 14) (hnx : nx < 14) (h : AMh A na nx w) (hm : ML 0 N w) :
    ∃ w', D_X6_keepAct w = some w' ∧ AMh (pshA A na N) (pshN na) ((nx + 1) % 14) w' ∧ OffC (fun k i c => (k = 27 ∧ i = 0 ∧ 8 * nx ≤ c ∧ c < 8 * nx + 8) ∨ (k = 6 ∧ i = 0 ∧ (c = 10 ∨ c = 11))) w w' := by
  obtain ⟨w', h1, h2, h3, h4, h5⟩ := keepAct_loop hnx hna 9 0 fuelZ w (by omega) (by decide) (by omega) h.2.1 h.1 (fun r hr => by omega)
  refine ⟨w', h1, ⟨h4, h3, fun i hi => ?_⟩, h5⟩
  have hb : Blk 27 (8 * nx) N w' := Blk_cells (k := 25) (b := 8 * 0) hm (fun r hr => by rw [h2 r hr, show 8 * 0 + r = r by omega])
  have hold : ∀ q, q < na → (nx + 14 - na + q) % 14 ≠ nx → Blk 27 (8 * ((nx + 14 - na + q) % 14)) (A q) w' := fun q hq hne => Blk_off (h.2.2 q hq) h5 (fun r hr z => by omega)
  unfold pshN at hi ⊢
  unfold pshA
  by_cases hf : na < 14
  · rw [if_pos hf] at hi ⊢
    rw [if_pos hf]
    by_cases hin : i = na
    · rw [if_pos hin, show ((nx + 1) % 14 + 14 - (na + 1) + i) % 14 = nx by omega]; exact hb
    · rw [if_neg hin, show ((nx + 1) % 14 + 14 - (na + 1) + i) % 14 = (nx + 14 - na + i) % 14 by omega]
      exact hold i (by omega) (by omega)
  · rw [if_neg hf] at hi ⊢
    rw [if_neg hf]
    by_cases hin : i = 13
    · rw [if_pos hin, show ((nx + 1) % 14 + 14 - 14 + i) % 14 = nx by omega]; exact hb
    · rw [if_neg hin, show ((nx + 1) % 14 + 14 - 14 + i) % 14 = (nx + 14 - na + (i + 1)) % 14 by omega]
      exact hold (i + 1) (by omega) (by omega)
