/-! what holds stays, when other cells change -/
theorem OffC.of {L : List (Nat × Nat)} {w w' : Wd} (h : Off L w w') : OffC (fun k i _ => (k, i) ∈ L) w w' := ⟨fun k i j hk => by rw [h.1 k i hk], h.2⟩
theorem XP.offC {P : Pa} {w w' : Wd} {C : Nat → Nat → Nat → Prop} (h : XP P w) (o : OffC C w w') (hc : ∀ k i j, C k i j → k ≠ 1 ∧ k ≠ 11 ∧ k ≠ 12) : XP P w' := by
  have e : ∀ k, (k = 1 ∨ k = 11 ∨ k = 12) → ∀ j, w'.1 k 0 j = w.1 k 0 j := fun k hk j => o.1 k 0 j (fun z => by have := hc k 0 j z; omega)
  unfold XP
  simp only [e 1 (by decide), e 11 (by decide), e 12 (by decide)]
  exact h
theorem MP.offC {P : Pa} {w w' : Wd} {C : Nat → Nat → Nat → Prop} (h : MP P w) (o : OffC C w w') (hc : ∀ k i j, C k i j → ¬ (k = 6 ∧ j ≤ 1) ∧ ¬ (20 ≤ k ∧ k ≤ 24)) : MP P w' := by
  have e : ∀ k, (20 ≤ k ∧ k ≤ 24) → ∀ j, w'.1 k 0 j = w.1 k 0 j := fun k hk j => o.1 k 0 j (fun z => by have := hc k 0 j z; omega)
  have e0 : ∀ j, j ≤ 1 → w'.1 6 0 j = w.1 6 0 j := fun j hj => o.1 6 0 j (fun z => by have := hc 6 0 j z; omega)
  unfold MP
  simp only [e0 0 (by decide), e0 1 (by decide), e 20 (by decide), e 21 (by decide), e 22 (by decide), e 23 (by decide), e 24 (by decide)]
  exact h
theorem XS1.offC {q : Nat} {s : Sd} {w w' : Wd} {C : Nat → Nat → Nat → Prop} (h : XS1 q s w) (o : OffC C w w') (hc : ∀ k i j, C k i j → ¬ ((k = 3 ∨ k = 15) ∧ i = q)) : XS1 q s w' := by
  have e : ∀ k, (k = 3 ∨ k = 15) → ∀ j, w'.1 k q j = w.1 k q j := fun k hk j => o.1 k q j (fun z => by have := hc k q j z; omega)
  unfold XS1
  simp only [e 3 (by decide), e 15 (by decide)]
  exact h
theorem ML.offC {s : Sd} {w w' : Wd} {C : Nat → Nat → Nat → Prop} (h : ML 0 s w) (o : OffC C w w') (hc : ∀ k i j, C k i j → ¬ (k = 25 ∧ j < 8)) : ML 0 s w' :=
  Blk_off (k := 25) (b := 8 * 0) h o (fun r hr z => by have := hc _ _ _ z; omega)
theorem TXi.offC {t : Nat} {tx : Nat → Nat} {w w' : Wd} {C : Nat → Nat → Nat → Prop} (h : TXi t tx w) (o : OffC C w w') (hc : ∀ k i j, C k i j → k ≠ 4 ∧ k ≠ 10 ∧ k ≠ 26 ∧ ¬ (k = 6 ∧ j = 9)) : TXi t tx w' := by
  have e : ∀ k, (k = 4 ∨ k = 10 ∨ k = 26) → ∀ j, w'.1 k 0 j = w.1 k 0 j := fun k hk j => o.1 k 0 j (fun z => by have := hc k 0 j z; omega)
  have e0 : w'.1 6 0 9 = w.1 6 0 9 := o.1 6 0 9 (fun z => by have := hc 6 0 9 z; omega)
  unfold TXi
  simp only [e0, e 4 (by decide), e 10 (by decide), e 26 (by decide)]
  exact h
theorem AXh.offC {A : Nat → Sd} {na old : Nat} {w w' : Wd} {C : Nat → Nat → Nat → Prop} (h : AXh A na old w) (o : OffC C w w') (hc : ∀ k i j, C k i j → k ≠ 0 ∧ ¬ ((k = 3 ∨ k = 15) ∧ 5 ≤ i)) : AXh A na old w' := by
  have e : ∀ j, w'.1 0 0 j = w.1 0 0 j := fun j => o.1 0 0 j (fun z => by have := hc 0 0 j z; omega)
  refine ⟨(e 1).trans h.1, (e 2).trans h.2.1, fun i hi => (h.2.2 i hi).offC o (fun k i' j z => ?_)⟩
  have := hc k i' j z
  omega
theorem AMh.offC {A : Nat → Sd} {na nx : Nat} {w w' : Wd} {C : Nat → Nat → Nat → Prop} (h : AMh A na nx w) (o : OffC C w w') (hc : ∀ k i j, C k i j → k ≠ 27 ∧ ¬ (k = 6 ∧ (j = 10 ∨ j = 11))) : AMh A na nx w' := by
  have e : ∀ j, (j = 10 ∨ j = 11) → w'.1 6 0 j = w.1 6 0 j := fun j hj => o.1 6 0 j (fun z => by have := hc 6 0 j z; omega)
  refine ⟨(e 10 (by decide)).trans h.1, (e 11 (by decide)).trans h.2.1, fun i hi => Blk_off (h.2.2 i hi) o (fun r hr z => ?_)⟩
  have := hc _ _ _ z
  omega
theorem KEi.offC {n B : Nat} {K : Nat → Option Sd} {w w' : Wd} {C : Nat → Nat → Nat → Prop} (h : KEi n B K w) (o : OffC C w w') (hc : ∀ k i j, C k i j → k ≠ 19 ∧ k ≠ 32 ∧ k ≠ 33 ∧ ¬ ((k = 3 ∨ k = 15) ∧ (i = 3 ∨ i = 4))) : KEi n B K w' := by
  have e : ∀ k, (k = 19 ∨ k = 33) → ∀ j, w'.1 k 0 j = w.1 k 0 j := fun k hk j => o.1 k 0 j (fun z => by have := hc k 0 j z; omega)
  intro q hq
  obtain ⟨h1, h2, h3⟩ := h q hq
  refine ⟨(e 19 (by decide) q).trans h1, (e 33 (by decide) q).trans h2, fun x hx => ⟨(h3 x hx).1, (h3 x hx).2.1.offC o (fun k i j z => ?_), Blk_off (h3 x hx).2.2 o (fun r hr z => ?_)⟩⟩
  · have := hc k i j z
    omega
  · have := hc _ _ _ z
    omega
theorem VIi.offC {V : Nat → Nat × Nat} {nv : Nat} {w w' : Wd} {C : Nat → Nat → Nat → Prop} (h : VIi V nv w) (o : OffC C w w') (hc : ∀ k i j, C k i j → ¬ (k = 5 ∧ j = 11) ∧ ¬ (k = 6 ∧ j = 14) ∧ k ≠ 16 ∧ k ≠ 17 ∧ k ≠ 29 ∧ k ≠ 30) : VIi V nv w' := by
  have e : ∀ k, (k = 16 ∨ k = 17 ∨ k = 29 ∨ k = 30) → ∀ j, w'.1 k 0 j = w.1 k 0 j := fun k hk j => o.1 k 0 j (fun z => by have := hc k 0 j z; omega)
  have e0 : w'.1 5 0 11 = w.1 5 0 11 := o.1 5 0 11 (fun z => by have := hc 5 0 11 z; omega)
  have e1 : w'.1 6 0 14 = w.1 6 0 14 := o.1 6 0 14 (fun z => by have := hc 6 0 14 z; omega)
  unfold VIi
  simp only [e0, e1, e 16 (by decide), e 17 (by decide), e 29 (by decide), e 30 (by decide)]
  exact h
/-- an act: class and reference answer alike, and what holds goes on -/
def OkI {α : Type} (dx dm : Wd → Option (α × Wd)) : Prop := ∀ c w, c < 2 ^ 20 → Inv c w → ∃ r w1 w2, dx w = some (r, w1) ∧ dm w1 = some (r, w2) ∧ Inv (c + 1) w2
theorem OkI.q {dx dm : Wd → Option (Int32 × Wd)} (h : ∀ P B N, 10 ≤ B ∧ B < 2 ^ 27 → OkQ P B N dx dm) : OkI dx dm := by
  intro c w hc hi
  have hi' := hi
  obtain ⟨t, tx, P, N, A, na, old, nx, K, V, nv, h1, h2, h3, h4, h5, h6⟩ := hi
  obtain ⟨r, w1, w2, a1, a2, a3, a4⟩ := h P (16 * c + 16) N ⟨by omega, by omega⟩ w h2
  exact ⟨r, w1, w2, a1, a3, hi'.same (a2.tr a4)⟩
def CXn (k i _ : Nat) : Prop := (k = 3 ∨ k = 15) ∧ i = 0
def CMn (k i _ : Nat) : Prop := k = 25 ∧ i = 0
theorem pshA_ok {n B : Nat} {A : Nat → Sd} {na : Nat} {N : Sd} (h : ∀ i, i < na → okS n B (A i)) (hN : okS n B N) (hna : na ≤ 14) : ∀ i, i < pshN na → okS n B (pshA A na N i) := by
  intro i hi
  unfold pshN at hi
  unfold pshA
  by_cases hf : na < 14
  · rw [if_pos hf] at hi ⊢
    by_cases hin : i = na
    · rw [if_pos hin]; exact hN
    · rw [if_neg hin]; exact h i (by omega)
  · rw [if_neg hf] at hi ⊢
    by_cases hin : i = 13
    · rw [if_pos hin]; exact hN
    · rw [if_neg hin]; exact h (i + 1) (by omega)
theorem act_n {α : Type} {c : Nat} {w : Wd} {t : Nat} {tx : Nat → Nat} {P : Pa} {N : Sd} {A : Nat → Sd} {na old nx : Nat} {K : Nat → Option Sd} {V : Nat → Nat × Nat} {nv : Nat}
    (h1 : TXi t tx w) (h2 : QI P (16 * c + 16) N w) (h3 : ACi P.1 (16 * c + 16) A na old nx w) (h4 : KEi P.1 (16 * c + 16) K w) (h5 : VIi V nv w) (h6 : w.2 5 = w.2 6)
    {fx fm : Wd → Option (α × Wd)} {r : α} {N' : Sd} (hN' : okS P.1 (16 * (c + 1) + 16) N')
    (hx : ∀ w', XP P w' → XS1 0 N w' → ∃ w1, fx w' = some (r, w1) ∧ XS1 0 N' w1 ∧ OffC CXn w' w1)
    (hm : ∀ w', MP P w' → ML 0 N w' → ∃ w1, fm w' = some (r, w1) ∧ ML 0 N' w1 ∧ OffC CMn w' w1) :
    ∃ w1 w2, (D_X0_remember w 0).bind fx = some (r, w1) ∧ (D_X6_keepAct w1).bind fm = some (r, w2) ∧ Inv (c + 1) w2 ∧ MP P w1 ∧ ML 0 N w1 := by
  obtain ⟨hP, hX, hM, hs, hx0, hm0⟩ := h2
  obtain ⟨⟨g1, g2, g3, g4⟩, gx, gm⟩ := ACi_iff.mp h3
  obtain ⟨w1, a1, a2, a3⟩ := remember_n g1 g2 gx hx0
  have o1 := OffC.of a3
  have hlt := Nat.mod_lt (old + na) (show 14 > 0 by decide)
  have hC1 : ∀ k i j, (fun k i (_ : Nat) => (k, i) ∈ [(0, 0), (3, 5 + (old + na) % 14), (15, 5 + (old + na) % 14)]) k i j → (k = 0 ∨ ((k = 3 ∨ k = 15) ∧ 5 ≤ i)) := by
    intro k i j z
    simp only [List.mem_cons, Prod.mk.injEq, List.not_mem_nil, or_false] at z
    omega
  have o1 := o1.mono hC1
  obtain ⟨w2, b1, b2, b3⟩ := hx w1 (hX.offC o1 (by intro k i j z; (try dsimp only at z); omega)) (hx0.offC o1 (by intro k i j z; (try dsimp only at z); omega))
  have o2 := (o1.tr b3).mono (D := fun k i j => k = 0 ∨ k = 3 ∨ k = 15) (by intro k i j z; unfold CXn at z; (try dsimp only at z); omega)
  obtain ⟨w3, c1, c2, c3⟩ := keepAct_n g1 g3 (gm.offC o2 (by intro k i j z; (try dsimp only at z); omega)) (hm0.offC o2 (by intro k i j z; (try dsimp only at z); omega))
  have o3 := o2.tr c3
  obtain ⟨w4, d1, d2, d3⟩ := hm w3 (hM.offC o3 (by intro k i j z; (try dsimp only at z); omega)) (hm0.offC o3 (by intro k i j z; (try dsimp only at z); omega))
  have oa := o1.tr (b3.tr (c3.tr d3))
  have ob := c3.tr d3
  refine ⟨w2, w4, by rw [a1]; exact b1, by rw [c1]; exact d1, ⟨t, tx, P, N', pshA A na N, pshN na, pshO na old, (nx + 1) % 14, K, V, nv, ?_, ⟨hP, ?_, ?_, hN', ?_, d2⟩, ACi_iff.mpr ⟨⟨?_, ?_, ?_, ?_⟩, ?_, ?_⟩, KEi.mono (B := 16 * c + 16) ?_ (by omega), ?_, ?_⟩, hM.offC o2 (by intro k i j z; (try dsimp only at z); omega), hm0.offC o2 (by intro k i j z; (try dsimp only at z); omega)⟩
  · exact h1.offC oa (by intro k i j z; unfold CXn CMn at z; (try dsimp only at z); omega)
  · exact hX.offC oa (by intro k i j z; unfold CXn CMn at z; (try dsimp only at z); omega)
  · exact hM.offC oa (by intro k i j z; unfold CXn CMn at z; (try dsimp only at z); omega)
  · exact b2.offC ob (by intro k i j z; unfold CMn at z; (try dsimp only at z); omega)
  · unfold pshN; split <;> omega
  · unfold pshO; split <;> omega
  · omega
  · intro i hi; exact (pshA_ok g4 hs g1 i hi).mono (by omega)
  · exact a2.offC (b3.tr ob) (by intro k i j z; unfold CXn CMn at z; (try dsimp only at z); omega)
  · exact c2.offC d3 (by intro k i j z; unfold CMn at z; (try dsimp only at z); omega)
  · exact h4.offC oa (by intro k i j z; unfold CXn CMn at z; (try dsimp only at z); omega)
  · exact h5.offC oa (by intro k i j z; unfold CXn CMn at z; (try dsimp only at z); omega)
  · rw [oa.2]; exact h6
