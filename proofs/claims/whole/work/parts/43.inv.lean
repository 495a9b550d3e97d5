/-! what holds between the calls -/
def Blk (k b : Nat) (s : Sd) (w : Wd) : Prop := w.1 k 0 b = nI s.1 ∧ w.1 k 0 (b + 1) = nI s.2.1 ∧ w.1 k 0 (b + 2) = nI s.2.2.1 ∧ ∀ r, r < 5 → w.1 k 0 (b + 3 + r) = nI (s.2.2.2 r)
theorem Blk_ML {l : Nat} {s : Sd} {w : Wd} : ML l s w ↔ Blk 25 (8 * l) s w := Iff.rfl
def SC : List (Nat × Nat) := [(2, 0), (3, 1), (3, 2), (15, 1), (15, 2), (13, 0), (14, 0), (18, 0), (28, 0), (31, 0)]
/-- only what is scratch has changed -/
def Sm (w w' : Wd) : Prop := (∀ k i, (k, i) ∉ SC → (k, i) ≠ (25, 0) → w'.1 k i = w.1 k i) ∧ (∀ j, j < 8 → w'.1 25 0 j = w.1 25 0 j) ∧ w'.2 = w.2
theorem Sm.rf {w : Wd} : Sm w w := ⟨fun _ _ _ _ => rfl, fun _ _ => rfl, rfl⟩
theorem Sm.tr {a b c : Wd} (h1 : Sm a b) (h2 : Sm b c) : Sm a c := ⟨fun k i h g => (h2.1 k i h g).trans (h1.1 k i h g), fun j hj => (h2.2.1 j hj).trans (h1.2.1 j hj), h2.2.2.trans h1.2.2⟩
theorem Sm.off {L : List (Nat × Nat)} {w w' : Wd} (h : Off L w w') (hs : ∀ q ∈ L, q ∈ SC) : Sm w w' := ⟨fun k i hk _ => h.1 k i (fun z => hk (hs _ z)), fun j _ => by rw [h.1 25 0 (fun z => absurd (hs _ z) (by decide))], h.2⟩
theorem Sm.offM {w w' : Wd} (h : OffM w w') : Sm w w' := ⟨fun k i _ hk => h.1 k i hk, h.2.1, h.2.2⟩
theorem XP.same {P : Pa} {w w' : Wd} (h : XP P w) (o : Sm w w') : XP P w' := by
  unfold XP
  rw [o.1 1 0 (by decide) (by decide), o.1 11 0 (by decide) (by decide), o.1 12 0 (by decide) (by decide)]
  exact h
theorem MP.same {P : Pa} {w w' : Wd} (h : MP P w) (o : Sm w w') : MP P w' := by
  unfold MP
  rw [o.1 6 0 (by decide) (by decide), o.1 20 0 (by decide) (by decide), o.1 21 0 (by decide) (by decide), o.1 22 0 (by decide) (by decide), o.1 23 0 (by decide) (by decide), o.1 24 0 (by decide) (by decide)]
  exact h
theorem notSC {k q : Nat} (hk : k = 3 ∨ k = 15) (h1 : q ≠ 1) (h2 : q ≠ 2) : (k, q) ∉ SC ∧ (k, q) ≠ (25, 0) := by
  unfold SC
  constructor
  · intro h
    simp only [List.mem_cons, Prod.mk.injEq, List.not_mem_nil, or_false] at h
    omega
  · intro h; cases h; omega
theorem XS1.same {q : Nat} {s : Sd} {w w' : Wd} (h : XS1 q s w) (o : Sm w w') (h1 : q ≠ 1) (h2 : q ≠ 2) : XS1 q s w' := by
  unfold XS1
  rw [o.1 3 q (notSC (Or.inl rfl) h1 h2).1 (notSC (Or.inl rfl) h1 h2).2, o.1 15 q (notSC (Or.inr rfl) h1 h2).1 (notSC (Or.inr rfl) h1 h2).2]
  exact h
theorem ML.same {s : Sd} {w w' : Wd} (h : ML 0 s w) (o : Sm w w') : ML 0 s w' := by
  refine ⟨?_, ?_, ?_, fun r hr => ?_⟩
  · rw [o.2.1 _ (by omega)]; exact h.1
  · rw [o.2.1 _ (by omega)]; exact h.2.1
  · rw [o.2.1 _ (by omega)]; exact h.2.2.1
  · rw [o.2.1 _ (by omega)]; exact h.2.2.2 r hr
/-- the parish and how things stand now -/
def QI (P : Pa) (B : Nat) (N : Sd) (w : Wd) : Prop := okP P ∧ XP P w ∧ MP P w ∧ okS P.1 B N ∧ XS1 0 N w ∧ ML 0 N w
theorem QI.same {P : Pa} {B : Nat} {N : Sd} {w w' : Wd} (h : QI P B N w) (o : Sm w w') : QI P B N w' := ⟨h.1, h.2.1.same o, h.2.2.1.same o, h.2.2.2.1, h.2.2.2.2.1.same o (by decide) (by decide), h.2.2.2.2.2.same o⟩
def TXi (t : Nat) (tx : Nat → Nat) (w : Wd) : Prop := t ≤ 48 ∧ (∀ j, j < 48 → tx j ≤ 255) ∧ w.1 4 0 1 = nI t ∧ w.1 6 0 9 = nI t ∧ ∀ j, j < 48 → w.1 10 0 j = nI (tx j) ∧ w.1 26 0 j = nI (tx j)
def ACi (n B : Nat) (A : Nat → Sd) (na old nx : Nat) (w : Wd) : Prop := na ≤ 14 ∧ old < 14 ∧ nx < 14 ∧ w.1 0 0 1 = nI old ∧ w.1 0 0 2 = nI na ∧ w.1 6 0 10 = nI na ∧ w.1 6 0 11 = nI nx ∧ ∀ i, i < na → okS n B (A i) ∧ XS1 (5 + (old + i) % 14) (A i) w ∧ Blk 27 (8 * ((nx + 14 - na + i) % 14)) (A i) w
def KEi (n B : Nat) (K : Nat → Option Sd) (w : Wd) : Prop := ∀ q, q < 2 → w.1 19 0 q = nI (if (K q).isSome = true then 1 else 0) ∧ w.1 33 0 q = nI (if (K q).isSome = true then 1 else 0) ∧ ∀ x, K q = some x → okS n B x ∧ XS1 (3 + q) x w ∧ Blk 32 (8 * q) x w
def VIi (V : Nat → Nat × Nat) (nv : Nat) (w : Wd) : Prop := nv ≤ 6 ∧ w.1 5 0 11 = nI nv ∧ w.1 6 0 14 = nI nv ∧ ∀ i, i < nv → (V i).1 ≤ 6 ∧ (V i).2 ≤ 5 ∧ w.1 16 0 i = nI (V i).1 ∧ w.1 17 0 i = nI (V i).2 ∧ w.1 29 0 i = nI (V i).1 ∧ w.1 30 0 i = nI (V i).2
theorem TXi.same {t : Nat} {tx : Nat → Nat} {w w' : Wd} (h : TXi t tx w) (o : Sm w w') : TXi t tx w' := by
  unfold TXi
  rw [o.1 4 0 (by decide) (by decide), o.1 6 0 (by decide) (by decide), o.1 10 0 (by decide) (by decide), o.1 26 0 (by decide) (by decide)]
  exact h
theorem ACi.same {n B : Nat} {A : Nat → Sd} {na old nx : Nat} {w w' : Wd} (h : ACi n B A na old nx w) (o : Sm w w') : ACi n B A na old nx w' := by
  unfold ACi Blk
  rw [o.1 0 0 (by decide) (by decide), o.1 6 0 (by decide) (by decide), o.1 27 0 (by decide) (by decide)]
  obtain ⟨h1, h2, h3, h4, h5, h6, h7, h8⟩ := h
  exact ⟨h1, h2, h3, h4, h5, h6, h7, fun i hi => ⟨(h8 i hi).1, (h8 i hi).2.1.same o (by omega) (by omega), (h8 i hi).2.2⟩⟩
theorem KEi.same {n B : Nat} {K : Nat → Option Sd} {w w' : Wd} (h : KEi n B K w) (o : Sm w w') : KEi n B K w' := by
  unfold KEi Blk
  rw [o.1 19 0 (by decide) (by decide), o.1 33 0 (by decide) (by decide), o.1 32 0 (by decide) (by decide)]
  intro q hq
  obtain ⟨h1, h2, h3⟩ := h q hq
  exact ⟨h1, h2, fun x hx => ⟨(h3 x hx).1, (h3 x hx).2.1.same o (by omega) (by omega), (h3 x hx).2.2⟩⟩
theorem VIi.same {V : Nat → Nat × Nat} {nv : Nat} {w w' : Wd} (h : VIi V nv w) (o : Sm w w') : VIi V nv w' := by
  unfold VIi
  rw [o.1 5 0 (by decide) (by decide), o.1 6 0 (by decide) (by decide), o.1 16 0 (by decide) (by decide), o.1 17 0 (by decide) (by decide), o.1 29 0 (by decide) (by decide), o.1 30 0 (by decide) (by decide)]
  exact h
def Inv (c : Nat) (w : Wd) : Prop := ∃ (t : Nat) (tx : Nat → Nat) (P : Pa) (N : Sd) (A : Nat → Sd) (na old nx : Nat) (K : Nat → Option Sd) (V : Nat → Nat × Nat) (nv : Nat),
  TXi t tx w ∧ QI P (16 * c + 16) N w ∧ ACi P.1 (16 * c + 16) A na old nx w ∧ KEi P.1 (16 * c + 16) K w ∧ VIi V nv w ∧ w.2 5 = w.2 6
theorem okS.mono {n B B' : Nat} {s : Sd} (h : okS n B s) (hB : B ≤ B') : okS n B' s := ⟨Nat.le_trans h.1 hB, h.2⟩
theorem QI.mono {P : Pa} {B B' : Nat} {N : Sd} {w : Wd} (h : QI P B N w) (hB : B ≤ B') : QI P B' N w := ⟨h.1, h.2.1, h.2.2.1, h.2.2.2.1.mono hB, h.2.2.2.2⟩
theorem ACi.mono {n B B' : Nat} {A : Nat → Sd} {na old nx : Nat} {w : Wd} (h : ACi n B A na old nx w) (hB : B ≤ B') : ACi n B' A na old nx w := by
  obtain ⟨h1, h2, h3, h4, h5, h6, h7, h8⟩ := h
  exact ⟨h1, h2, h3, h4, h5, h6, h7, fun i hi => ⟨(h8 i hi).1.mono hB, (h8 i hi).2⟩⟩
theorem KEi.mono {n B B' : Nat} {K : Nat → Option Sd} {w : Wd} (h : KEi n B K w) (hB : B ≤ B') : KEi n B' K w := fun q hq => ⟨(h q hq).1, (h q hq).2.1, fun x hx => ⟨((h q hq).2.2 x hx).1.mono hB, ((h q hq).2.2 x hx).2⟩⟩
theorem Inv.same {c : Nat} {w w' : Wd} (h : Inv c w) (o : Sm w w') : Inv (c + 1) w' := by
  obtain ⟨t, tx, P, N, A, na, old, nx, K, V, nv, h1, h2, h3, h4, h5, h6⟩ := h
  exact ⟨t, tx, P, N, A, na, old, nx, K, V, nv, h1.same o, (h2.same o).mono (by omega), (h3.same o).mono (by omega), (h4.same o).mono (by omega), h5.same o, by rw [o.2.2]; exact h6⟩
/-- a question: class and reference answer alike, and only scratch changes -/
def OkQ (P : Pa) (B : Nat) (N : Sd) (dx dm : Wd → Option (Int32 × Wd)) : Prop := ∀ w, QI P B N w → ∃ r w1 w2, dx w = some (r, w1) ∧ Sm w w1 ∧ dm w1 = some (r, w2) ∧ Sm w1 w2
