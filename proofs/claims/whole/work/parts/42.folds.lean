/-! what the fold over the nodes says -/
theorem fold_long (lim : Nat) : ∀ (L : List ND) (R : RS), R.1 ≤ (fN lim R L).1 ∧ (∀ a ∈ L, a.1 ≤ (fN lim R L).1) ∧ ((fN lim R L).1 = R.1 ∨ ∃ a ∈ L, a.1 = (fN lim R L).1)
  | [], R => ⟨Nat.le_refl _, (fun a ha => nomatch ha), Or.inl rfl⟩
  | a :: L, R => by
    have e : fN lim R (a :: L) = fN lim (recF lim R a) L := rfl
    obtain ⟨h1, h2, h3⟩ := fold_long lim L (recF lim R a)
    have hr : (recF lim R a).1 = if R.1 < a.1 then a.1 else R.1 := by
      unfold recF; dsimp only
      split
      · rfl
      · split <;> rfl
    rw [e]
    refine ⟨?_, fun b hb => ?_, ?_⟩
    · rw [hr] at h1; split at h1 <;> omega
    · rcases List.mem_cons.mp hb with rfl | hb
      · rw [hr] at h1; split at h1 <;> omega
      · exact h2 b hb
    · rcases h3 with h3 | ⟨b, hb, h3⟩
      · by_cases hc : R.1 < a.1
        · rw [hr, if_pos hc] at h3; exact Or.inr ⟨a, List.mem_cons_self, h3.symm⟩
        · rw [hr, if_neg hc] at h3; exact Or.inl h3
      · exact Or.inr ⟨b, List.mem_cons_of_mem _ hb, h3⟩
theorem fold_end (lim : Nat) : ∀ (L : List ND) (R : RS), (∀ a ∈ L, a.1 = (fN lim R L).1 → (fN lim R L).2.2.1 ≤ a.2.1) ∧ (R.1 = (fN lim R L).1 → (fN lim R L).2.2.1 ≤ R.2.2.1) ∧ ((R.1 = (fN lim R L).1 ∧ (fN lim R L).2.2.1 = R.2.2.1) ∨ ∃ a ∈ L, a.1 = (fN lim R L).1 ∧ a.2.1 = (fN lim R L).2.2.1)
  | [], R => ⟨(fun a ha => nomatch ha), fun _ => Nat.le_refl _, Or.inl ⟨rfl, rfl⟩⟩
  | a :: L, R => by
    have e : fN lim R (a :: L) = fN lim (recF lim R a) L := rfl
    obtain ⟨h1, h2, h3⟩ := fold_end lim L (recF lim R a)
    obtain ⟨l1, l2, l3⟩ := fold_long lim L (recF lim R a)
    have hr : (recF lim R a).1 = (if R.1 < a.1 then a.1 else R.1) ∧ (recF lim R a).2.2.1 = (if R.1 < a.1 then a.2.1 else if a.1 = R.1 then min R.2.2.1 a.2.1 else R.2.2.1) := by
      unfold recF; dsimp only
      split
      · exact ⟨rfl, rfl⟩
      · split <;> exact ⟨rfl, rfl⟩
    rw [e]
    obtain ⟨r1, r2⟩ := hr
    rw [r1] at h2 h3 l1
    rw [r2] at h2 h3
    by_cases c1 : R.1 < a.1
    · rw [if_pos c1] at h2 h3 l1
      rw [if_pos c1] at h2 h3
      refine ⟨fun b hb hbm => ?_, fun z => ?_, ?_⟩
      · rcases List.mem_cons.mp hb with rfl | hb
        · exact h2 hbm
        · exact h1 b hb hbm
      · omega
      · rcases h3 with ⟨g1, g2⟩ | ⟨b, hb, g1, g2⟩
        · exact Or.inr ⟨a, List.mem_cons_self, g1, g2.symm⟩
        · exact Or.inr ⟨b, List.mem_cons_of_mem _ hb, g1, g2⟩
    · rw [if_neg c1] at h2 h3 l1
      rw [if_neg c1] at h2 h3
      by_cases c2 : a.1 = R.1
      · rw [if_pos c2] at h2 h3
        refine ⟨fun b hb hbm => ?_, fun z => ?_, ?_⟩
        · rcases List.mem_cons.mp hb with rfl | hb
          · have := h2 (by omega); omega
          · exact h1 b hb hbm
        · have := h2 z; omega
        · rcases h3 with ⟨g1, g2⟩ | ⟨b, hb, g1, g2⟩
          · rcases Nat.le_total R.2.2.1 a.2.1 with z | z
            · exact Or.inl ⟨g1, by omega⟩
            · exact Or.inr ⟨a, List.mem_cons_self, by omega, by omega⟩
          · exact Or.inr ⟨b, List.mem_cons_of_mem _ hb, g1, g2⟩
      · rw [if_neg c2] at h2 h3
        refine ⟨fun b hb hbm => ?_, h2, ?_⟩
        · rcases List.mem_cons.mp hb with rfl | hb
          · omega
          · exact h1 b hb hbm
        · rcases h3 with h3 | ⟨b, hb, g1, g2⟩
          · exact Or.inl h3
          · exact Or.inr ⟨b, List.mem_cons_of_mem _ hb, g1, g2⟩
theorem fold_hold (lim : Nat) (j : Nat) : ∀ (L : List ND) (R : RS), ((∃ a ∈ L, a.2.2.1 = j) → (fN lim R L).2.2.2.2.2.2 j = 1) ∧ ((¬ ∃ a ∈ L, a.2.2.1 = j) → (fN lim R L).2.2.2.2.2.2 j = R.2.2.2.2.2.2 j)
  | [], R => ⟨(fun ⟨a, ha, _⟩ => nomatch ha), fun _ => rfl⟩
  | a :: L, R => by
    have e : fN lim R (a :: L) = fN lim (recF lim R a) L := rfl
    obtain ⟨h1, h2⟩ := fold_hold lim j L (recF lim R a)
    have hr : (recF lim R a).2.2.2.2.2.2 j = if j = a.2.2.1 then 1 else R.2.2.2.2.2.2 j := rfl
    rw [e]
    by_cases hL : ∃ b ∈ L, b.2.2.1 = j
    · refine ⟨fun _ => h1 hL, fun z => ?_⟩
      obtain ⟨b, hb, hj⟩ := hL
      exact absurd ⟨b, List.mem_cons_of_mem _ hb, hj⟩ z
    · rw [h2 hL, hr]
      refine ⟨fun ⟨b, hb, hj⟩ => ?_, fun z => ?_⟩
      · rcases List.mem_cons.mp hb with rfl | hb
        · rw [if_pos hj.symm]
        · exact absurd ⟨b, hb, hj⟩ hL
      · rw [if_neg (fun q => z ⟨a, List.mem_cons_self, q.symm⟩)]
theorem fold_first (lim : Nat) : ∀ (L : List ND) (R : RS), (fN lim R L).2.1 = if R.1 = (fN lim R L).1 then R.2.1 else ((L.find? (fun a => a.1 == (fN lim R L).1)).map (fun a => a.2.2.2)).getD 0
  | [], R => by rw [if_pos (show R.1 = (fN lim R []).1 from rfl)]; rfl
  | a :: L, R => by
    have e : fN lim R (a :: L) = fN lim (recF lim R a) L := rfl
    have h := fold_first lim L (recF lim R a)
    obtain ⟨l1, l2, l3⟩ := fold_long lim L (recF lim R a)
    have hr : (recF lim R a).1 = (if R.1 < a.1 then a.1 else R.1) ∧ (recF lim R a).2.1 = (if R.1 < a.1 then a.2.2.2 else R.2.1) := by
      unfold recF; dsimp only
      split
      · exact ⟨rfl, rfl⟩
      · split <;> exact ⟨rfl, rfl⟩
    rw [e]
    obtain ⟨r1, r2⟩ := hr
    rw [r1] at l1
    rw [r1, r2] at h
    generalize hM : (fN lim (recF lim R a) L).1 = M at h l1
    rw [h]
    by_cases c1 : R.1 < a.1
    · rw [if_pos c1, if_pos c1]
      rw [if_pos c1] at l1
      rw [if_neg (show ¬ R.1 = M by omega)]
      by_cases c2 : a.1 = M
      · rw [if_pos c2, List.find?_cons_of_pos (by simp [c2])]; rfl
      · rw [if_neg c2, List.find?_cons_of_neg (by simp [c2])]
    · rw [if_neg c1, if_neg c1]
      by_cases c2 : R.1 = M
      · rw [if_pos c2, if_pos c2]
      · rw [if_neg c2, if_neg c2, List.find?_cons_of_neg]
        rw [if_neg c1] at l1
        simp; omega
/-! the nodes are the rows -/
theorem nodes_row {P : Pa} {B : Nat} (hP : okP P) (hB : 10 ≤ B) {al : Nat → Nat → Bool} {lim : Nat} : ∀ (f d : Nat) (s : Sd) (q v : Nat), okS P.1 B s → d ≤ lim → ∀ a ∈ nodesS P al lim f d s q v, ∃ r s', runS P s r = some s' ∧ a.1 = d + r.length ∧ a.2.1 = s'.1 ∧ a.2.2.1 = q ||| setR r ∧ a.1 ≤ lim
  | 0, d, s, q, v, _, _, a, ha => nomatch ha
  | f + 1, d, s, q, v, hs, hd, a, ha => by
    unfold nodesS at ha
    rcases List.mem_cons.mp ha with rfl | ha
    · exact ⟨[], s, rfl, rfl, rfl, by simp [setR], hd⟩
    · split at ha
      · rename_i hdl
        obtain ⟨i, -, hi⟩ := List.mem_flatMap.mp ha
        split at hi
        · split at hi
          · rename_i s1 hw
            obtain ⟨r, s', h1, h2, h3, h4, h5⟩ := nodes_row hP hB f (d + 1) s1 _ _ (wedS_ok hP hs hB hw) (by omega) a hi
            refine ⟨i :: r, s', ?_, by rw [h2, List.length_cons]; omega, h3, by rw [h4, setR, Nat.or_assoc], h5⟩
            unfold runS; rw [hw]; exact h1
          · cases hi
        · cases hi
      · cases ha
theorem row_node {P : Pa} {B : Nat} (hP : okP P) (hB : 10 ≤ B) {lim : Nat} : ∀ (r : List Nat) (f d : Nat) (s : Sd) (q v : Nat) (s' : Sd), okS P.1 B s → runS P s r = some s' → d + r.length ≤ lim → r.length < f → ∃ a ∈ nodesS P (fun _ c => (63 : Nat).testBit c) lim f d s q v, a.1 = d + r.length ∧ a.2.1 = s'.1 ∧ a.2.2.1 = q ||| setR r
  | [], f, d, s, q, v, s', hs, h, hd, hf => by
    obtain ⟨f, rfl⟩ : ∃ g, f = g + 1 := ⟨f - 1, by simp at hf; omega⟩
    cases h
    unfold nodesS
    exact ⟨_, List.mem_cons_self, rfl, rfl, by simp [setR]⟩
  | i :: r, f, d, s, q, v, s', hs, h, hd, hf => by
    obtain ⟨f, rfl⟩ : ∃ g, f = g + 1 := ⟨f - 1, by simp at hf; omega⟩
    unfold runS at h
    cases hw : wedS P s i with
    | none => rw [hw] at h; cases h
    | some s1 =>
      rw [hw] at h
      rw [List.length_cons] at hd hf
      obtain ⟨a, h1, h2, h3, h4⟩   := row_node (lim := lim) hP hB r f (d + 1) s1 (q ||| 2 ^ i) (10 * v + i + 1) s' (wedS_ok hP hs hB hw) h (by omega) (by omega)
      obtain ⟨g1, g2, b, g3, g4⟩ := wedS_some hw
      refine ⟨a, ?_, by rw [h2, List.length_cons]; omega, h3, by rw [h4, setR, Nat.or_assoc]⟩
      unfold nodesS
      refine List.mem_cons_of_mem _ ?_
      rw [if_pos (by omega)]
      refine List.mem_flatMap.mpr ⟨i, by rw [List.mem_range']; exact ⟨i, g1, by omega⟩, ?_⟩
      rw [if_pos (b63 _ (hP.2.2 i g1).1), hw]
      exact h1
theorem opR_all {P : Pa} {B : Nat} (hP : okP P) (hB : 10 ≤ B) {s s' : Sd} (hs : okS P.1 B s) {r : List Nat} (h : runS P s r = some s') : opR (2 ^ P.1 - 1) r := by
  obtain ⟨k1, k2, k3, k4, k5, k6⟩ := run_inv hP hB r s s' hs h
  intro i hi
  rw [Nat.testBit_two_pow_sub_one]
  simpa using k4 i hi
/-- the search's longest is the most -/
def nodes0 (P : Pa) (s : Sd) : List ND := nodesS P (fun _ c => (63 : Nat).testBit c) 6 8 0 s 0 0
theorem long_most {P : Pa} {B : Nat} (hP : okP P) (hB : 10 ≤ B) {s : Sd} (hs : okS P.1 B s) : (fN 6 (R0 s) (nodes0 P s)).1 = mostR P s (2 ^ P.1 - 1) := by
  obtain ⟨h1, h2, h3⟩ := fold_long 6 (nodes0 P s) (R0 s)
  refine isMost_uniq (P := P) (s := s) (op := 2 ^ P.1 - 1) ⟨?_, fun r s' g1 g2 => ?_⟩ (mostR_is hP hB hs _)
  · rcases h3 with h3 | ⟨a, ha, h3⟩
    · exact ⟨[], s, rfl, (fun i hi => nomatch hi), h3.symm⟩
    · obtain ⟨r, s', k1, k2, k3, k4, k5⟩ := nodes_row hP hB 8 0 s 0 0 hs (by omega) a ha
      exact ⟨r, s', k1, opR_all hP hB hs k1, by omega⟩
  · have hl := run_len hP hB hs g1
    obtain ⟨a, ha, k1, k2, k3⟩ := row_node (lim := 6) hP hB r 8 0 s 0 0 s' hs g1 (by omega) (by omega)
    have := h2 a ha
    omega
