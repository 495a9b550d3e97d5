theorem endOf_n {P : Pa} {B : Nat} {s : Sd} {e : Nat → Nat → Option Nat} {w : Wd} (hP : okP P) (hB : 10 ≤ B ∧ B < 2 ^ 28) (hs : okS P.1 B s) (hE : EAr e w) (hb : bstE P s (andn (2 ^ P.1 - 1) s.2.2.1) e) (hm : w.1 25 0 0 = nI s.1) : D_X6_endOf w (nI (mostR P s (2 ^ P.1 - 1))) = some (nI (fN 6 (R0 s) (nodes0 P s)).2.2.1) := by
  have h6 := hP.1
  have hm6 := mostR_le6 hP hB.1 hs (2 ^ P.1 - 1)
  obtain ⟨f1, f2, f3⟩ := fold_end 6 (nodes0 P s) (R0 s)
  rw [long_most hP hB.1 hs] at f1 f2 f3
  have row : ∀ r s', runS P s r = some s' → r.length = mostR P s (2 ^ P.1 - 1) → (fN 6 (R0 s) (nodes0 P s)).2.2.1 ≤ s'.1 := by
    intro r s' g1 g2
    obtain ⟨a, ha, k1, k2, k3⟩ := row_node (lim := 6) hP hB.1 r 8 0 s 0 0 s' hs g1 (by omega) (by omega)
    rw [← k2]
    exact f1 a ha (by omega)
  have ebd : ∀ T t b, e T t = some b → b < 2 ^ 30 ∧ ∃ r s', runS P s r = some s' ∧ setR r = T ∧ s'.1 = b := by
    intro T t b h
    obtain ⟨r, s', g1, g2, g3, g4⟩ := hb.1 T t b h
    have := (run_inv hP hB.1 _ s s' hs g1).1.1
    exact ⟨by omega, r ++ [t], s', g1, g3, g4⟩
  obtain ⟨o', q1, q2⟩ := endOf_loop hm6 hE (fun T t b _ _ h => (ebd T t b h).1) 384 0 fuelZ none rfl (by decide) (by decide) ⟨fun T t b _ _ h => absurd h (Nat.not_lt_zero _), fun v h => by cases h⟩
  refine q2.trans ?_
  by_cases h0 : mostR P s (2 ^ P.1 - 1) = 0
  · rw [if_pos h0, hm]
    have g1 := f2 h0.symm
    have hE2 : (fN 6 (R0 s) (nodes0 P s)).2.2.1 = s.1 := by
      rcases f3 with ⟨-, z⟩ | ⟨a, ha, z1, z2⟩
      · exact z
      · obtain ⟨r, s', k1, k2, k3, k4, k5⟩ := nodes_row hP hB.1 8 0 s 0 0 hs (by omega) a ha
        have hr : r.length = 0 := by omega
        have hr0 : r = [] := List.length_eq_zero_iff.mp hr
        subst hr0
        cases k1
        omega
    rw [hE2]
  · rw [if_neg h0]
    have att : ∃ r s', runS P s r = some s' ∧ r.length = mostR P s (2 ^ P.1 - 1) ∧ s'.1 = (fN 6 (R0 s) (nodes0 P s)).2.2.1 := by
      rcases f3 with ⟨z, -⟩ | ⟨a, ha, z1, z2⟩
      · exact absurd z.symm h0
      · obtain ⟨r, s', k1, k2, k3, k4, k5⟩ := nodes_row hP hB.1 8 0 s 0 0 hs (by omega) a ha
        exact ⟨r, s', k1, by omega, by omega⟩
    obtain ⟨r, s', k1, k2, k3⟩ := att
    rcases snoc_cases r with hr | ⟨r', t, hr⟩
    · rw [hr] at k2; exact absurd k2.symm h0
    · subst hr
      obtain ⟨c1, c2, c3⟩ := run_set hP hB.1 hs k1
      obtain ⟨i1, i2, i3, i4, i5, i6⟩ := run_inv hP hB.1 _ s s' hs k1
      have hwd := pow_le64 h6 hs.2.2.1
      have hop : opR (andn (2 ^ P.1 - 1) s.2.2.1) (r' ++ [t]) := by
        intro i hi
        have := (msk_b P.1 h6 _ hwd).2 i (by have := c3 i hi; omega)
        exact this.mpr ⟨c3 i hi, by rw [i5 i hi]; decide⟩
      obtain ⟨b, b1, b2⟩ := hb.2 (setR (r' ++ [t])) t _ ⟨r', s', k1, hop, rfl, rfl⟩
      have ht := c3 t (List.mem_append_right _ List.mem_cons_self)
      obtain ⟨v, v1, v2⟩ := q1.1 (setR (r' ++ [t])) t b (by omega) c2 (by omega) (by omega) b1
      obtain ⟨T, u, u1, u2, u3, u4⟩ := q1.2 v v1
      obtain ⟨-, r2, s2, w1, w2, w3⟩ := ebd T u v u3
      have hl := (run_set hP hB.1 hs w1).1
      have := row r2 s2 w1 (by rw [hl, w2, u4])
      rw [v1]
      show some (nI v) = _
      congr 2
      omega
