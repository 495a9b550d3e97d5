/-! the reference's first row; most -/
theorem eu_uniq {T a d e x : Nat} (ha : a < T) (hx : x < T) (h : a + T * d = T * e + x) : d = e ∧ a = x := by
  have key : d = e := by
    rcases Nat.lt_trichotomy d e with g | g | g
    · have := Nat.mul_le_mul_left T (show d + 1 ≤ e from g)
      rw [Nat.mul_add, Nat.mul_one] at this
      omega
    · exact g
    · have := Nat.mul_le_mul_left T (show e + 1 ≤ d from g)
      rw [Nat.mul_add, Nat.mul_one] at this
      omega
  subst key
  exact ⟨rfl, by omega⟩
theorem valR_add : ∀ (r : List Nat) (v : Nat), valR r v = 10 ^ r.length * v + valR r 0
  | [], v => by simp [valR]
  | i :: r, v => by
    have h1 := valR_add r (10 * v + i + 1)
    have h2 := valR_add r (10 * 0 + i + 1)
    have e : 10 ^ r.length * (10 * v + i + 1) = 10 ^ (r.length + 1) * v + 10 ^ r.length * (10 * 0 + i + 1) := by
      rw [show 10 * v + i + 1 = 10 * v + (10 * 0 + i + 1) by omega, Nat.mul_add, Nat.pow_succ, Nat.mul_assoc]
    show valR r (10 * v + i + 1) = 10 ^ (r.length + 1) * v + valR r (10 * 0 + i + 1)
    omega
theorem valR_lt : ∀ (r : List Nat), (∀ i ∈ r, i < 9) → valR r 0 < 10 ^ r.length
  | [], _ => by decide
  | i :: r, h => by
    have h1 := valR_add r (10 * 0 + i + 1)
    have h2 := valR_lt r (fun j hj => h j (List.mem_cons_of_mem _ hj))
    have h3 := h i List.mem_cons_self
    have h4 := Nat.mul_le_mul_left (10 ^ r.length) (show 10 * 0 + i + 1 + 1 ≤ 10 by omega)
    rw [Nat.mul_add, Nat.mul_one] at h4
    show valR r (10 * 0 + i + 1) < 10 ^ (r.length + 1)
    rw [Nat.pow_succ]
    omega
theorem valR_snoc : ∀ (r : List Nat) (v i : Nat), valR (r ++ [i]) v = 10 * valR r v + i + 1
  | [], v, i => rfl
  | j :: r, v, i => valR_snoc r (10 * v + j + 1) i
theorem dig_step {v u : Nat} {b : List Nat} (hb : ∀ i ∈ b, i < 9) (hl : b.length ≤ u + 1) (hv : v % 10 ^ (u + 1) = valR b 0) : (v / 10 ^ u % 10 = 0 ∧ b.length ≤ u ∧ v % 10 ^ u = valR b 0) ∨ ∃ i b', b = i :: b' ∧ v / 10 ^ u % 10 = i + 1 ∧ b'.length ≤ u ∧ v % 10 ^ u = valR b' 0 := by
  have hT : 0 < 10 ^ u := Nat.pow_pos (by decide)
  have hm : v % 10 ^ (u + 1) = v % 10 ^ u + 10 ^ u * (v / 10 ^ u % 10) := Nat.mod_pow_succ
  have ha : v % 10 ^ u < 10 ^ u := Nat.mod_lt _ hT
  by_cases hlu : b.length ≤ u
  · have h1 := valR_lt b hb
    have h2 : 10 ^ b.length ≤ 10 ^ u := Nat.pow_le_pow_right (by decide) hlu
    obtain ⟨g1, g2⟩ := eu_uniq (T := 10 ^ u) (a := v % 10 ^ u) (d := v / 10 ^ u % 10) (e := 0) (x := valR b 0) ha (by omega) (by rw [Nat.mul_zero, Nat.zero_add, ← hm]; exact hv)
    exact Or.inl ⟨g1, hlu, g2⟩
  · cases b with
    | nil => simp at hlu
    | cons i b' =>
      rw [List.length_cons] at hl hlu
      have hl' : b'.length = u := by omega
      have h1 := valR_lt b' (fun j hj => hb j (List.mem_cons_of_mem _ hj))
      have h2 := valR_add b' (10 * 0 + i + 1)
      rw [hl'] at h1 h2
      have h3 : valR (i :: b') 0 = 10 ^ u * (10 * 0 + i + 1) + valR b' 0 := h2
      obtain ⟨g1, g2⟩ := eu_uniq (T := 10 ^ u) (a := v % 10 ^ u) (d := v / 10 ^ u % 10) (e := 10 * 0 + i + 1) (x := valR b' 0) ha h1 (by rw [← hm, hv]; exact h3)
      exact Or.inr ⟨i, b', rfl, by omega, by omega, g2⟩
theorem least_ex {p : Nat → Prop} : (∃ i, p i) → ∃ i, p i ∧ ∀ j, j < i → ¬ p j := by
  rintro ⟨i, h⟩
  induction i using Nat.strongRecOn with
  | _ i ih =>
    by_cases g : ∃ j, j < i ∧ p j
    · obtain ⟨j, g1, g2⟩ := g
      exact ih j g1 g2
    · exact ⟨i, h, fun j hj hp => g ⟨j, hj, hp⟩⟩
theorem grR_uniq {P : Pa} {op : Nat} : ∀ (k : Nat) (s : Sd) (r r' : List Nat), grR P op k s r → grR P op k s r' → r = r'
  | 0, s, r, r', h, g => by
    have h : r = [] := h
    have g : r' = [] := g
    rw [h, g]
  | k + 1, s, r, r', h, g => by
    obtain ⟨i, q, s1, rfl, h2, h3, h4, h5⟩ := h
    obtain ⟨i', q', s1', rfl, g2, g3, g4, g5⟩ := g
    have e : i = i' := by
      rcases Nat.lt_trichotomy i i' with z | z | z
      · exact absurd h3 (g4 i s1 z h2)
      · exact z
      · exact absurd g3 (h4 i' s1' z g2)
    subst e
    rw [h2] at g2
    cases g2
    rw [grR_uniq k s1 q q' h5 g5]
theorem goes_loop {P : Pa} {B v : Nat} {x2 x3 : Int32} (hP : okP P) (hB : 10 ≤ B ∧ B < 2 ^ 28) (hv : v < 1000000) : ∀ (u F : Nat) (b : List Nat) (s s' : Sd) (w : Wd), u ≤ 6 → u < F → b.length ≤ u → v % 10 ^ u = valR b 0 → runS P s b = some s' → MP P w → okS P.1 B s → ML 1 s w →
    ∃ F' w', D_X6_goesOn_8 F (nI v) x2 x3 (nI (10 ^ u / 10)) w = D_X6_goesOn_8 (F' + 1) (nI v) x2 x3 0 w' ∧ ML 1 s' w' ∧ OffM w w' := by
  intro u
  induction u with
  | zero =>
    intro F b s s' w hu hF hl hm hr hM hs hml
    obtain ⟨F, rfl⟩ : ∃ G, F = G + 1 := ⟨F - 1, by omega⟩
    have hb : b = [] := List.length_eq_zero_iff.mp (by omega)
    subst hb
    cases hr
    exact ⟨F, w, rfl, hml, OffM.rf⟩
  | succ u ih =>
    intro F b s s' w hu hF hl hm hr hM hs hml
    obtain ⟨F, rfl⟩ : ∃ G, F = G + 1 := ⟨F - 1, by omega⟩
    have hT : 0 < 10 ^ u := Nat.pow_pos (by decide)
    have hT5 : 10 ^ u ≤ 10 ^ 5 := Nat.pow_le_pow_right (by decide) (by omega)
    have hdv : 10 ^ (u + 1) / 10 = 10 ^ u := by rw [Nat.pow_succ]; exact Nat.mul_div_cancel _ (by decide)
    have hb9 : ∀ i ∈ b, i < 9 := fun i hi => by
      have := (run_inv hP hB.1 b s s' hs hr).2.2.2.1 i hi
      have := hP.1
      omega
    have hdle := Nat.div_le_self v (10 ^ u)
    have hdig : (nI v / nI (10 ^ u)) - (nI v / nI (10 ^ u)) / (10 : Int32) * (10 : Int32) = nI (v / 10 ^ u % 10) := by
      rw [pk_div (by omega) hT (by omega), mod10_n (by omega)]
    have hnx : nI (10 ^ u) / (10 : Int32) = nI (10 ^ u / 10) := by rw [n10, pk_div (by omega) (by decide) (by decide)]
    rw [hdv]
    have step : D_X6_goesOn_8 (F + 1) (nI v) x2 x3 (nI (10 ^ u)) w = if nI (v / 10 ^ u % 10) - (1 : Int32) < 0 then D_X6_goesOn_8 F (nI v) x2 x3 (nI (10 ^ u / 10)) w else (D_X6_wedOn w 1 (nI (v / 10 ^ u % 10) - (1 : Int32))).bind fun q12 => D_X6_goesOn_8 F (nI v) x2 x3 (nI (10 ^ u / 10)) q12.2 := by
      rw [D_X6_goesOn_8, if_neg (by rw [n0, nI_leI (by omega) (by decide)]; omega), if_pos (by rw [n0, nI_eq (by omega) (by decide)]; omega), hdig, ltd, hnx]
      rfl
    rw [step]
    rcases dig_step hb9 hl hm with ⟨g1, g2, g3⟩ | ⟨i, b', rfl, g1, g2, g3⟩
    · rw [g1, if_pos (by decide)]
      exact ih F b s s' w (by omega) (by omega) g2 g3 hr hM hs hml
    · have e1 : nI (i + 1) - (1 : Int32) = nI i := by rw [n1, pk_sub (by omega), Nat.add_sub_cancel]
      unfold runS at hr
      cases hw : wedS P s i with
      | none => rw [hw] at hr; cases hr
      | some s1 =>
        rw [hw] at hr
        have hi := (wedS_some hw).1
        have h6 := hP.1
        rw [g1, e1, if_neg (nI_lt0 (by omega))]
        rcases wedOn_n (l := 1) hP hM (by omega) hml hs hB.2 hi with ⟨z1, -⟩ | ⟨s2, w1, z1, z2, z3, z4, z5⟩
        · rw [hw] at z1; cases z1
        · rw [hw] at z1
          cases z1
          have z2' : D_X6_wedOn w 1 (nI i) = some (1, w1) := z2
          have o1 : OffM w w1 := ⟨fun k j hk => by rw [z4.1 k j (by simpa using hk)], fun j hj => z5 j (Or.inl (by omega)), z4.2⟩
          rw [z2', sb]
          obtain ⟨F', w2, a1, a2, a3⟩ := ih F b' s1 s' w1 (by omega) (by omega) g2 g3 hr (hM.same (Sm.offM o1)) (wedS_ok hP hs hB.1 hw) z3
          exact ⟨F', w2, a1, a2, o1.tr a3⟩
theorem goesOn_n {P : Pa} {B i k : Nat} {N s : Sd} {r : List Nat} {w : Wd} (hP : okP P) (hB : 10 ≤ B ∧ B < 2 ^ 28) (hM : MP P w) (hN : okS P.1 B N) (hm : ML 0 N w) (hr : runS P N r = some s) (hi : i < P.1) (hk : k ≤ 6) :
    (∃ w' t, D_X6_goesOn w (nI (valR r 0)) (nI i) (nI k) = some (1, w') ∧ Sm w w' ∧ wedS P s i = some t ∧ mostR P t (evP P) = k) ∨ ∃ w', D_X6_goesOn w (nI (valR r 0)) (nI i) (nI k) = some (0, w') ∧ Sm w w' ∧ ∀ t, wedS P s i = some t → mostR P t (evP P) ≠ k := by
  have h6 := hP.1
  have hl := run_len hP hB.1 hN hr
  obtain ⟨hs, -, -, hri, -⟩ := run_inv hP hB.1 r N s hN hr
  have hv := valR_lt r (fun i hi => by have := hri i hi; omega)
  have hT : 10 ^ r.length ≤ 10 ^ 6 := Nat.pow_le_pow_right (by decide) hl
  obtain ⟨w1, a1, a2, a3⟩ := layTrial_n hm
  have s1 := Sm.offM a3
  obtain ⟨F', w2, b1, b2, b3⟩ := goes_loop (x2 := nI i) (x3 := nI k) (v := valR r 0) hP hB (by omega) 6 fuelZ r N s w1 (by omega) (by decide) hl (Nat.mod_eq_of_lt (by omega)) hr (hM.same s1) hN a2
  have s2 := s1.tr (Sm.offM b3)
  have b1' : D_X6_goesOn_8 fuelZ (nI (valR r 0)) (nI i) (nI k) 100000 w1 = D_X6_goesOn_8 (F' + 1) (nI (valR r 0)) (nI i) (nI k) 0 w2 := b1
  unfold D_X6_goesOn
  rw [a1, sb, b1', D_X6_goesOn_8, if_pos (by decide)]
  rcases wedOn_n (l := 1) hP (hM.same s2) (by omega) b2 hs hB.2 hi with ⟨z1, z2⟩ | ⟨t, w3, z1, z2, z3, z4, z5⟩
  · have z2' : D_X6_wedOn w2 1 (nI i) = some (0, w2) := z2
    rw [z2', sb, if_pos rfl]
    exact Or.inr ⟨w2, rfl, s2, fun t ht => by rw [z1] at ht; cases ht⟩
  · have z2' : D_X6_wedOn w2 1 (nI i) = some (1, w3) := z2
    have o3 : OffM w2 w3 := ⟨fun k j hk => by rw [z4.1 k j (by simpa using hk)], fun j hj => z5 j (Or.inl (by omega)), z4.2⟩
    have s3 := s2.tr (Sm.offM o3)
    have ht := wedS_ok hP hs hB.1 z1
    obtain ⟨w4, c1, c2⟩ := mostEv_n hP hB (Nat.le_refl 1) (hM.same s3) z3 ht
    have c1' : D_X6_mostOn w3 1 (nI (2 ^ P.1 - 1)) = some (nI (mostR P t (evP P)), w4) := c1
    have s4 := s3.tr (Sm.off c2 (by decide))
    have hm6 := mostR_le6 hP hB.1 ht (evP P)
    rw [z2', sb, if_neg ne10, everyM_n hP (hM.same s3), sb, c1', sb]
    by_cases he : mostR P t (evP P) = k
    · rw [if_pos (by rw [he])]
      exact Or.inl ⟨w4, t, rfl, s4, z1, he⟩
    · rw [if_neg (fun z => he ((nI_eq (by omega) (by omega)).mp z))]
      refine Or.inr ⟨w4, rfl, s4, fun u hu => ?_⟩
      rw [z1] at hu
      cases hu
      exact he
theorem first15 {P : Pa} {B i k : Nat} {N s t : Sd} {r : List Nat} {x1 x3 : Int32} {k7 : Int32 → Int32 → Int32 → Int32 → Wd → Option (Int32 × Wd)} (hP : okP P) (hB : 10 ≤ B ∧ B < 2 ^ 28) (hN : okS P.1 B N) (hr : runS P N r = some s) (hk : k ≤ 6) (h1 : wedS P s i = some t) (h2 : mostR P t (evP P) = k) (h3 : ∀ j u, j < i → wedS P s j = some u → mostR P u (evP P) ≠ k) :
    ∀ (n j F : Nat) (w : Wd), i - j = n → n < F → j ≤ i → MP P w → ML 0 N w → ∃ w', D_X6_firstRow_15 k7 F x1 (nI (valR r 0)) x3 (nI (k + 1)) (nI j) w = k7 x1 (nI (10 * valR r 0 + i + 1)) (x3 + 1) (nI k) w' ∧ Sm w w' := by
  have hi := (wedS_some h1).1
  have e1 : nI (k + 1) - (1 : Int32) = nI k := by rw [n1, pk_sub (by omega), Nat.add_sub_cancel]
  have e2 : nI (k + 1) + (-1 : Int32) = nI k := (Int32.sub_eq_add_neg ..).symm.trans e1
  intro n
  induction n with
  | zero =>
    intro j F w hn hF hj hM hm
    obtain ⟨F, rfl⟩ : ∃ G, F = G + 1 := ⟨F - 1, by omega⟩
    have : j = i := by omega
    subst this
    rw [D_X6_firstRow_15, e1]
    rcases goesOn_n hP hB hM hN hm hr hi hk with ⟨w1, u, a1, a2, a3, a4⟩ | ⟨w1, a1, a2, a3⟩
    · rw [a1, sb, if_neg ne10, ltd, ltd, ltd, e2, n10, pk_mul, nI_add, n1, nI_add]
      exact ⟨w1, rfl, a2⟩
    · exact absurd h2 (a3 t h1)
  | succ n ih =>
    intro j F w hn hF hj hM hm
    obtain ⟨F, rfl⟩ : ∃ G, F = G + 1 := ⟨F - 1, by omega⟩
    rw [D_X6_firstRow_15, e1]
    rcases goesOn_n hP hB hM hN hm hr (show j < P.1 by omega) hk with ⟨w1, u, a1, a2, a3, a4⟩ | ⟨w1, a1, a2, a3⟩
    · exact absurd a4 (h3 j u (by omega) a3)
    · rw [a1, sb, if_pos rfl, ltd, n1, nI_add]
      obtain ⟨w2, b1, b2⟩ := ih (j + 1) F w1 (by omega) (by omega) (by omega) (hM.same a2) (hm.same a2)
      exact ⟨w2, b1, a2.tr b2⟩
theorem first7 {P : Pa} {B M : Nat} {N : Sd} (hP : okP P) (hB : 10 ≤ B ∧ B < 2 ^ 28) (hN : okS P.1 B N) (hM6 : M ≤ 6) :
    ∀ (k c F : Nat) (r : List Nat) (s : Sd) (w : Wd), runS P N r = some s → c + k = M → k < F → mostR P s (evP P) = k → MP P w → ML 0 N w → ∃ q w', D_X6_firstRow_7 F (nI M) (nI (valR r 0)) (nI c) (nI k) w = some (nI (valR q (valR r 0)), w') ∧ grR P (evP P) k s q ∧ Sm w w' := by
  intro k
  induction k with
  | zero =>
    intro c F r s w hr hc hF hk hMp hm
    obtain ⟨F, rfl⟩ : ∃ G, F = G + 1 := ⟨F - 1, by omega⟩
    rw [D_X6_firstRow_7, if_pos (show nI 0 ≤ 0 by decide), if_pos (by rw [show c = M by omega])]
    exact ⟨[], w, rfl, rfl, Sm.rf⟩
  | succ k ih =>
    intro c F r s w hr hc hF hk hMp hm
    obtain ⟨F, rfl⟩ : ∃ G, F = G + 1 := ⟨F - 1, by omega⟩
    have hs := (run_inv hP hB.1 r N s hN hr).1
    obtain ⟨⟨i0, t0, g1, g2⟩, -⟩ := most_next hP hB.1 hs hk
    obtain ⟨i, ⟨t, h1, h2⟩, h3⟩ := least_ex (p := fun i => ∃ t, wedS P s i = some t ∧ mostR P t (evP P) = k) ⟨i0, t0, g1, g2⟩
    have h3' : ∀ j u, j < i → wedS P s j = some u → mostR P u (evP P) ≠ k := fun j u hj hu z => h3 j hj ⟨u, hu, z⟩
    rw [D_X6_firstRow_7, if_neg (by rw [n0, nI_leI (by omega) (by decide)]; omega), n0]
    obtain ⟨w1, a1, a2⟩ := first15 (x1 := nI M) (x3 := nI c) (k7 := fun y0 y1 y2 y3 wy => D_X6_firstRow_7 F y0 y1 y2 y3 wy) hP hB hN hr (by omega) h1 h2 h3' i 0 fuelZ w rfl (by have := (wedS_some h1).1; have := hP.1; unfold fuelZ; omega) (Nat.zero_le _) hMp hm
    have hr2 : runS P N (r ++ [i]) = some t := snoc_run hr h1
    obtain ⟨q, w2, b1, b2, b3⟩ := ih (c + 1) F (r ++ [i]) t w1 hr2 (by omega) (by omega) h2 (hMp.same a2) (hm.same a2)
    rw [valR_snoc] at b1
    refine ⟨i :: q, w2, ?_, ⟨i, q, t, rfl, h1, h2, h3', b2⟩, a2.tr b3⟩
    rw [a1, n1, nI_add]
    exact b1
theorem firstRow_n {P : Pa} {B : Nat} {N : Sd} {w : Wd} (hP : okP P) (hB : 10 ≤ B ∧ B < 2 ^ 28) (hN : okS P.1 B N) (hM : MP P w) (hm : ML 0 N w) : ∃ w', D_X6_firstRow w (nI (mostR P N (evP P))) = some (nI (fN 6 (R0 N) (nodes0 P N)).2.1, w') ∧ Sm w w' := by
  have h6 := mostR_le6 hP hB.1 hN (evP P)
  obtain ⟨q, w', a1, a2, a3⟩ := first7 hP hB hN h6 (mostR P N (evP P)) 0 fuelZ [] N w rfl (by omega) (by unfold fuelZ; omega) rfl hM hm
  obtain ⟨r, b1, b2⟩ := firstX_n hP hB.1 hN
  have e : r = q := grR_uniq _ _ _ _ b1 a2
  refine ⟨w', ?_, a3⟩
  rw [b2, e]
  exact a1
theorem most_ok {P : Pa} {B : Nat} {N : Sd} (hB : 10 ≤ B ∧ B < 2 ^ 27) (x : Int32) : OkQ P B N (fun w => D_X5_most w x) (fun w => D_X6_most w x) := by
  intro w hq
  obtain ⟨hP, hX, hM, hs, hx, hm⟩ := hq
  dsimp only
  rcases ix_cases x (n := 3) (by decide) with ⟨j, hj, rfl⟩ | ho
  · obtain ⟨w1, a1, a2, a3⟩ := runFrom_n hP ⟨hB.1, by omega⟩ hX hs (by decide) (by decide) hx
    have s1 := Sm.off a3 LSr_SC
    obtain ⟨e, w2, b1, b2, b3, b4⟩ := mostOn_n (l := 0) hP ⟨hB.1, by omega⟩ (by omega) (hM.same s1) (hm.same s1) hs (evP_lt hP)
    have s2 := Sm.off b4 (by decide)
    have b1' : D_X6_mostOn w1 0 (nI (2 ^ P.1 - 1)) = some (nI (mostR P N (evP P)), w2) := b1
    have hl := long_most hP hB.1 hs
    obtain ⟨x4, x5, x6, -⟩ := a2
    have hle : nI j ≤ (2 : Int32) := by rw [n2]; exact (nI_leI (by omega) (by decide)).mpr (by omega)
    have cls : D_X5_most w (nI j) = if nI j = 0 then some (nI (mostR P N (evP P)), w1) else if nI j = 1 then some (nI (fN 6 (R0 N) (nodes0 P N)).2.1, w1) else some (nI (fN 6 (R0 N) (nodes0 P N)).2.2.1, w1) := by
      have hl' : mostR P N (evP P) = (fN 6 (R0 N) (nodes0 P N)).1 := hl.symm
      unfold D_X5_most
      rw [if_neg (nI_lt0 (by omega)), if_pos hle, a1, sb, x4, x5, x6, hl']
      rfl
    have ref : D_X6_most w1 (nI j) = if nI j = 0 then some (nI (mostR P N (evP P)), w2) else if nI j = 1 then (D_X6_firstRow w2 (nI (mostR P N (evP P)))).bind (fun q9 => some (q9.1, q9.2)) else (D_X6_endOf w2 (nI (mostR P N (evP P)))).bind fun q8 => some (q8, w2) := by
      unfold D_X6_most
      rw [inM_y (n := 3) (by decide) (by decide) hj, sb, if_neg ne10, everyM_n hP (hM.same s1), sb, b1', sb, ltd]
    obtain rfl | rfl | rfl : j = 0 ∨ j = 1 ∨ j = 2 := by omega
    · rw [if_pos (by decide)] at cls ref
      exact ⟨_, w1, w2, cls, s1, ref, s2⟩
    · rw [if_neg (by decide), if_pos (by decide)] at cls ref
      obtain ⟨w3, c1, c2⟩ := firstRow_n hP ⟨hB.1, by omega⟩ hs ((hM.same s1).same s2) ((hm.same s1).same s2)
      rw [c1, sb] at ref
      exact ⟨_, w1, w3, cls, s1, ref, s2.tr c2⟩
    · rw [if_neg (by decide), if_neg (by decide)] at cls ref
      have hend : D_X6_endOf w2 (nI (mostR P N (evP P))) = some (nI (fN 6 (R0 N) (nodes0 P N)).2.2.1) := endOf_n hP ⟨hB.1, by omega⟩ hs b2 b3 ((hm.same s1).same s2).1
      rw [hend, sb] at ref
      exact ⟨_, w1, w2, cls, s1, ref, s2⟩
  · refine ⟨-2, w, w, ?_, Sm.rf, ?_, Sm.rf⟩
    · unfold D_X5_most
      by_cases h : x < 0
      · rw [if_pos h]
      · have g : ¬ x ≤ nI 2 := out_le (by decide) ho h (by decide)
        rw [if_neg h, if_neg (show ¬ x ≤ 2 from g)]
    · unfold D_X6_most
      rw [inM_o (n := 3) (by decide) (by decide) ho, sb, if_pos rfl]
