/-! most, slack, mending -/
def evP (P : Pa) : Nat := 2 ^ P.1 - 1
theorem evP_lt {P : Pa} (hP : okP P) : evP P < 64 := by
  have : 2 ^ P.1 ≤ 2 ^ 6 := Nat.pow_le_pow_right (by decide) hP.1
  unfold evP; omega
theorem LSr_SC : ∀ q ∈ LSr, q ∈ SC := by decide
theorem mostFrom_n {P : Pa} {B i : Nat} {s : Sd} {w : Wd} (hP : okP P) (hB : 10 ≤ B ∧ B < 2 ^ 28) (hX : XP P w) (hs : okS P.1 B s) (hi : i < 19) (h2 : i ≠ 2) (hx : XS1 i s w) : ∃ w', D_X5_mostFrom w i = some (nI (mostR P s (evP P)), w') ∧ Off LSr w w' := by
  obtain ⟨w1, a1, a2, a3⟩ := runFrom_n hP hB hX hs hi h2 hx
  unfold D_X5_mostFrom
  rw [if_pos hi, a1, sb, a2.1]
  have := long_most hP hB.1 hs
  unfold nodes0 at this
  rw [this]
  exact ⟨w1, rfl, a3⟩
theorem mostEv_n {P : Pa} {B l : Nat} {s : Sd} {w : Wd} (hP : okP P) (hB : 10 ≤ B ∧ B < 2 ^ 28) (hl : l ≤ 1) (hM : MP P w) (hm : ML l s w) (hs : okS P.1 B s) : ∃ w', D_X6_mostOn w (nI l) (nI (evP P)) = some (nI (mostR P s (evP P)), w') ∧ Off [(28, 0)] w w' := by
  obtain ⟨e, w', a1, a2, a3, a4⟩ := mostOn_n hP hB hl hM hm hs (evP_lt hP)
  exact ⟨w', a1, a4⟩
def hrS (s : Sd) (k : Nat) : Sd := (s.1 + k, s.2)
theorem hrS_ok {n B : Nat} {s : Sd} (h : okS n B s) {k : Nat} : okS n (B + k) (hrS s k) := ⟨by show s.1 + k ≤ B + k; have := h.1; omega, h.2⟩
noncomputable def slkF (P : Pa) (s : Sd) : Nat → Nat → Nat
  | 0, _ => 9
  | n + 1, j => if mostR P (hrS s (j + 1)) (evP P) = mostR P s (evP P) then slkF P s n (j + 1) else j
theorem slackX_loop {P : Pa} {B : Nat} {s : Sd} (hP : okP P) (hB : 10 ≤ B ∧ B < 2 ^ 27) (hs : okS P.1 B s) : ∀ (n j N : Nat) (w : Wd), 9 - j = n → n < N → j ≤ 9 → XP P w → XS1 1 (hrS s j) w →
    ∃ w', D_X5_slack_22 N (nI (mostR P s (evP P))) (nI j) w = some (nI (slkF P s n j), w') ∧ Sm w w' := by
  intro n
  induction n with
  | zero =>
    intro j N w hn hN hj hX hx
    obtain ⟨N, rfl⟩ : ∃ M, N = M + 1 := ⟨N - 1, by omega⟩
    have : j = 9 := by omega
    subst this
    unfold D_X5_slack_22 slkF
    rw [if_pos (by rw [n9]; exact (nI_leI (by decide) (by decide)).mpr (Nat.le_refl _))]
    exact ⟨w, rfl, Sm.rf⟩
  | succ n ih =>
    intro j N w hn hN hj hX hx
    obtain ⟨N, rfl⟩ : ∃ M, N = M + 1 := ⟨N - 1, by omega⟩
    unfold D_X5_slack_22 slkF
    have hs1 := hs.1
    have hm6 := mostR_le6 hP hB.1 hs (evP P)
    rw [if_neg (by rw [n9, nI_leI (by omega) (by omega)]; omega), ltd, hx.1, n1, nI_add]
    have o1 : Off [(3, 1)] w (wS w 3 1 1 (nI ((hrS s j).1 + 1))) := Off.wS
    have hx1 : XS1 1 (hrS s (j + 1)) (wS w 3 1 1 (nI ((hrS s j).1 + 1))) := by
      refine ⟨?_, ?_, ?_, fun r hr => ?_⟩
      · rw [wS_at]; rfl
      · rw [wS_ne (by decide)]; exact hx.2.1
      · rw [wS_ne (by decide)]; exact hx.2.2.1
      · rw [wS_off (by simp)]; exact hx.2.2.2 r hr
    have hok := hrS_ok hs (k := j + 1)
    have hm7 := mostR_le6 hP (by omega) hok (evP P)
    obtain ⟨w1, a1, a2⟩ := mostFrom_n hP ⟨by omega, by omega⟩ (hX.off o1 (by decide) (by decide) (by decide)) hok (by decide) (by decide) hx1
    rw [a1, sb]
    have sm1 : Sm w w1 := (Sm.off o1 (by decide)).tr (Sm.off a2 LSr_SC)
    by_cases he : mostR P (hrS s (j + 1)) (evP P) = mostR P s (evP P)
    · rw [if_pos (by rw [he]), if_pos he, ltd, nI_add]
      obtain ⟨w2, b1, b2⟩ := ih (j + 1) N w1 (by omega) (by omega) (by omega) (hX.same sm1) (hx1.off a2 (by decide) (by decide))
      exact ⟨w2, b1, sm1.tr b2⟩
    · rw [if_neg (fun z => he ((nI_eq (by omega) (by omega)).mp z)), if_neg he]
      exact ⟨w1, rfl, sm1⟩
theorem slackM_loop {P : Pa} {B : Nat} {s : Sd} (hP : okP P) (hB : 10 ≤ B ∧ B < 2 ^ 27) (hs : okS P.1 B s) : ∀ (n j N : Nat) (w : Wd), 9 - j = n → n < N → j ≤ 9 → MP P w → ML 0 s w →
    ∃ w', D_X6_slack_12 N (nI (mostR P s (evP P))) (nI (j + 1)) w = some (nI (slkF P s n j), w') ∧ Sm w w' := by
  intro n
  induction n with
  | zero =>
    intro j N w hn hN hj hX hx
    obtain ⟨N, rfl⟩ : ∃ M, N = M + 1 := ⟨N - 1, by omega⟩
    have : j = 9 := by omega
    subst this
    unfold D_X6_slack_12 slkF
    rw [if_pos (by rw [n10]; exact (nI_leI (by decide) (by decide)).mpr (Nat.le_refl _))]
    exact ⟨w, rfl, Sm.rf⟩
  | succ n ih =>
    intro j N w hn hN hj hM hm
    obtain ⟨N, rfl⟩ : ∃ M, N = M + 1 := ⟨N - 1, by omega⟩
    unfold D_X6_slack_12 slkF
    have hs1 := hs.1
    have hm6 := mostR_le6 hP hB.1 hs (evP P)
    obtain ⟨w1, a1, a2, a3⟩ := layTrial_n hm
    have e8 : w1.1 25 0 8 = nI s.1 := a2.1
    rw [if_neg (by rw [n10, nI_leI (by omega) (by omega)]; omega), a1, sb, ltd, e8, nI_add]
    have sm0 : Sm w w1 := Sm.offM a3
    have o1 : OffM w1 (wS w1 25 0 8 (nI (s.1 + (j + 1)))) := ⟨fun k i hk => wS_off (fun z => hk (by rw [z.1, z.2])), fun r hr => wS_ne (by omega), rfl⟩
    have sm1 := sm0.tr (Sm.offM o1)
    have hm1 : ML 1 (hrS s (j + 1)) (wS w1 25 0 8 (nI (s.1 + (j + 1)))) := by
      refine ⟨?_, ?_, ?_, fun r hr => ?_⟩
      · show (wS w1 25 0 8 _).1 25 0 8 = _
        rw [wS_at]; rfl
      · rw [wS_ne (by decide)]; exact a2.2.1
      · rw [wS_ne (by decide)]; exact a2.2.2.1
      · rw [wS_ne (by omega)]; exact a2.2.2.2 r hr
    have hok := hrS_ok hs (k := j + 1)
    have hm7 := mostR_le6 hP (by omega) hok (evP P)
    rw [everyM_n hP (hM.same sm1), sb]
    obtain ⟨w2, b1, b2⟩ := mostEv_n hP ⟨by omega, by omega⟩ (Nat.le_refl 1) (hM.same sm1) hm1 hok
    have b1' : D_X6_mostOn (wS w1 25 0 8 (nI (s.1 + (j + 1)))) 1 (nI (2 ^ P.1 - 1)) = some (nI (mostR P (hrS s (j + 1)) (evP P)), w2) := b1
    rw [b1', sb]
    have sm2 : Sm w w2 := sm1.tr (Sm.off b2 (by decide))
    have hmono := mostR_mono hP (B := B + (j + 1)) (by omega) hok (hs.mono (by omega)) (show s.1 ≤ s.1 + (j + 1) by omega) rfl (evP P)
    by_cases he : mostR P (hrS s (j + 1)) (evP P) = mostR P s (evP P)
    · rw [if_pos (by rw [he]; exact (nI_leI (by omega) (by omega)).mpr (Nat.le_refl _)), if_pos he, ltd, n1, nI_add]
      obtain ⟨w3, c1, c2⟩ := ih (j + 1) N w2 (by omega) (by omega) (by omega) (hM.same sm2) (hm.same sm2)
      exact ⟨w3, c1, sm2.tr c2⟩
    · have hlt : mostR P (hrS s (j + 1)) (evP P) < mostR P s (evP P) := by omega
      rw [if_neg (by rw [nI_leI (by omega) (by omega)]; omega), if_neg he, n1, pk_sub (by omega), Nat.add_sub_cancel]
      exact ⟨w2, rfl, sm2⟩
theorem slack_ok {P : Pa} {B : Nat} {N : Sd} (hB : 10 ≤ B ∧ B < 2 ^ 27) : OkQ P B N D_X5_slack D_X6_slack := by
  intro w hq
  obtain ⟨hP, hX, hM, hs, hx, hm⟩ := hq
  obtain ⟨w1, a1, a2⟩ := mostFrom_n hP ⟨hB.1, by omega⟩ hX hs (by decide) (by decide) hx
  have sm1 : Sm w w1 := Sm.off a2 LSr_SC
  obtain ⟨w2, b1, b2, b3⟩ := take_n (a := 1) (b := 0) (by decide) (by decide) (by decide) (hx.same sm1 (by decide) (by decide))
  have sm2 := sm1.tr (Sm.off b3 (by decide))
  obtain ⟨w3, c1, c2⟩ := slackX_loop hP hB hs 9 0 fuelZ w2 rfl (by decide) (by omega) (hX.same sm2) b2
  have sm3 := sm2.tr c2
  obtain ⟨w4, d1, d2⟩ := mostEv_n hP ⟨hB.1, by omega⟩ (Nat.zero_le 1) (hM.same sm3) (hm.same sm3) hs
  have sm4 := sm3.tr (Sm.off d2 (by decide))
  obtain ⟨w5, e1, e2⟩ := slackM_loop hP hB hs 9 0 fuelZ w4 rfl (by decide) (by omega) (hM.same sm4) (hm.same sm4)
  refine ⟨nI (slkF P N 9 0), w3, w5, ?_, sm3, ?_, (Sm.off d2 (by decide)).tr e2⟩
  · unfold D_X5_slack
    rw [a1, sb, ltd, b1, sb]
    exact c1
  · unfold D_X6_slack
    rw [everyM_n hP (hM.same sm3), sb]
    have d1' : D_X6_mostOn w3 0 (nI (2 ^ P.1 - 1)) = some (nI (mostR P N (evP P)), w4) := d1
    rw [d1', sb, ltd]
    exact e1
def rdD (s : Sd) (j : Nat) : Sd := (s.1, s.2.1, s.2.2.1, fun k => if k = j then s.2.2.2 j - 1 else s.2.2.2 k)
theorem rdD_ok {n B : Nat} {s : Sd} (h : okS n B s) {j : Nat} (hj : j < 5) : okS n B (rdD s j) := ⟨h.1, h.2.1, h.2.2.1, fun r hr => by
  show (if r = j then s.2.2.2 j - 1 else s.2.2.2 r) ≤ 3
  have := h.2.2.2 r hr
  have := h.2.2.2 j hj
  split <;> omega⟩
noncomputable def mdU (P : Pa) (s : Sd) (j : Nat) (o : Option (Nat × Nat)) : Option (Nat × Nat) := if s.2.2.2 j = 0 then o else match o with
  | none => some (mostR P (rdD s j) (evP P), j)
  | some q => if mostR P (rdD s j) (evP P) ≤ q.1 then some q else some (mostR P (rdD s j) (evP P), j)
noncomputable def mdF (P : Pa) (s : Sd) : Nat → Nat → Option (Nat × Nat) → Option (Nat × Nat)
  | 0, _, o => o
  | n + 1, j, o => mdF P s n (j + 1) (mdU P s j o)
theorem n_m9 {m : Nat} (h : m < 2 ^ 31) : ¬ nI m ≤ (-9) := by
  rw [Int32.le_iff_toInt_le, nI_toInt h]
  have h2 : (-9 : Int32).toInt = -9 := by decide +kernel
  rw [h2]; omega
theorem shorten_n {P : Pa} {B : Nat} {s : Sd} {w : Wd} {q j : Nat} (hq : q < 19) (hj : j < 5) (hs : okS P.1 B s) (hx : XS1 q s w) (hp : 0 < s.2.2.2 j) : ∃ w', D_X3_shorten w q (nI j) = some w' ∧ XS1 q (rdD s j) w' ∧ Off [(15, q)] w w' := by
  have h3 := hs.2.2.2 j hj
  unfold D_X3_shorten
  have hin : inB (nI j) 5 := (inB_n (by omega)).mpr hj
  rw [if_pos hq, if_neg (nI_lt0 (by omega)), if_neg (by rw [n5, nI_leI (by omega) (by omega)]; omega), if_pos hin, if_pos hin, ltd, nI_clamp (by omega), hx.2.2.2 j hj, n1, pk_sub (by omega)]
  refine ⟨_, rfl, ⟨?_, ?_, ?_, fun r hr => ?_⟩, Off.wS⟩
  · rw [wS_off (by simp)]; exact hx.1
  · rw [wS_off (by simp)]; exact hx.2.1
  · rw [wS_off (by simp)]; exact hx.2.2.1
  · show _ = nI (if r = j then s.2.2.2 j - 1 else s.2.2.2 r)
    by_cases hrj : r = j
    · rw [if_pos hrj, hrj, wS_at]
    · rw [if_neg hrj, wS_ne hrj]; exact hx.2.2.2 r hr
def okO (o : Option (Nat × Nat)) : Prop := ∀ q, o = some q → q.1 ≤ 6 ∧ q.2 < 5
theorem mdU_ok {P : Pa} {B : Nat} {s : Sd} (hP : okP P) (hB : 10 ≤ B) (hs : okS P.1 B s) {j : Nat} (hj : j < 5) {o : Option (Nat × Nat)} (ho : okO o) : okO (mdU P s j o) := by
  have hm := mostR_le6 hP hB (rdD_ok hs hj) (evP P)
  unfold mdU
  split
  · exact ho
  · cases o with
    | none => intro q hq; cases hq; exact ⟨hm, hj⟩
    | some p =>
      dsimp only
      split
      · exact ho
      · intro q hq; cases hq; exact ⟨hm, hj⟩
theorem mendX_loop {P : Pa} {B : Nat} {s : Sd} {x1 : Int32} (hP : okP P) (hB : 10 ≤ B ∧ B < 2 ^ 27) (hs : okS P.1 B s) : ∀ (n j N : Nat) (o : Option (Nat × Nat)) (w : Wd), 5 - j = n → n < N → j ≤ 5 → okO o → XP P w → XS1 0 s w →
    ∃ w', D_X5_mending_9 N x1 (enc (o.map (·.1))) (enc (o.map (·.2))) (nI j) w = some (if x1 = 0 then enc ((mdF P s n j o).map (·.2)) else enc ((mdF P s n j o).map (·.1)), w') ∧ Sm w w' := by
  intro n
  induction n with
  | zero =>
    intro j N o w hn hN hj ho hX hx
    obtain ⟨N, rfl⟩ : ∃ M, N = M + 1 := ⟨N - 1, by omega⟩
    have : j = 5 := by omega
    subst this
    unfold D_X5_mending_9 mdF
    rw [if_pos (by rw [n5]; exact (nI_leI (by decide) (by decide)).mpr (Nat.le_refl _))]
    by_cases h : x1 = 0
    · rw [if_pos h, if_pos h]; exact ⟨w, rfl, Sm.rf⟩
    · rw [if_neg h, if_neg h]; exact ⟨w, rfl, Sm.rf⟩
  | succ n ih =>
    intro j N o w hn hN hj ho hX hx
    obtain ⟨N, rfl⟩ : ∃ M, N = M + 1 := ⟨N - 1, by omega⟩
    have hj5 : j < 5 := by omega
    have h3 := hs.2.2.2 j hj5
    unfold D_X5_mending_9 mdF
    have e : rdZ w 15 0 j = nI (s.2.2.2 j) := hx.2.2.2 j hj5
    rw [if_neg (by rw [n5, nI_leI (by omega) (by omega)]; omega), at_n rfl (by decide) (show j < lenZ 15 from hj5), sb, e]
    by_cases h0 : s.2.2.2 j = 0
    · rw [if_pos (by rw [n0, nI_leI (by omega) (by omega)]; omega), ltd, n1, nI_add]
      have hu : mdU P s j o = o := by unfold mdU; rw [if_pos h0]
      rw [hu]
      exact ih (j + 1) N o w (by omega) (by omega) (by omega) ho hX hx
    · rw [if_neg (by rw [n0, nI_leI (by omega) (by omega)]; omega)]
      obtain ⟨w1, a1, a2, a3⟩ := take_n (a := 1) (b := 0) (by decide) (by decide) (by decide) hx
      have sm1 : Sm w w1 := Sm.off a3 (by decide)
      obtain ⟨w2, b1, b2, b3⟩ := shorten_n (by decide) hj5 hs a2 (by omega)
      have sm2 : Sm w w2 := sm1.tr (Sm.off b3 (by decide))
      have hok := rdD_ok hs hj5
      have hm6 := mostR_le6 hP hB.1 hok (evP P)
      obtain ⟨w3, c1, c2⟩ := mostFrom_n hP ⟨hB.1, by omega⟩ (hX.same sm2) hok (by decide) (by decide) b2
      have sm3 := sm2.tr (Sm.off c2 LSr_SC)
      rw [a1, sb, b1, sb, c1, sb, ltd]
      dsimp only
      have hou := mdU_ok hP hB.1 hs hj5 ho
      have IH := ih (j + 1) N (mdU P s j o) w3 (by omega) (by omega) (by omega) hou (hX.same sm3) (hx.same sm3 (by decide) (by decide))
      obtain ⟨w4, d1, d2⟩ := IH
      refine ⟨w4, ?_, sm3.tr d2⟩
      cases o with
      | none =>
        have hu : mdU P s j none = some (mostR P (rdD s j) (evP P), j) := by unfold mdU; rw [if_neg h0]
        rw [hu] at d1 ⊢
        have hng : ¬ nI (mostR P (rdD s j) (evP P)) ≤ enc (Option.map (fun x => x.1) (none : Option (Nat × Nat))) := n_m9 (by omega)
        rw [if_neg hng, ltd, n1, nI_add]
        exact d1
      | some q =>
        obtain ⟨q1, q2⟩ := ho q rfl
        by_cases hle : mostR P (rdD s j) (evP P) ≤ q.1
        · have hu : mdU P s j (some q) = some q := by unfold mdU; rw [if_neg h0]; dsimp only; rw [if_pos hle]
          rw [hu] at d1 ⊢
          have hps : nI (mostR P (rdD s j) (evP P)) ≤ enc (Option.map (fun x => x.1) (some q)) := (nI_leI (a := mostR P (rdD s j) (evP P)) (b := q.1) (by omega) (by omega)).mpr hle
          rw [if_pos hps, ltd, n1, nI_add]
          exact d1
        · have hu : mdU P s j (some q) = some (mostR P (rdD s j) (evP P), j) := by unfold mdU; rw [if_neg h0]; dsimp only; rw [if_neg hle]
          rw [hu] at d1 ⊢
          have hng : ¬ nI (mostR P (rdD s j) (evP P)) ≤ enc (Option.map (fun x => x.1) (some q)) := fun z => hle ((nI_leI (by omega) (by omega)).mp z)
          rw [if_neg hng, ltd, n1, nI_add]
          exact d1
theorem mendM_loop {P : Pa} {B : Nat} {s : Sd} {x1 : Int32} (hP : okP P) (hB : 10 ≤ B ∧ B < 2 ^ 27) (hs : okS P.1 B s) : ∀ (n j N : Nat) (o : Option (Nat × Nat)) (w : Wd), 5 - j = n → n < N → j ≤ 5 → okO o → MP P w → ML 0 s w →
    ∃ w', D_X6_mending_9 N x1 (enc (o.map (·.2))) (enc (o.map (·.1))) (nI j) w = some (if x1 = 0 then enc ((mdF P s n j o).map (·.2)) else enc ((mdF P s n j o).map (·.1)), w') ∧ Sm w w' := by
  intro n
  induction n with
  | zero =>
    intro j N o w hn hN hj ho hM hm
    obtain ⟨N, rfl⟩ : ∃ M, N = M + 1 := ⟨N - 1, by omega⟩
    have : j = 5 := by omega
    subst this
    unfold D_X6_mending_9 mdF
    rw [if_pos (by rw [n5]; exact (nI_leI (by decide) (by decide)).mpr (Nat.le_refl _))]
    by_cases h : x1 = 0
    · rw [if_pos h, if_pos h]; exact ⟨w, rfl, Sm.rf⟩
    · rw [if_neg h, if_neg h]; exact ⟨w, rfl, Sm.rf⟩
  | succ n ih =>
    intro j N o w hn hN hj ho hM hm
    obtain ⟨N, rfl⟩ : ∃ M, N = M + 1 := ⟨N - 1, by omega⟩
    have hj5 : j < 5 := by omega
    have h3 := hs.2.2.2 j hj5
    unfold D_X6_mending_9 mdF
    have e : w.1 25 0 (3 + j) = nI (s.2.2.2 j) := by
      have := hm.2.2.2 j hj5
      rwa [show 8 * 0 + 3 + j = 3 + j by omega] at this
    rw [if_neg (by rw [n5, nI_leI (by omega) (by omega)]; omega), n3, show (11 : Int32) = nI 11 from rfl, nI_add, nI_add]
    have i1 : inB (nI (3 + j)) 16 := (inB_n (by omega)).mpr (by omega)
    have i2 : inB (nI (11 + j)) 16 := (inB_n (by omega)).mpr (by omega)
    simp only [if_pos i1, if_pos i2, nI_clamp (show 3 + j < 2 ^ 31 by omega), nI_clamp (show 11 + j < 2 ^ 31 by omega), e]
    by_cases h0 : s.2.2.2 j = 0
    · rw [if_pos (by rw [n0, nI_leI (by omega) (by omega)]; omega), ltd, n1, nI_add]
      have hu : mdU P s j o = o := by unfold mdU; rw [if_pos h0]
      rw [hu]
      exact ih (j + 1) N o w (by omega) (by omega) (by omega) ho hM hm
    · rw [if_neg (by rw [n0, nI_leI (by omega) (by omega)]; omega)]
      obtain ⟨w1, a1, a2, a3⟩ := layTrial_n hm
      have e11 : w1.1 25 0 (11 + j) = nI (s.2.2.2 j) := a2.2.2.2 j hj5
      have o1 : OffM w1 (wS w1 25 0 (11 + j) (nI (s.2.2.2 j - 1))) := ⟨fun k i hk => wS_off (fun z => hk (by rw [z.1, z.2])), fun r hr => wS_ne (by omega), rfl⟩
      have sm2 : Sm w (wS w1 25 0 (11 + j) (nI (s.2.2.2 j - 1))) := (Sm.offM a3).tr (Sm.offM o1)
      have hm1 : ML 1 (rdD s j) (wS w1 25 0 (11 + j) (nI (s.2.2.2 j - 1))) := by
        refine ⟨?_, ?_, ?_, fun r hr => ?_⟩
        · rw [wS_ne (by omega)]; exact a2.1
        · rw [wS_ne (by omega)]; exact a2.2.1
        · rw [wS_ne (by omega)]; exact a2.2.2.1
        · show _ = nI (if r = j then s.2.2.2 j - 1 else s.2.2.2 r)
          by_cases hrj : r = j
          · rw [if_pos hrj, hrj, show 8 * 1 + 3 + j = 11 + j by omega, wS_at]
          · rw [if_neg hrj, wS_ne (by omega)]; exact a2.2.2.2 r hr
      have hok := rdD_ok hs hj5
      have hm6 := mostR_le6 hP hB.1 hok (evP P)
      obtain ⟨w3, c1, c2⟩ := mostEv_n hP ⟨hB.1, by omega⟩ (Nat.le_refl 1) (hM.same sm2) hm1 hok
      have c1' : D_X6_mostOn (wS w1 25 0 (11 + j) (nI (s.2.2.2 j - 1))) 1 (nI (2 ^ P.1 - 1)) = some (nI (mostR P (rdD s j) (evP P)), w3) := c1
      have sm3 := sm2.tr (Sm.off c2 (by decide))
      rw [a1, sb, ltd, e11, n1, pk_sub (by omega), everyM_n hP (hM.same sm2), sb, ← n1, c1', sb, ltd]
      dsimp only
      have hou := mdU_ok hP hB.1 hs hj5 ho
      obtain ⟨w4, d1, d2⟩ := ih (j + 1) N (mdU P s j o) w3 (by omega) (by omega) (by omega) hou (hM.same sm3) (hm.same sm3)
      refine ⟨w4, ?_, sm3.tr d2⟩
      cases o with
      | none =>
        have hu : mdU P s j none = some (mostR P (rdD s j) (evP P), j) := by unfold mdU; rw [if_neg h0]
        rw [hu] at d1 ⊢
        have hng : ¬ nI (mostR P (rdD s j) (evP P)) ≤ enc (Option.map (·.1) (none : Option (Nat × Nat))) := n_m9 (by omega)
        rw [if_neg hng, if_neg hng, ltd, n1, nI_add]
        exact d1
      | some q =>
        obtain ⟨q1, q2⟩ := ho q rfl
        by_cases hle : mostR P (rdD s j) (evP P) ≤ q.1
        · have hu : mdU P s j (some q) = some q := by unfold mdU; rw [if_neg h0]; dsimp only; rw [if_pos hle]
          rw [hu] at d1 ⊢
          have hps : nI (mostR P (rdD s j) (evP P)) ≤ enc (Option.map (·.1) (some q)) := (nI_leI (a := mostR P (rdD s j) (evP P)) (b := q.1) (by omega) (by omega)).mpr hle
          rw [if_pos hps, if_pos hps, ltd, n1, nI_add]
          exact d1
        · have hu : mdU P s j (some q) = some (mostR P (rdD s j) (evP P), j) := by unfold mdU; rw [if_neg h0]; dsimp only; rw [if_neg hle]
          rw [hu] at d1 ⊢
          have hng : ¬ nI (mostR P (rdD s j) (evP P)) ≤ enc (Option.map (·.1) (some q)) := fun z => hle ((nI_leI (by omega) (by omega)).mp z)
          rw [if_neg hng, if_neg hng, ltd, n1, nI_add]
          exact d1
theorem mending_ok {P : Pa} {B : Nat} {N : Sd} (hB : 10 ≤ B ∧ B < 2 ^ 27) (x1 : Int32) : OkQ P B N (fun w => D_X5_mending w x1) (fun w => D_X6_mending w x1) := by
  intro w hq
  obtain ⟨hP, hX, hM, hs, hx, hm⟩ := hq
  have h0 : okO none := fun q hq => by cases hq
  obtain ⟨w1, a1, a2⟩ := mendX_loop (x1 := x1) hP hB hs 5 0 fuelZ none w rfl (by decide) (by omega) h0 hX hx
  obtain ⟨w2, b1, b2⟩ := mendM_loop (x1 := x1) hP hB hs 5 0 fuelZ none w1 rfl (by decide) (by omega) h0 (hM.same a2) (hm.same a2)
  exact ⟨_, w1, w2, a1, a2, b1, b2⟩
