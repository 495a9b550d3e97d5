/-! the acts -/
theorem linger_ok : OkI D_X5_linger D_X6_linger := by
  intro c w hc hi
  obtain ⟨t, tx, P, N, A, na, old, nx, K, V, nv, h1, h2, h3, h4, h5, h6⟩ := hi
  have hs := h2.2.2.2.1
  obtain ⟨w1, w2, a1, a2, a3, a4, a5⟩ := act_n (r := nI (N.1 + 1)) (N' := hrS N 1) (fx := fun q1 => lt (wS q1 3 0 1 ((q1.1 3 0 1) + (1 : Int32))) fun w2 => some (w2.1 3 0 1, w2)) (fm := fun q1 => lt (wS q1 25 0 0 ((q1.1 25 0 0) + (1 : Int32))) fun w2 => some (w2.1 25 0 0, w2)) h1 h2 h3 h4 h5 h6 ((hrS_ok hs).mono (by omega))
    (fun w' hX hx => by
      rw [hx.1, n1, nI_add, ltd]
      refine ⟨_, by rw [wS_at], ⟨?_, ?_, ?_, fun r hr => ?_⟩, OffC.wS.mono (by intro k i j z; unfold CXn; omega)⟩
      · rw [wS_at]; rfl
      · rw [wS_ne (by decide)]; exact hx.2.1
      · rw [wS_ne (by decide)]; exact hx.2.2.1
      · rw [wS_off (by simp)]; exact hx.2.2.2 r hr)
    (fun w' hM hm => by
      rw [show w'.1 25 0 0 = nI N.1 from hm.1, n1, nI_add, ltd]
      refine ⟨_, by rw [wS_at], ⟨?_, ?_, ?_, fun r hr => ?_⟩, OffC.wS.mono (by intro k i j z; unfold CMn; omega)⟩
      · exact wS_at
      · rw [wS_ne (by decide)]; exact hm.2.1
      · rw [wS_ne (by decide)]; exact hm.2.2.1
      · rw [wS_ne (by omega)]; exact hm.2.2.2 r hr)
  exact ⟨_, w1, w2, a1, a2, a3⟩
theorem wed_ok (x : Int32) : OkI (fun w => D_X5_wed w x) (fun w => D_X6_wed w x) := by
  intro c w hc hi
  have hi' := hi
  obtain ⟨t, tx, P, N, A, na, old, nx, K, V, nv, h1, h2, h3, h4, h5, h6⟩ := hi
  obtain ⟨hP, hX, hM, hs, hx, hm⟩ := id h2
  have h66 := hP.1
  dsimp only
  unfold D_X5_wed
  rcases ix_cases x (n := P.1) (by omega) with ⟨j, hj, rfl⟩ | ho
  · rw [has_n hX hP hj, sb, if_neg ne10, beginOn_n hP hX (by decide) hx hs (by omega) hj, sb]
    cases hb : begS P N j with
    | none =>
      refine ⟨-3, w, w, by rw [if_pos (by rfl)], ?_, hi'.same Sm.rf⟩
      have hbn : D_X6_beginsNow w 0 (nI j) = some (enc (begS P N j)) := beginsNow_n (l := 0) hP hM (by omega) hm hs (by omega) hj
      unfold D_X6_wed
      rw [isWeddingM_n hP hM hj, sb, if_neg ne10, hbn, sb, hb, if_pos (by rfl)]
    | some b =>
      have hb9 := begS_le hP hb
      have hn9 : ¬ enc (some b) = (-9) := nI_ne9 (by omega)
      have hw : wedS P N j = some (freeW P j b, P.2.2 j 0, N.2.2.1 ||| 2 ^ j, N.2.2.2) := by unfold wedS; rw [hb]; rfl
      have hok := wedS_ok hP hs (by omega) hw
      rw [if_neg hn9]
      obtain ⟨w1, w2, a1, a2, a3, a4, a5⟩ := act_n (r := nI (freeW P j b)) (N' := (freeW P j b, P.2.2 j 0, N.2.2.1 ||| 2 ^ j, N.2.2.2)) (fx := fun q5 => (D_X1_celebrate q5 0 (nI j)).bind fun q6 => some (q6.2.1 3 0 1, q6.2)) (fm := fun q5 => (D_X6_wedOn q5 0 (nI j)).bind fun q6 => some (q6.2.1 25 0 0, q6.2)) h1 h2 h3 h4 h5 h6 (hok.mono (by omega))
        (fun w' hX hx => by
          rcases celebrate_n hP hX (by decide) hx hs (by omega) hj with ⟨z, -⟩ | ⟨s', w1, z, b1, b2, b3⟩
          · rw [z] at hw; cases hw
          · rw [hw] at z
            cases z
            rw [b1, sb]
            exact ⟨w1, by rw [show w1.1 3 0 1 = _ from b2.1], b2, (OffC.of b3).mono (by intro k i j z; simp at z; unfold CXn; omega)⟩)
        (fun w' hM hm => by
          rcases wedOn_n (l := 0) hP hM (by omega) hm hs (by omega) hj with ⟨z, -⟩ | ⟨s', w1, z, b1, b2, b3, b4⟩
          · rw [z] at hw; cases hw
          · rw [hw] at z
            cases z
            have b1' : D_X6_wedOn w' 0 (nI j) = some (1, w1) := b1
            rw [b1', sb]
            exact ⟨w1, by rw [show w1.1 25 0 0 = _ from b2.1], b2, (OffC.of b3).mono (by intro k i j z; simp at z; unfold CMn; omega)⟩)
      have hbe : D_X6_beginsNow w1 0 (nI j) = some (enc (begS P N j)) := beginsNow_n (l := 0) hP a4 (by omega) a5 hs (by omega) hj
      refine ⟨_, w1, w2, a1, ?_, a3⟩
      unfold D_X6_wed
      rw [isWeddingM_n hP a4 hj, sb, if_neg ne10, hbe, sb, hb, if_neg hn9]
      exact a2
  · rw [has_o hX ho, sb, if_pos rfl]
    refine ⟨_, w, w, rfl, ?_, hi'.same Sm.rf⟩
    unfold D_X6_wed
    rw [isWeddingM_o hP hM ho, sb, if_pos rfl]
theorem carry_ok (x : Int32) : OkI (fun w => D_X5_carry w x) (fun w => D_X6_carry w x) := by
  intro c w hc hi
  have hi' := hi
  obtain ⟨t, tx, P, N, A, na, old, nx, K, V, nv, h1, h2, h3, h4, h5, h6⟩ := hi
  obtain ⟨hP, hX, hM, hs, hx, hm⟩ := id h2
  dsimp only
  unfold D_X5_carry D_X6_carry
  rcases ix_cases x (n := 6) (by decide) with ⟨j, hj, rfl⟩ | ho
  · rw [churchX_n hj, sb, if_neg ne10, churchM_n hj, hx.2.1]
    have hN5 := hs.2.1
    by_cases hje : j = N.2.1
    · subst hje
      refine ⟨-3, w, w, by rw [if_pos rfl], ?_, hi'.same Sm.rf⟩
      rw [sb, if_neg ne10, show w.1 25 0 1 = nI N.2.1 from hm.2.1, if_pos rfl]
    · have hne : ¬ nI j = nI N.2.1 := fun z => hje ((nI_eq (by omega) (by omega)).mp z)
      have hne' : ¬ nI N.2.1 = nI j := fun z => hne z.symm
      have hwy := wayN_le hs.2.2.2 N.2.1 j
      have hs1 := hs.1
      rw [if_neg hne]
      obtain ⟨w1, w2, a1, a2, a3, a4, a5⟩ := act_n (r := nI (N.1 + wayN N.2.2.2 N.2.1 j)) (N' := (N.1 + wayN N.2.2.2 N.2.1 j, j, N.2.2.1, N.2.2.2)) (fx := fun q4 => (D_X3_hoursBetween q4 0 (q4.1 3 0 2) (nI j)).bind fun q5 => lt (wS q4 3 0 1 ((q4.1 3 0 1) + q5)) fun w6 => lt (wS w6 3 0 2 (nI j)) fun w7 => some (w7.1 3 0 1, w7)) (fm := fun q4 => (D_X6_wayOn q4 0 (q4.1 25 0 1) (nI j)).bind fun q5 => lt (wS q4 25 0 0 ((q4.1 25 0 0) + q5)) fun w6 => lt (wS w6 25 0 1 (nI j)) fun w7 => some (w7.1 25 0 0, w7)) h1 h2 h3 h4 h5 h6 ⟨by show N.1 + _ ≤ _; omega, by show j ≤ 5; omega, hs.2.2.1, hs.2.2.2⟩
        (fun w' hX hx => by
          rw [hx.2.1, hours_n (by decide) hx hs hN5 (by omega), sb, hx.1, nI_add, ltd, ltd]
          refine ⟨_, by rw [wS_ne (by decide), wS_at], ⟨?_, ?_, ?_, fun r hr => ?_⟩, (OffC.wS.tr OffC.wS).mono (by intro k i j z; unfold CXn; (try dsimp only at z); omega)⟩
          · rw [wS_ne (by decide), wS_at]
          · rw [wS_at]
          · rw [wS_ne (by decide), wS_ne (by decide)]; exact hx.2.2.1
          · rw [wS_off (by simp), wS_off (by simp)]; exact hx.2.2.2 r hr)
        (fun w' hM hm => by
          have e : D_X6_wayOn w' 0 (nI N.2.1) (nI j) = some (nI (wayN N.2.2.2 N.2.1 j)) := wayM_n (l := 0) (by omega) hm hs (by omega) (by omega)
          rw [show w'.1 25 0 1 = nI N.2.1 from hm.2.1, e, sb, show w'.1 25 0 0 = nI N.1 from hm.1, nI_add, ltd, ltd]
          refine ⟨_, by rw [wS_ne (by decide), wS_at], ⟨?_, ?_, ?_, fun r hr => ?_⟩, (OffC.wS.tr OffC.wS).mono (by intro k i j z; unfold CMn; (try dsimp only at z); omega)⟩
          · exact (wS_ne (by decide)).trans wS_at
          · exact wS_at
          · rw [wS_ne (by decide), wS_ne (by decide)]; exact hm.2.2.1
          · rw [wS_ne (by omega), wS_ne (by omega)]; exact hm.2.2.2 r hr)
      refine ⟨_, w1, w2, a1, ?_, a3⟩
      rw [sb, if_neg ne10, show w1.1 25 0 1 = nI N.2.1 from a5.2.1, if_neg hne']
      exact a2
  · rw [churchX_o ho, churchM_o ho]
    exact ⟨_, w, w, rfl, rfl, hi'.same Sm.rf⟩
theorem mend_ok (x : Int32) : OkI (fun w => D_X5_mend w x) (fun w => D_X6_mend w x) := by
  intro c w hc hi
  have hi' := hi
  obtain ⟨t, tx, P, N, A, na, old, nx, K, V, nv, h1, h2, h3, h4, h5, h6⟩ := hi
  obtain ⟨hP, hX, hM, hs, hx, hm⟩ := id h2
  dsimp only
  unfold D_X5_mend D_X6_mend
  rcases ix_cases x (n := 5) (by decide) with ⟨j, hj, rfl⟩ | ho
  · have h3r := hs.2.2.2 j hj
    have e : rdZ w 15 0 j = nI (N.2.2.2 j) := hx.2.2.2 j hj
    have e3 := hm.2.2.2 j hj
    rw [show 8 * 0 + 3 + j = 3 + j by omega] at e3
    have i1 : inB (nI (3 + j)) 16 := (inB_n (by omega)).mpr (by omega)
    rw [roadX_n hj, sb, if_neg ne10, at_n rfl (by decide) (show j < lenZ 15 from hj), sb, e]
    have hin : D_X6_in (Int32.toInt64 (nI j)) 0 4 = some 1 := inM_y (n := 5) (by decide) (by decide) hj
    simp only [hin, sb, if_neg ne10, n3, nI_add, if_pos i1, nI_clamp (show 3 + j < 2 ^ 31 by omega)]
    by_cases h0 : N.2.2.2 j = 0
    · refine ⟨-3, w, w, ?_, ?_, hi'.same Sm.rf⟩
      · rw [if_neg (by rw [h0]; decide)]; rfl
      · rw [e3, h0, if_pos (by decide)]; rfl
    · have hp : 0 < nI (N.2.2.2 j) := (nI_ltI (a := 0) (by decide) (by omega)).mpr (by omega)
      have hnz : ¬ nI (N.2.2.2 j) = 0 := fun z => h0 ((nI_eq (b := 0) (by omega) (by decide)).mp z)
      rw [if_pos hp]
      obtain ⟨w1, w2, a1, a2, a3, a4, a5⟩ := act_n (r := nI (N.2.2.2 j - 1)) (N' := rdD N j) (fx := fun q5 => (D_X3_shorten q5 0 (nI j)).bind fun q6 => (D_X5_at q6 15 0 (nI j)).bind fun q7 => some (q7, q6)) (fm := fun q5 => lt (wS q5 25 0 (3 + j) ((q5.1 25 0 (3 + j)) - (1 : Int32))) fun w8 => some (w8.1 25 0 (3 + j), w8)) h1 h2 h3 h4 h5 h6 ((rdD_ok hs hj).mono (by omega))
        (fun w' hX hx => by
          obtain ⟨w1, b1, b2, b3⟩ := shorten_n (by decide) hj hs hx (by omega)
          have er : rdZ w1 15 0 j = nI (N.2.2.2 j - 1) := (b2.2.2.2 j hj).trans (by show nI (if j = j then _ else _) = _; rw [if_pos rfl])
          rw [b1, sb, at_n rfl (by decide) (show j < lenZ 15 from hj), sb, er]
          exact ⟨w1, rfl, b2, (OffC.of b3).mono (by intro k i j z; simp at z; unfold CXn; omega)⟩)
        (fun w' hM hm => by
          have e3 := hm.2.2.2 j hj
          rw [show 8 * 0 + 3 + j = 3 + j by omega] at e3
          rw [e3, n1, pk_sub (by omega), ltd]
          refine ⟨_, by rw [wS_at], ⟨?_, ?_, ?_, fun r hr => ?_⟩, OffC.wS.mono (by intro k i j z; unfold CMn; omega)⟩
          · rw [wS_ne (by omega)]; exact hm.1
          · rw [wS_ne (by omega)]; exact hm.2.1
          · rw [wS_ne (by omega)]; exact hm.2.2.1
          · show _ = nI (if r = j then N.2.2.2 j - 1 else N.2.2.2 r)
            by_cases hrj : r = j
            · rw [if_pos hrj, hrj, show 8 * 0 + 3 + j = 3 + j by omega, wS_at]
            · rw [if_neg hrj, wS_ne (by omega)]; exact hm.2.2.2 r hr)
      refine ⟨_, w1, w2, a1, ?_, a3⟩
      have e4 := a5.2.2.2 j hj
      rw [show 8 * 0 + 3 + j = 3 + j by omega] at e4
      rw [e4, if_neg hnz]
      exact a2
  · rw [roadX_o ho, inM_o (n := 5) (by decide) (by decide) ho]
    exact ⟨_, w, w, rfl, rfl, hi'.same Sm.rf⟩
