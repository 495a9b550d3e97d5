/-! the programme's loops -/
def cprt (P : Pa) (s : Sd) (op : Nat) (e : Nat → Nat → Option Nat) (S i k : Nat) : Prop := ∀ r c s', runS P s ((r ++ [c]) ++ [i]) = some s' → opR op ((r ++ [c]) ++ [i]) → setR (r ++ [c]) = S → c < k → ∃ b, e (S ||| 2 ^ i) i = some b ∧ b ≤ s'.1
theorem ML.off {l : Nat} {s : Sd} {w w' : Wd} {L : List (Nat × Nat)} (h : ML l s w) (ho : Off L w w') (h0 : (25, 0) ∉ L) : ML l s w' := by
  unfold ML
  rw [ho.1 25 0 h0]
  exact h
theorem noteE_snd {P : Pa} {s : Sd} {op : Nat} {e : Nat → Nat → Option Nat} {S i : Nat} {bo : Option Nat} (he : sndE P s op e) (hn : ∀ b, bo = some b → Rc P s op (S ||| 2 ^ i) i (freeW P i b)) : sndE P s op (noteE P e S i bo) := by
  cases bo with
  | none => exact he
  | some b =>
    intro T t x hx
    have hx : updE e (S ||| 2 ^ i) i (ominE (e (S ||| 2 ^ i) i) (freeW P i b)) T t = some x := hx
    unfold updE at hx
    by_cases hc : T = S ||| 2 ^ i ∧ t = i
    · rw [if_pos hc] at hx
      obtain ⟨z, z1, z2, z3, z4⟩ := ominE_le (e (S ||| 2 ^ i) i) (freeW P i b)
      rw [z1] at hx
      cases hx
      rw [hc.1, hc.2]
      rcases z4 with z4 | z4
      · rw [z4]; exact hn b rfl
      · exact he _ _ _ z4
    · rw [if_neg hc] at hx; exact he _ _ _ hx
theorem noteE_le {P : Pa} {e : Nat → Nat → Option Nat} {S i : Nat} {bo : Option Nat} : leE e (noteE P e S i bo) := by
  cases bo with
  | none => exact leE.rf
  | some b => exact updE_le
theorem noteE_at {P : Pa} {e : Nat → Nat → Option Nat} {S i b : Nat} : ∃ z, noteE P e S i (some b) (S ||| 2 ^ i) i = some z ∧ z ≤ freeW P i b := by
  obtain ⟨z, z1, z2, -⟩ := ominE_le (e (S ||| 2 ^ i) i) (freeW P i b)
  exact ⟨z, by show updE e (S ||| 2 ^ i) i (ominE (e (S ||| 2 ^ i) i) (freeW P i b)) (S ||| 2 ^ i) i = some z; unfold updE; rw [if_pos ⟨rfl, rfl⟩]; exact z1, z2⟩
theorem testBit_or_pow {S i : Nat} : (S ||| 2 ^ i).testBit i = true := by rw [Nat.testBit_or, Nat.testBit_two_pow]; simp
theorem xor_lt : ∀ a, a < 64 → ∀ i, i < 6 → a.testBit i = true → a ^^^ 2 ^ i < a := by decide +kernel
theorem xor_or : ∀ a, a < 64 → ∀ i, i < 6 → a.testBit i = false → (a ||| 2 ^ i) ^^^ 2 ^ i = a := by decide +kernel
theorem or_xor : ∀ a, a < 64 → ∀ i, i < 6 → a.testBit i = true → (a ^^^ 2 ^ i) ||| 2 ^ i = a := by decide +kernel
theorem inner_n {P : Pa} {B l : Nat} {s : Sd} {op S i m : Nat} (hP : okP P) (hB : 10 ≤ B ∧ B < 2 ^ 28) (hl : l ≤ 1) (hs : okS P.1 B s) (hop : ∀ k, op.testBit k = true → s.2.2.1.testBit k = false) (hS : S < 64) (hi : i < P.1) (hoi : op.testBit i = true) (hSi : S.testBit i = false) (k51 : Int32 → Int32 → Int32 → Int32 → Int32 → Wd → Option (Int32 × Wd)) (k61 : Int32 → Int32 → Int32 → Int32 → Int32 → Int32 → Wd → Option (Int32 × Wd)) :
    ∀ (n j N : Nat) (e : Nat → Nat → Option Nat) (w : Wd), P.1 - j < n → n ≤ N → j ≤ P.1 → MP P w → ML l s w → EAr e w → sndE P s op e → cmpE P s op e S i → cprt P s op e S i j →
      ∃ e' w', D_X6_mostOn_132 k51 k61 N (nI l) (nI (8 * l)) (nI op) (nI m) (nI S) (nI i) (nI j) w = D_X6_mostOn_211 k51 k61 (nI l) (nI (8 * l)) (nI op) (nI m) (nI S) (nI i) w' ∧ EAr e' w' ∧ sndE P s op e' ∧ leE e e' ∧ cprt P s op e' S i P.1 ∧ Off [(28, 0)] w w' := by
  have h6 := hP.1
  intro n
  induction n with
  | zero => intro j N e w h; omega
  | succ n ih =>
    intro j N e w hn hN hj hM hm he hsn hcm hcp
    obtain ⟨N, rfl⟩ : ∃ M, N = M + 1 := ⟨N - 1, by omega⟩
    unfold D_X6_mostOn_132
    rw [hM.1]
    by_cases hjn : j = P.1
    · subst hjn
      rw [if_pos ((nI_leI (by omega) (by omega)).mpr (Nat.le_refl _))]
      exact ⟨e, w, rfl, he, hsn, leE.rf, hcp, Off.rf⟩
    · have hj2 : j < P.1 := by omega
      obtain ⟨f0, -⟩ := hP.2.2 j hj2
      obtain ⟨i0, -⟩ := hP.2.2 i hi
      obtain ⟨m0, -⟩ := hM.2.2 j hj2
      rw [if_neg (by rw [nI_leI (by omega) (by omega)]; omega), hasM_n S hS j (by omega), sb]
      have skip : (∀ r s', runS P s ((r ++ [j]) ++ [i]) = some s' → opR op ((r ++ [j]) ++ [i]) → setR (r ++ [j]) = S → False) → ∃ e' w', D_X6_mostOn_132 k51 k61 N (nI l) (nI (8 * l)) (nI op) (nI m) (nI S) (nI i) (nI (j + 1)) w = D_X6_mostOn_211 k51 k61 (nI l) (nI (8 * l)) (nI op) (nI m) (nI S) (nI i) w' ∧ EAr e' w' ∧ sndE P s op e' ∧ leE e e' ∧ cprt P s op e' S i P.1 ∧ Off [(28, 0)] w w' := fun hno =>
        ih (j + 1) N e w (by omega) (by omega) (by omega) hM hm he hsn hcm (fun r c s' g1 g2 g3 g4 => by
          by_cases hcj : c = j
          · subst hcj; exact (hno r s' g1 g2 g3).elim
          · exact hcp r c s' g1 g2 g3 (by omega))
      by_cases hb : S.testBit j = true
      · have hin : inB (nI (6 * S + j)) 384 := (inB_n (by omega)).mpr (by omega)
        have hix : inB (nI j) 6 := (inB_n (by omega)).mpr (by omega)
        rw [if_pos hb, if_neg (by decide +kernel), n6, pk_mul, nI_add]
        simp only [if_pos hin, if_pos hix, nI_clamp (show 6 * S + j < 2 ^ 31 by omega), nI_clamp (show j < 2 ^ 31 by omega), he S hS j (by omega), m0]
        cases heq : e S j with
        | none =>
          rw [show enc none = (-9) from rfl, if_pos rfl, ltd, n1, nI_add]
          refine skip (fun r s' g1 g2 g3 => ?_)
          obtain ⟨u, u1, u2⟩ := run_snoc g1
          have hRc : Rc P s op S j u.1 := ⟨r, u, u1, fun x hx => g2 x (List.mem_append_left _ hx), g3, rfl⟩
          have hlt : S ^^^ 2 ^ j < S := xor_lt S hS j (by omega) hb
          obtain ⟨b, b1, -⟩ := hcm S j u.1 hRc (Or.inl hlt)
          rw [heq] at b1; cases b1
        | some h' =>
          have hRc := hsn S j h' heq
          obtain ⟨r1, -, -, -, -, -⟩ := Rc_le hP hB.1 hs hRc
          rw [show enc (some h') = nI h' from rfl, if_neg (nI_ne9 (by omega)), n0, beginsM_n hP hM hl hm hs hi f0 (by omega), sb, Nat.add_zero]
          obtain ⟨w1, e1, e2, e3⟩ := note_n (bo := begW P i h' (wayN s.2.2.2 (P.2.2 j 0) (P.2.2 i 0))) hP hM he hS hi (fun b hb => (begW_le hP hi hb).1) (fun b hb => (Rc_le hP hB.1 hs (hsn _ _ _ hb)).1)
          rw [e1, sb, ltd, n1, nI_add]
          have hwd : ∀ (r : List Nat) (u : Sd), runS P s (r ++ [j]) = some u → setR (r ++ [j]) = S → ¬ u.2.2.1.testBit i = true := fun r u hu hu2 => by
            rw [row_state hP hB.1 hs hu, hu2]
            show ¬ (s.2.2.1 ||| S).testBit i = true
            rw [Nat.testBit_or, hop i hoi, hSi]; simp
          have hsn2 : sndE P s op (noteE P e S i (begW P i h' (wayN s.2.2.2 (P.2.2 j 0) (P.2.2 i 0)))) := noteE_snd hsn (fun b hb => by
            obtain ⟨r, u, u1, u2, u3, u4⟩ := hRc
            have hst := row_state hP hB.1 hs u1
            have hw : wedS P u i = some (freeW P i b, P.2.2 i 0, u.2.2.1 ||| 2 ^ i, u.2.2.2) := wedS_of hi (hwd r u u1 u3) (by rw [hst]; dsimp only; rw [u4]; exact hb)
            refine ⟨r ++ [j], _, snoc_run u1 hw, fun x hx => ?_, by rw [setR_app, u3]; simp [setR], rfl⟩
            rcases List.mem_append.mp hx with hx | hx
            · exact u2 x hx
            · rw [List.mem_singleton.mp hx]; exact hoi)
          obtain ⟨e', w', g1, g2, g3, g4, g5, g6⟩ := ih (j + 1) N _ w1 (by omega) (by omega) (by omega) (hM.off e3 (by decide) (by decide) (by decide) (by decide) (by decide) (by decide)) (hm.off e3 (by decide)) e2 hsn2 (hcm.mono noteE_le) (fun r c s' g1 g2 g3 g4 => by
            by_cases hcj : c = j
            · subst hcj
              obtain ⟨u, u1, u2⟩ := run_snoc g1
              have hst := row_state hP hB.1 hs u1
              have hRu : Rc P s op S c u.1 := ⟨r, u, u1, fun x hx => g2 x (List.mem_append_left _ hx), g3, rfl⟩
              obtain ⟨b0, b1, b2⟩ := hcm S c u.1 hRu (Or.inl (xor_lt S hS c (by omega) hb))
              rw [heq] at b1
              cases b1
              obtain ⟨v1, v2, b, v3, v4⟩ := wedS_some u2
              rw [hst] at v3
              obtain ⟨b', k1, k2⟩ := begW_mono b2 v3
              dsimp only at k1
              rw [k1]
              obtain ⟨z, z1, z2⟩ := noteE_at (P := P) (e := e) (S := S) (i := i) (b := b')
              refine ⟨z, z1, ?_⟩
              rw [v4]
              show z ≤ freeW P i b
              unfold freeW at z2 ⊢
              omega
            · obtain ⟨b, b1, b2⟩ := hcp r c s' g1 g2 g3 (by omega)
              obtain ⟨b', b3, b4⟩ := noteE_le (P := P) (S := S) (i := i) (bo := begW P i h' (wayN s.2.2.2 (P.2.2 j 0) (P.2.2 i 0))) _ _ _ b1
              exact ⟨b', b3, by omega⟩)
          exact ⟨e', w', g1, g2, g3, noteE_le.tr g4, g5, e3.tr g6⟩
      · rw [if_neg hb, if_pos (by decide +kernel), ltd, n1, nI_add]
        refine skip (fun r s' g1 g2 g3 => hb ?_)
        rw [← g3, setR_bit]; simp
