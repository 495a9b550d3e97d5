/-! the programme as a whole -/
def mI (P : Pa) (s : Sd) (op S i m : Nat) : Prop := (m = 0 ∨ ∃ T t h, Rc P s op T t h ∧ cnt6 T = m) ∧ ∀ T t h, Rc P s op T t h → (T < S ∨ (T = S ∧ t < i)) → cnt6 T ≤ m
theorem snoc_cases (r : List Nat) : r = [] ∨ ∃ r' c, r = r' ++ [c] := by
  rcases List.eq_nil_or_concat r with h | ⟨r', c, h⟩
  · exact Or.inl h
  · exact Or.inr ⟨r', c, by rw [h, List.concat_eq_append]⟩
theorem Rc_op {P : Pa} {s : Sd} {op T t h : Nat} (g : Rc P s op T t h) {k : Nat} (hk : T.testBit k = true) : op.testBit k = true := by
  obtain ⟨r, s', g1, g2, g3, g4⟩ := g
  rw [← g3, setR_bit] at hk
  exact g2 k (by simpa using hk)
theorem andn_0 {S op : Nat} (hS : S < 64) : andn S op = 0 ↔ ∀ k, k < 6 → S.testBit k = true → op.testBit k = true := by
  constructor
  · intro h k hk hb
    have := andn_bit (a := S) (b := op) hk
    rw [h, Nat.zero_testBit, hb] at this
    simpa using this.symm
  · intro h
    apply Nat.eq_of_testBit_eq
    intro k
    rw [Nat.zero_testBit]
    by_cases hk : k < 6
    · rw [andn_bit hk]
      cases hb : S.testBit k with
      | false => rfl
      | true => rw [h k hk hb]; rfl
    · unfold andn
      rw [Nat.testBit_and]
      have : S.testBit k = false := Nat.testBit_lt_two_pow (Nat.lt_of_lt_of_le hS (show 2 ^ 6 ≤ 2 ^ k from Nat.pow_le_pow_right (by decide) (by omega)))
      rw [this]; rfl
def mUp (e : Nat → Nat → Option Nat) (S i m : Nat) : Nat := if S.testBit i = true ∧ (e S i).isSome = true ∧ m < cnt6 S then cnt6 S else m
theorem tail211 {e : Nat → Nat → Option Nat} {w : Wd} {S i m l op : Nat} (he : EAr e w) (hev : ∀ b, e S i = some b → b ≤ 10) (hS : S < 64) (hi : i < 6) (hm : m ≤ 6) (k51 : Int32 → Int32 → Int32 → Int32 → Int32 → Wd → Option (Int32 × Wd)) (k61 : Int32 → Int32 → Int32 → Int32 → Int32 → Int32 → Wd → Option (Int32 × Wd)) :
    D_X6_mostOn_211 k51 k61 (nI l) (nI (8 * l)) (nI op) (nI m) (nI S) (nI i) w = k61 (nI l) (nI (8 * l)) (nI op) (nI (mUp e S i m)) (nI S) (nI (i + 1)) w := by
  have hin : inB (nI (6 * S + i)) 384 := (inB_n (by omega)).mpr (by omega)
  have hc := cnt_le S hS
  unfold D_X6_mostOn_211 mUp
  rw [hasM_n S hS i hi, sb]
  by_cases hb : S.testBit i = true
  · rw [if_pos hb, if_neg (by decide +kernel), n6, pk_mul, nI_add]
    simp only [if_pos hin, nI_clamp (show 6 * S + i < 2 ^ 31 by omega), he S hS i hi]
    cases heq : e S i with
    | none =>
      rw [show enc none = (-9) from rfl, if_pos rfl, ltd, n1, nI_add, if_neg (fun z => by simpa using z.2.1)]
    | some b =>
      have := hev b heq
      rw [show enc (some b) = nI b from rfl, if_neg (nI_ne9 (by omega)), onesM_n S hS, sb, sb]
      by_cases hlt : m < cnt6 S
      · rw [if_neg (by rw [nI_leI (by omega) (by omega)]; omega), ltd, n1, nI_add, if_pos ⟨hb, rfl, hlt⟩]
      · rw [if_pos ((nI_leI (by omega) (by omega)).mpr (by omega)), ltd, n1, nI_add, if_neg (fun z => hlt z.2.2)]
  · rw [if_neg hb, if_pos (by decide +kernel), ltd, n1, nI_add, if_neg (fun z => hb z.1)]
theorem mUp_ok {P : Pa} {B : Nat} {s : Sd} {op S i m : Nat} {e : Nat → Nat → Option Nat} (hP : okP P) (hB : 10 ≤ B) (hs : okS P.1 B s) (hS : S < 64) (he : sndE P s op e) (hc : cmpE P s op e S i) (h : mI P s op S i m) : mI P s op S (i + 1) (mUp e S i m) := by
  obtain ⟨h1, h2⟩ := h
  unfold mUp
  constructor
  · split
    · rename_i hcond
      obtain ⟨b, hb⟩ := Option.isSome_iff_exists.mp hcond.2.1
      exact Or.inr ⟨S, i, b, he _ _ _ hb, rfl⟩
    · exact h1
  · intro T t x hx hp
    by_cases hTi : T = S ∧ t = i
    · obtain ⟨rfl, rfl⟩ := hTi
      obtain ⟨q1, q2, q3, q4, q5, q6⟩ := Rc_le hP hB hs hx
      have h6 := hP.1
      obtain ⟨b, b1, -⟩ := hc T t x hx (Or.inl (xor_lt T hS t (by omega) q3))
      split
      · exact Nat.le_refl _
      · rename_i hcond
        rcases Nat.lt_or_ge m (cnt6 T) with z | z
        · exact absurd ⟨q3, by rw [b1]; rfl, z⟩ hcond
        · exact z
    · have := h2 T t x hx (by
        rcases hp with hp | ⟨rfl, hp⟩
        · exact Or.inl hp
        · exact Or.inr ⟨rfl, by have : t ≠ i := fun z => hTi ⟨rfl, z⟩; omega⟩)
      split
      · omega
      · exact this
theorem mUp_le {e : Nat → Nat → Option Nat} {S i m : Nat} (hS : S < 64) (hm : m ≤ 6) : mUp e S i m ≤ 6 := by
  unfold mUp; split
  · exact cnt_le S hS
  · exact hm
theorem step_n {P : Pa} {B l : Nat} {s : Sd} {op S : Nat} (hP : okP P) (hB : 10 ≤ B ∧ B < 2 ^ 28) (hl : l ≤ 1) (hs : okS P.1 B s) (hop : ∀ k, op.testBit k = true → s.2.2.1.testBit k = false) (hop6 : op < 64) (hS : S < 64) (k51 : Int32 → Int32 → Int32 → Int32 → Int32 → Wd → Option (Int32 × Wd)) :
    ∀ (n i N : Nat) (e : Nat → Nat → Option Nat) (m : Nat) (w : Wd), P.1 - i < n → n ≤ N → i ≤ P.1 → (i = 0 ∨ andn S op = 0) → m ≤ 6 → MP P w → ML l s w → EAr e w → sndE P s op e → cmpE P s op e S i → mI P s op S i m →
      ∃ e' m' w', D_X6_mostOn_61 k51 N (nI l) (nI (8 * l)) (nI op) (nI m) (nI S) (nI i) w = k51 (nI l) (nI (8 * l)) (nI op) (nI m') (nI (S + 1)) w' ∧ m' ≤ 6 ∧ EAr e' w' ∧ sndE P s op e' ∧ cmpE P s op e' (S + 1) 0 ∧ mI P s op (S + 1) 0 m' ∧ Off [(28, 0)] w w' := by
  have h6 := hP.1
  intro n
  induction n with
  | zero => intro i N e m w h; omega
  | succ n ih =>
    intro i N e m w hn hN hi hi0 hm hM hml he hsn hcm hmi
    obtain ⟨N, rfl⟩ : ∃ M, N = M + 1 := ⟨N - 1, by omega⟩
    unfold D_X6_mostOn_61
    rw [hM.1]
    by_cases hin : i = P.1
    · subst hin
      rw [if_pos ((nI_leI (by omega) (by omega)).mpr (Nat.le_refl _)), ltd, n1, nI_add]
      refine ⟨e, m, w, rfl, hm, he, hsn, fun T t x hx hp => hcm T t x hx ?_, ⟨hmi.1, fun T t x hx hp => hmi.2 T t x hx ?_⟩, Off.rf⟩
      · obtain ⟨q1, q2, -⟩ := Rc_le hP hB.1 hs hx
        rcases hp with hp | ⟨hp, hp2⟩
        · rcases Nat.lt_or_ge (T ^^^ 2 ^ t) S with z | z
          · exact Or.inl z
          · exact Or.inr ⟨by omega, q2⟩
        · omega
      · obtain ⟨q1, q2, -⟩ := Rc_le hP hB.1 hs hx
        rcases hp with hp | ⟨hp, hp2⟩
        · rcases Nat.lt_or_ge T S with z | z
          · exact Or.inl z
          · exact Or.inr ⟨by omega, q2⟩
        · omega
    · have hi2 : i < P.1 := by omega
      obtain ⟨i0, -⟩ := hP.2.2 i hi2
      rw [if_neg (by rw [nI_leI (by omega) (by omega)]; omega), andn_n S hS op hop6]
      by_cases hsub : andn S op = 0
      · rw [if_pos (by rw [hsub]; rfl), andn_n op hop6 S hS, hasM_n _ (andn_lt hop6) i (by omega), sb, andn_bit (by omega)]
        have fin : ∀ (e1 : Nat → Nat → Option Nat) (w1 : Wd), EAr e1 w1 → sndE P s op e1 → cmpE P s op e1 S (i + 1) → mI P s op S (i + 1) (mUp e1 S i m) → Off [(28, 0)] w w1 →
            ∃ e' m' w', D_X6_mostOn_211 k51 (fun y0 y1 y2 y3 y4 y5 wy => D_X6_mostOn_61 k51 N y0 y1 y2 y3 y4 y5 wy) (nI l) (nI (8 * l)) (nI op) (nI m) (nI S) (nI i) w1 = k51 (nI l) (nI (8 * l)) (nI op) (nI m') (nI (S + 1)) w' ∧ m' ≤ 6 ∧ EAr e' w' ∧ sndE P s op e' ∧ cmpE P s op e' (S + 1) 0 ∧ mI P s op (S + 1) 0 m' ∧ Off [(28, 0)] w w' := by
          intro e1 w1 g1 g2 g3 g4 g5
          rw [tail211 g1 (fun b hb => (Rc_le hP hB.1 hs (g2 _ _ _ hb)).1) hS (by omega) hm]
          obtain ⟨e', m', w', a1, a2, a3, a4, a5, a6, a7⟩ := ih (i + 1) N e1 (mUp e1 S i m) w1 (by omega) (by omega) (by omega) (Or.inr hsub) (mUp_le hS hm) (hM.off g5 (by decide) (by decide) (by decide) (by decide) (by decide) (by decide)) (hml.off g5 (by decide)) g1 g2 g3 g4
          exact ⟨e', m', w', a1, a2, a3, a4, a5, a6, g5.tr a7⟩
        by_cases hcase : (op.testBit i && !S.testBit i) = true
        · have hoi : op.testBit i = true := by simp at hcase; exact hcase.1
          have hSi : S.testBit i = false := by simp at hcase; exact hcase.2
          rw [if_pos hcase, if_neg (by decide +kernel)]
          -- what the inner loop gives, from a world with the first note made
          have inner : ∀ (e1 : Nat → Nat → Option Nat) (w1 : Wd), EAr e1 w1 → sndE P s op e1 → cmpE P s op e1 S i → (S = 0 → ∀ x, Rc P s op (2 ^ i) i x → ∃ b, e1 (2 ^ i) i = some b ∧ b ≤ x) → Off [(28, 0)] w w1 →
              ∃ e' m' w', D_X6_mostOn_132 k51 (fun y0 y1 y2 y3 y4 y5 wy => D_X6_mostOn_61 k51 N y0 y1 y2 y3 y4 y5 wy) fuelZ (nI l) (nI (8 * l)) (nI op) (nI m) (nI S) (nI i) (nI 0) w1 = k51 (nI l) (nI (8 * l)) (nI op) (nI m') (nI (S + 1)) w' ∧ m' ≤ 6 ∧ EAr e' w' ∧ sndE P s op e' ∧ cmpE P s op e' (S + 1) 0 ∧ mI P s op (S + 1) 0 m' ∧ Off [(28, 0)] w w' := by
            intro e1 w1 g1 g2 g3 g0 g5
            obtain ⟨e2, w2, b1, b2, b3, b4, b5, b6⟩ := inner_n (m := m) hP hB hl hs hop hS hi2 hoi hSi k51 (fun y0 y1 y2 y3 y4 y5 wy => D_X6_mostOn_61 k51 N y0 y1 y2 y3 y4 y5 wy) 7 0 fuelZ e1 w1 (by omega) (by decide) (by omega) (hM.off g5 (by decide) (by decide) (by decide) (by decide) (by decide) (by decide)) (hml.off g5 (by decide)) g1 g2 g3 (fun r c s' _ _ _ z => by omega)
            rw [b1]
            have hcm2 : cmpE P s op e2 S i := g3.mono b4
            refine fin e2 w2 b2 b3 (fun T t x hx hp => ?_) (mUp_ok hP hB.1 hs hS b3 hcm2 hmi) (g5.tr b6)
            by_cases hnew : T ^^^ 2 ^ t = S ∧ t = i
            · obtain ⟨hT, rfl⟩ := hnew
              obtain ⟨q1, q2, q3, q4, q5, q6⟩ := Rc_le hP hB.1 hs hx
              have hTS : T = S ||| 2 ^ t := by rw [← hT, or_xor T q6 t (by omega) q3]
              obtain ⟨r, s', r1, r2, r3, r4⟩ := id hx
              rcases snoc_cases r with rfl | ⟨r', c, rfl⟩
              · have hT2 : T = 2 ^ t := by rw [← r3]; simp [setR]
                have hS0 : S = 0 := by rw [← hT, hT2, Nat.xor_self]
                obtain ⟨b, k1, k2⟩ := g0 hS0 x (by rw [← hT2]; exact hx)
                obtain ⟨b', k3, k4⟩ := b4 _ _ _ k1
                exact ⟨b', by rw [hT2]; exact k3, by omega⟩
              · have hset : setR (r' ++ [c]) = S := by
                  rw [setR_app (r' ++ [c]) [t]] at r3
                  have hnt : (setR (r' ++ [c])).testBit t = false := by
                    obtain ⟨u, u1, u2⟩ := run_snoc r1
                    obtain ⟨v1, v2, -⟩ := wedS_some u2
                    obtain ⟨k1, k2, k3, -⟩ := run_inv hP hB.1 _ s u hs u1
                    rw [k3, Nat.testBit_or] at v2
                    simp at v2
                    exact v2.2
                  have hlt : setR (r' ++ [c]) < 64 := by
                    obtain ⟨u, u1, u2⟩ := run_snoc r1
                    obtain ⟨k1, k2, k3, k4, -⟩ := run_inv hP hB.1 _ s u hs u1
                    exact pow_le64 h6 (setR_lt _ k4)
                  have := xor_or _ hlt t (by omega) hnt
                  rw [← this, ← hT, ← r3]
                  simp [setR]
                have hclt : c < P.1 := by
                  obtain ⟨u, u1, u2⟩ := run_snoc r1
                  obtain ⟨k1, k2, k3, k4, -⟩ := run_inv hP hB.1 _ s u hs u1
                  exact k4 c (by simp)
                obtain ⟨b, k1, k2⟩ := b5 r' c s' r1 r2 hset hclt
                exact ⟨b, by rw [hTS]; exact k1, by omega⟩
            · exact hcm2 T t x hx (by
                rcases hp with hp | ⟨hp, hp2⟩
                · exact Or.inl hp
                · exact Or.inr ⟨hp, by have : t ≠ i := fun z => hnew ⟨hp, z⟩; omega⟩)
          by_cases hS0 : S = 0
          · subst hS0
            rw [if_pos (show nI 0 = 0 from rfl)]
            have hs1 := hs.1
            have ib1 : inB (nI (8 * l + 1)) 16 := (inB_n (by omega)).mpr (by omega)
            have ib2 : inB (nI (8 * l)) 16 := (inB_n (by omega)).mpr (by omega)
            rw [n1, nI_add]
            simp only [if_pos ib1, if_pos ib2, nI_clamp (show 8 * l + 1 < 2 ^ 31 by omega), nI_clamp (show 8 * l < 2 ^ 31 by omega), hml.1, hml.2.1]
            rw [n0, beginsM_n hP hM hl hml hs hi2 hs.2.1 (by omega), sb, Nat.add_zero]
            obtain ⟨w1, c1, c2, c3⟩ := note_n (S := 0) (bo := begW P i s.1 (wayN s.2.2.2 s.2.1 (P.2.2 i 0))) hP hM he (by omega) hi2 (fun b hb => (begW_le hP hi2 hb).1) (fun b hb => (Rc_le hP hB.1 hs (hsn _ _ _ hb)).1)
            rw [c1, sb]
            have hz : (0 ||| 2 ^ i) = 2 ^ i := by simp
            refine inner _ w1 c2 (noteE_snd hsn (fun b hb => ?_)) (hcm.mono noteE_le) (fun _ x hx => ?_) c3
            · have hw : wedS P s i = some (freeW P i b, P.2.2 i 0, s.2.2.1 ||| 2 ^ i, s.2.2.2) := wedS_of hi2 (by rw [hop i hoi]; simp) hb
              refine ⟨[], _, snoc_run rfl hw, ?_, by simp [setR], rfl⟩
              intro x hx
              have hx2 : x = i := by simpa using hx
              rw [hx2]; exact hoi
            · obtain ⟨r, s', r1, r2, r3, r4⟩ := hx
              have hr : r = [] := by
                rcases snoc_cases r with rfl | ⟨r', c, rfl⟩
                · rfl
                · exfalso
                  obtain ⟨u, u1, u2⟩ := run_snoc r1
                  obtain ⟨v1, v2, -⟩ := wedS_some u2
                  obtain ⟨k1, k2, k3, -⟩ := run_inv hP hB.1 _ s u hs u1
                  have hci : i = c := by
                    have : (setR (r' ++ [c] ++ [i])).testBit c = true := by rw [setR_bit]; simp
                    rw [r3, Nat.testBit_two_pow] at this
                    simpa using this
                  rw [k3, Nat.testBit_or, setR_bit] at v2
                  exact v2 (by subst hci; simp)
              subst hr
              obtain ⟨u, u1, u2⟩ := run_snoc r1
              cases u1
              obtain ⟨v1, v2, b, v3, v4⟩ := wedS_some u2
              rw [v3]
              obtain ⟨z, z1, z2⟩ := noteE_at (P := P) (e := e) (S := 0) (i := i) (b := b)
              rw [hz] at z1
              refine ⟨z, z1, ?_⟩
              rw [← r4, v4]; exact z2
          · rw [if_neg (by rw [n0, nI_eq (by omega) (by omega)]; exact hS0)]
            exact inner e w he hsn hcm (fun z => absurd z hS0) Off.rf
        · rw [if_neg hcase, if_pos (by decide +kernel)]
          refine fin e w he hsn (fun T t x hx hp => hcm T t x hx ?_) (mUp_ok hP hB.1 hs hS hsn hcm hmi) Off.rf
          rcases hp with hp | ⟨hp, hp2⟩
          · exact Or.inl hp
          · refine Or.inr ⟨hp, ?_⟩
            have : t ≠ i := fun z => by
              subst z
              obtain ⟨q1, q2, q3, q4, q5, q6⟩ := Rc_le hP hB.1 hs hx
              apply hcase
              rw [q4, ← hp, Nat.testBit_xor, q3, Nat.testBit_two_pow]; simp
            omega
      · have hi00 : i = 0 := hi0.resolve_right hsub
        subst hi00
        rw [if_neg (by rw [n0, nI_eq (by have := andn_lt (b := op) hS; omega) (by omega)]; exact hsub), ltd, n1, nI_add]
        have hno : ∀ T t x, Rc P s op T t x → (∀ k, S.testBit k = true → T.testBit k = true) → False := fun T t x hx hk => by
          apply hsub
          rw [andn_0 hS]
          exact fun k _ hb => Rc_op hx (hk k hb)
        refine ⟨e, m, w, rfl, hm, he, hsn, fun T t x hx hp => ?_, ⟨hmi.1, fun T t x hx hp => ?_⟩, Off.rf⟩
        · rcases hp with hp | ⟨hp, hp2⟩
          · rcases Nat.lt_or_ge (T ^^^ 2 ^ t) S with z | z
            · exact hcm T t x hx (Or.inl z)
            · exfalso
              have hTS : T ^^^ 2 ^ t = S := by omega
              refine hno T t x hx (fun k hb => ?_)
              rw [← hTS, Nat.testBit_xor, Nat.testBit_two_pow] at hb
              obtain ⟨q1, q2, q3, q4, q5, q6⟩ := Rc_le hP hB.1 hs hx
              by_cases hkt : t = k
              · subst hkt; exact q3
              · simpa [hkt] using hb
          · omega
        · rcases hp with hp | ⟨hp, hp2⟩
          · rcases Nat.lt_or_ge T S with z | z
            · exact hmi.2 T t x hx (Or.inl z)
            · exfalso
              have : T = S := by omega
              subst this
              exact hno T t x hx (fun k hb => hb)
          · omega
