/-! mostOn answers the most -/
theorem outer_n {P : Pa} {B l : Nat} {s : Sd} {op : Nat} (hP : okP P) (hB : 10 ≤ B ∧ B < 2 ^ 28) (hl : l ≤ 1) (hs : okS P.1 B s) (hop : ∀ k, op.testBit k = true → s.2.2.1.testBit k = false) (hop6 : op < 64) :
    ∀ (n S N : Nat) (e : Nat → Nat → Option Nat) (m : Nat) (w : Wd), op + 1 - S < n → n ≤ N → S ≤ op + 1 → m ≤ 6 → MP P w → ML l s w → EAr e w → sndE P s op e → cmpE P s op e S 0 → mI P s op S 0 m →
      ∃ e' m' w', D_X6_mostOn_51 N (nI l) (nI (8 * l)) (nI op) (nI m) (nI S) w = some (nI m', w') ∧ m' ≤ 6 ∧ EAr e' w' ∧ sndE P s op e' ∧ cmpE P s op e' (op + 1) 0 ∧ mI P s op (op + 1) 0 m' ∧ Off [(28, 0)] w w' := by
  intro n
  induction n with
  | zero => intro S N e m w h; omega
  | succ n ih =>
    intro S N e m w hn hN hS hm hM hml he hsn hcm hmi
    obtain ⟨N, rfl⟩ : ∃ M, N = M + 1 := ⟨N - 1, by omega⟩
    unfold D_X6_mostOn_51
    by_cases hSo : S = op + 1
    · subst hSo
      rw [if_pos ((nI_ltI (by omega) (by omega)).mpr (by omega))]
      exact ⟨e, m, w, rfl, hm, he, hsn, hcm, hmi, Off.rf⟩
    · rw [if_neg (by rw [nI_ltI (by omega) (by omega)]; omega)]
      obtain ⟨e1, m1, w1, a1, a2, a3, a4, a5, a6, a7⟩ := step_n hP hB hl hs hop hop6 (show S < 64 by omega) (fun y0 y1 y2 y3 y4 wy => D_X6_mostOn_51 N y0 y1 y2 y3 y4 wy) 7 0 fuelZ e m w (by have := hP.1; omega) (by decide) (by omega) (Or.inl rfl) hm hM hml he hsn hcm hmi
      rw [n0, a1]
      obtain ⟨e2, m2, w2, b1, b2, b3, b4, b5, b6, b7⟩ := ih (S + 1) N e1 m1 w1 (by omega) (by omega) (by omega) a2 (hM.off a7 (by decide) (by decide) (by decide) (by decide) (by decide) (by decide)) (hml.off a7 (by decide)) a3 a4 a5 a6
      exact ⟨e2, m2, w2, b1, b2, b3, b4, b5, b6, a7.tr b7⟩
theorem fill_n {x1 x3 x4 x5 : Int32} : ∀ (n j N : Nat) (w : Wd), 384 - j < n → n ≤ N → j ≤ 384 → (∀ q, q < j → w.1 28 0 q = -9) → ∃ w', D_X6_mostOn_25 N x1 x3 x4 x5 (nI j) w = D_X6_mostOn_51 fuelZ x1 x3 x4 x5 0 w' ∧ (∀ q, q < 384 → w'.1 28 0 q = -9) ∧ Off [(28, 0)] w w' := by
  intro n
  induction n with
  | zero => intro j N w h; omega
  | succ n ih =>
    intro j N w h hN hj hg
    obtain ⟨N, rfl⟩ : ∃ M, N = M + 1 := ⟨N - 1, by omega⟩
    unfold D_X6_mostOn_25
    rw [show (384 : Int32) = nI 384 from rfl]
    by_cases h384 : j = 384
    · subst h384
      rw [if_pos ((nI_leI (by decide) (by decide)).mpr (Nat.le_refl _))]
      exact ⟨w, rfl, hg, Off.rf⟩
    · rw [if_neg (by rw [nI_leI (by omega) (by omega)]; omega), if_pos ((inB_n (by omega)).mpr (by omega)), ltd, ltd, nI_clamp (by omega), n1, nI_add]
      obtain ⟨w', h1, h2, h3⟩ := ih (j + 1) N (wS w 28 0 j (-9)) (by omega) (by omega) (by omega) (fun q hq => by
        by_cases hqj : q = j
        · subst hqj; rw [wS_at]
        · rw [wS_ne hqj]; exact hg q (by omega))
      exact ⟨w', h1, h2, Off.wS.tr h3⟩
theorem opR_andn {P : Pa} {B : Nat} (hP : okP P) (hB : 10 ≤ B) {s s' : Sd} (hs : okS P.1 B s) {r : List Nat} (h : runS P s r = some s') (so : Nat) : opR (andn so s.2.2.1) r ↔ opR so r := by
  obtain ⟨k1, k2, k3, k4, k5, k6⟩ := run_inv hP hB r s s' hs h
  have h6 := hP.1
  constructor
  · intro g i hi
    have := g i hi
    rw [andn_bit (by have := k4 i hi; omega), Bool.and_eq_true] at this
    exact this.1
  · intro g i hi
    rw [andn_bit (by have := k4 i hi; omega), g i hi, k5 i hi]; rfl
theorem isMost_andn {P : Pa} {B : Nat} (hP : okP P) (hB : 10 ≤ B) {s : Sd} (hs : okS P.1 B s) {so m : Nat} (h : isMost P s (andn so s.2.2.1) m) : isMost P s so m := by
  obtain ⟨⟨r, s', h1, h2, h3⟩, h4⟩ := h
  exact ⟨⟨r, s', h1, (opR_andn hP hB hs h1 so).mp h2, h3⟩, fun r s' g1 g2 => h4 r s' g1 ((opR_andn hP hB hs g1 so).mpr g2)⟩
/-- the array behind mostOn: the earliest hour behind each set, by the last one -/
def bstE (P : Pa) (s : Sd) (op : Nat) (e : Nat → Nat → Option Nat) : Prop := sndE P s op e ∧ ∀ T t h, Rc P s op T t h → ∃ b, e T t = some b ∧ b ≤ h
theorem mostOn_n {P : Pa} {B l : Nat} {s : Sd} {so : Nat} {w : Wd} (hP : okP P) (hB : 10 ≤ B ∧ B < 2 ^ 28) (hl : l ≤ 1) (hM : MP P w) (hm : ML l s w) (hs : okS P.1 B s) (hso : so < 64) :
    ∃ e w', D_X6_mostOn w (nI l) (nI so) = some (nI (mostR P s so), w') ∧ EAr e w' ∧ bstE P s (andn so s.2.2.1) e ∧ Off [(28, 0)] w w' := by
  have h6 := hP.1
  have hw64 := pow_le64 h6 hs.2.2.1
  have hop6 := andn_lt (b := s.2.2.1) hso
  have hop : ∀ k, (andn so s.2.2.1).testBit k = true → s.2.2.1.testBit k = false := fun k hk => by
    by_cases hk6 : k < 6
    · rw [andn_bit hk6] at hk
      cases hb : s.2.2.1.testBit k with
      | false => rfl
      | true => rw [hb] at hk; simp at hk
    · exact Nat.testBit_lt_two_pow (Nat.lt_of_lt_of_le hw64 (show 2 ^ 6 ≤ 2 ^ k from Nat.pow_le_pow_right (by decide) (by omega)))
  unfold D_X6_mostOn
  rw [ltd, n8, n2, pk_mul, nI_add, if_pos ((inB_n (by omega)).mpr (by omega)), ltd, nI_clamp (by omega), hm.2.2.1, andn_n so hso _ hw64, n0]
  obtain ⟨w1, a1, a2, a3⟩ := fill_n (x1 := nI l) (x3 := nI (8 * l)) (x4 := nI (andn so s.2.2.1)) (x5 := nI 0) 385 0 fuelZ w (by omega) (by decide) (by omega) (fun q hq => by omega)
  rw [a1]
  obtain ⟨e, m, w2, b1, b2, b3, b4, b5, b6, b7⟩ := outer_n hP hB hl hs hop hop6 66 0 fuelZ (fun _ _ => none) 0 w1 (by omega) (by decide) (by omega) (by omega) (hM.off a3 (by decide) (by decide) (by decide) (by decide) (by decide) (by decide)) (hm.off a3 (by decide)) (fun T hT t ht => a2 _ (by omega)) (fun T t b h => by cases h) (fun T t h hx hp => by omega) ⟨Or.inl rfl, fun T t h hx hp => by omega⟩
  have all : ∀ T t h, Rc P s (andn so s.2.2.1) T t h → T < andn so s.2.2.1 + 1 ∧ T ^^^ 2 ^ t < andn so s.2.2.1 + 1 := by
    intro T t h hx
    obtain ⟨q1, q2, q3, q4, q5, q6⟩ := Rc_le hP hB.1 hs hx
    have hle : T ≤ andn so s.2.2.1 := by
      have : T &&& andn so s.2.2.1 = T := by
        apply Nat.eq_of_testBit_eq
        intro k
        rw [Nat.testBit_and]
        cases hb : T.testBit k with
        | false => rfl
        | true => rw [Rc_op hx hb]; rfl
      rw [← this]; exact Nat.and_le_right
    have := xor_lt T q6 t (by omega) q3
    omega
  have hbst : ∀ T t h, Rc P s (andn so s.2.2.1) T t h → ∃ b, e T t = some b ∧ b ≤ h := fun T t h hx => b5 T t h hx (Or.inl (all T t h hx).2)
  have hmost : isMost P s (andn so s.2.2.1) m := by
    constructor
    · rcases b6.1 with h0 | ⟨T, t, h, hx, hc⟩
      · exact ⟨[], s, rfl, (fun i hi => nomatch hi), h0.symm⟩
      · obtain ⟨r, s', r1, r2, r3, r4⟩ := hx
        exact ⟨_, s', r1, r2, by rw [← run_cnt hP hB.1 hs r1, r3]; exact hc⟩
    · intro r s' r1 r2
      rcases snoc_cases r with rfl | ⟨r', c, rfl⟩
      · exact Nat.zero_le _
      · have hx : Rc P s (andn so s.2.2.1) (setR (r' ++ [c])) c s'.1 := ⟨r', s', r1, r2, rfl, rfl⟩
        rw [← run_cnt hP hB.1 hs r1]
        exact b6.2 _ _ _ hx (Or.inl (all _ _ _ hx).1)
  have hmm : m = mostR P s so := isMost_uniq (isMost_andn hP hB.1 hs hmost) (mostR_is hP hB.1 hs so)
  rw [← hmm]
  have b1' : D_X6_mostOn_51 fuelZ (nI l) (nI (8 * l)) (nI (andn so s.2.2.1)) (nI 0) 0 w1 = some (nI m, w2) := b1
  exact ⟨e, w2, b1', b3, ⟨b4, hbst⟩, a3.tr b7⟩
