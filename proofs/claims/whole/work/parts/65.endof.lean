/-! the end of the best rows -/
def okAc (e : Nat → Nat → Option Nat) (M idx : Nat) (o : Option Nat) : Prop := (∀ T t b, t < 6 → T < 64 → 6 * T + t < idx → cnt6 T = M → e T t = some b → ∃ v, o = some v ∧ v ≤ b) ∧ ∀ v, o = some v → ∃ T t, T < 64 ∧ t < 6 ∧ e T t = some v ∧ cnt6 T = M
theorem okAc_skip {e : Nat → Nat → Option Nat} {M idx : Nat} {o : Option Nat} (h : okAc e M idx o) (hs : ∀ b, e (idx / 6) (idx % 6) = some b → cnt6 (idx / 6) ≠ M) : okAc e M (idx + 1) o := by
  refine ⟨fun T t b h1 h2 h3 h4 h5 => ?_, h.2⟩
  by_cases hi : 6 * T + t = idx
  · have e1 : idx / 6 = T := by omega
    have e2 : idx % 6 = t := by omega
    rw [e1, e2] at hs
    exact absurd h4 (hs b h5)
  · exact h.1 T t b h1 h2 (by omega) h4 h5
theorem okAc_put {e : Nat → Nat → Option Nat} {M idx b : Nat} {o : Option Nat} (hi : idx < 384) (h : okAc e M idx o) (hb : e (idx / 6) (idx % 6) = some b) (hc : cnt6 (idx / 6) = M) (hle : ∀ v, o = some v → b ≤ v) : okAc e M (idx + 1) (some b) := by
  refine ⟨fun T t b' h1 h2 h3 h4 h5 => ?_, fun v hv => ?_⟩
  · by_cases hi2 : 6 * T + t = idx
    · have e1 : idx / 6 = T := by omega
      have e2 : idx % 6 = t := by omega
      rw [e1, e2] at hb
      rw [hb] at h5
      cases h5
      exact ⟨b, rfl, Nat.le_refl _⟩
    · obtain ⟨v, g1, g2⟩ := h.1 T t b' h1 h2 (by omega) h4 h5
      exact ⟨b, rfl, Nat.le_trans (hle v g1) g2⟩
  · cases hv
    exact ⟨idx / 6, idx % 6, by omega, by omega, hb, hc⟩
theorem okAc_keep {e : Nat → Nat → Option Nat} {M idx b v : Nat} (h : okAc e M idx (some v)) (hb : e (idx / 6) (idx % 6) = some b) (hle : v ≤ b) : okAc e M (idx + 1) (some v) := by
  refine ⟨fun T t b' h1 h2 h3 h4 h5 => ?_, h.2⟩
  by_cases hi2 : 6 * T + t = idx
  · have e1 : idx / 6 = T := by omega
    have e2 : idx % 6 = t := by omega
    rw [e1, e2] at hb
    rw [hb] at h5
    cases h5
    exact ⟨v, rfl, hle⟩
  · exact h.1 T t b' h1 h2 (by omega) h4 h5
theorem endOf_loop {e : Nat → Nat → Option Nat} {M : Nat} {w : Wd} (hM : M ≤ 6) (hE : EAr e w) (hb : ∀ T t b, T < 64 → t < 6 → e T t = some b → b < 2 ^ 30) : ∀ (n idx F : Nat) (o : Option Nat), 384 - idx = n → n < F → idx ≤ 384 → okAc e M idx o →
    ∃ o', okAc e M 384 o' ∧ D_X6_endOf_5 w F (nI M) (enc o) (nI idx) = if M = 0 then some (w.1 25 0 0) else some (enc o') := by
  intro n
  induction n with
  | zero =>
    intro idx F o hn hF hi ho
    obtain ⟨F, rfl⟩ : ∃ Q, F = Q + 1 := ⟨F - 1, by omega⟩
    have : idx = 384 := by omega
    subst this
    refine ⟨o, ho, ?_⟩
    unfold D_X6_endOf_5
    rw [if_pos (by decide)]
    by_cases h0 : M = 0
    · rw [if_pos (by rw [h0]; rfl), if_pos h0]
    · rw [if_neg (by rw [n0, nI_eq (by omega) (by decide)]; exact h0), if_neg h0]
  | succ n ih =>
    intro idx F o hn hF hi ho
    obtain ⟨F, rfl⟩ : ∃ Q, F = Q + 1 := ⟨F - 1, by omega⟩
    have i1 : inB (nI idx) 384 := (inB_n (by omega)).mpr (by omega)
    have hc : Int32.toNatClampNeg (nI idx) = idx := nI_clamp (by omega)
    have ee : w.1 28 0 idx = enc (e (idx / 6) (idx % 6)) := by
      have := hE (idx / 6) (by omega) (idx % 6) (by omega)
      rwa [show 6 * (idx / 6) + idx % 6 = idx by omega] at this
    have e6 : nI idx / (6 : Int32) = nI (idx / 6) := pk_div (d := 6) (by omega) (by decide) (by decide)
    have hcm := cnt_le (idx / 6) (by omega)
    unfold D_X6_endOf_5
    rw [if_neg (show ¬ (384 : Int32) ≤ nI idx from fun z => by have := (nI_leI (a := 384) (by decide) (by omega)).mp z; omega), if_pos i1, hc, ee]
    unfold D_X6_endOf_39
    cases hv : e (idx / 6) (idx % 6) with
    | none =>
      rw [if_pos (by rfl), if_pos rfl, ltd, n1, nI_add]
      exact ih (idx + 1) F o (by omega) (by omega) (by omega) (okAc_skip ho (fun b z => by rw [hv] at z; cases z))
    | some b =>
      have hbb := hb _ _ _ (by omega) (by omega) hv
      have hn9 : ¬ enc (some b) = (-9) := nI_ne9 (by omega)
      rw [if_neg hn9, e6, onesM_n _ (by omega), sb]
      by_cases hcn : cnt6 (idx / 6) = M
      · rw [if_pos (by rw [hcn]), if_neg (by decide)]
        cases o with
        | none =>
          rw [if_pos (by rfl), if_pos i1, hc, ee, hv, ltd, ltd, n1, nI_add]
          exact ih (idx + 1) F (some b) (by omega) (by omega) (by omega) (okAc_put (by omega) ho hv hcn (fun v z => by cases z))
        | some v =>
          obtain ⟨T, t, g1, g2, g3, g4⟩ := ho.2 v rfl
          have hvb := hb _ _ _ g1 g2 g3
          have hv9 : ¬ enc (some v) = (-9) := nI_ne9 (by omega)
          rw [if_neg hv9]
          simp only [if_pos i1, hc, ee, hv]
          by_cases hle : v ≤ b
          · have hp : enc (some v) ≤ enc (some b) := (nI_leI (a := v) (b := b) (by omega) (by omega)).mpr hle
            rw [if_pos hp, ltd, n1, nI_add]
            exact ih (idx + 1) F (some v) (by omega) (by omega) (by omega) (okAc_keep ho hv hle)
          · have hp : ¬ enc (some v) ≤ enc (some b) := fun z => hle ((nI_leI (a := v) (b := b) (by omega) (by omega)).mp z)
            rw [if_neg hp, ltd, ltd, n1, nI_add]
            exact ih (idx + 1) F (some b) (by omega) (by omega) (by omega) (okAc_put (by omega) ho hv hcn (fun u z => by cases z; omega))
      · rw [if_neg (by rw [nI_eq (by omega) (by omega)]; exact hcn), if_pos rfl, ltd, n1, nI_add]
        exact ih (idx + 1) F o (by omega) (by omega) (by omega) (okAc_skip ho (fun b' _ => hcn))
