/-! the reference's programme over sets: what its cells mean -/
def andn (a b : Nat) : Nat := a &&& (63 ^^^ b)
theorem andn_n : ∀ a, a < 64 → ∀ b, b < 64 → nI a &&& (nI b ^^^ (-1)) = nI (andn a b) := by decide +kernel
theorem andn_lt {a b : Nat} (h : a < 64) : andn a b < 64 := Nat.lt_of_le_of_lt Nat.and_le_left h
theorem b63i {i : Nat} (hi : i < 6) : (63 : Nat).testBit i = true := by
  rcases (show i = 0 ∨ i = 1 ∨ i = 2 ∨ i = 3 ∨ i = 4 ∨ i = 5 by omega) with rfl | rfl | rfl | rfl | rfl | rfl <;> decide
theorem andn_bit {a b i : Nat} (hi : i < 6) : (andn a b).testBit i = (a.testBit i && !b.testBit i) := by
  unfold andn
  rw [Nat.testBit_and, Nat.testBit_xor, b63i hi]; simp
theorem setR_bit : ∀ (r : List Nat) (i : Nat), (setR r).testBit i = decide (i ∈ r)
  | [], i => by simp [setR]
  | j :: r, i => by
    rw [setR, Nat.testBit_or, setR_bit r i, Nat.testBit_two_pow]
    simp only [List.mem_cons, Bool.decide_or]
    by_cases h : i = j
    · simp [h]
    · simp [h, Ne.symm h]
theorem setR_app (a b : List Nat) : setR (a ++ b) = setR a ||| setR b := by
  apply Nat.eq_of_testBit_eq
  intro i
  rw [Nat.testBit_or, setR_bit, setR_bit, setR_bit]
  simp
theorem cntdis : ∀ a, a < 64 → ∀ b, b < 64 → a &&& b = 0 → cnt6 (a ||| b) = cnt6 a + cnt6 b := by decide +kernel
theorem setR_lt {n : Nat} : ∀ (r : List Nat), (∀ i ∈ r, i < n) → setR r < 2 ^ n
  | [], _ => Nat.two_pow_pos _
  | i :: r, h => by
    rw [setR, Nat.or_comm]
    exact orb_lt (setR_lt r (fun j hj => h j (List.mem_cons_of_mem _ hj))) (h i List.mem_cons_self)
/-- a row that holds has as many weddings as its set -/
theorem run_cnt {P : Pa} {B : Nat} (hP : okP P) (hB : 10 ≤ B) {r : List Nat} {s s' : Sd} (hs : okS P.1 B s) (h : runS P s r = some s') : cnt6 (setR r) = r.length := by
  obtain ⟨k1, k2, k3, k4, k5, k6⟩ := run_inv hP hB r s s' hs h
  have h6 := hP.1
  have hl := pow_le64 h6 (setR_lt r k4)
  have hd : s.2.2.1 &&& setR r = 0 := by
    apply Nat.eq_of_testBit_eq
    intro i
    rw [Nat.testBit_and, setR_bit, Nat.zero_testBit]
    by_cases hi : i ∈ r
    · rw [k5 i hi]; rfl
    · simp [hi]
  have := cntdis _ (pow_le64 h6 hs.2.2.1) _ hl hd
  rw [k3] at k6
  omega
/-- some row of just these weddings, t the last one, holds, and ends so -/
def Rc (P : Pa) (s : Sd) (op T t h : Nat) : Prop := ∃ r s', runS P s (r ++ [t]) = some s' ∧ opR op (r ++ [t]) ∧ setR (r ++ [t]) = T ∧ s'.1 = h
theorem run_snoc {P : Pa} {s s' : Sd} {r : List Nat} {t : Nat} (h : runS P s (r ++ [t]) = some s') : ∃ u, runS P s r = some u ∧ wedS P u t = some s' := by
  rw [runS_app] at h
  cases hu : runS P s r with
  | none => rw [hu] at h; cases h
  | some u =>
    rw [hu] at h
    refine ⟨u, rfl, ?_⟩
    have h2 : (match wedS P u t with | some s' => some s' | none => none) = some s' := h
    cases hw : wedS P u t with
    | none => rw [hw] at h2; cases h2
    | some v => rw [hw] at h2; exact h2
theorem snoc_run {P : Pa} {s u s' : Sd} {r : List Nat} {t : Nat} (h : runS P s r = some u) (hw : wedS P u t = some s') : runS P s (r ++ [t]) = some s' := by
  rw [runS_app, h]
  show (match wedS P u t with | some s' => some s' | none => none) = some s'
  rw [hw]
theorem Rc_le {P : Pa} {B : Nat} (hP : okP P) (hB : 10 ≤ B) {s : Sd} (hs : okS P.1 B s) {op T t h : Nat} (g : Rc P s op T t h) : h ≤ 10 ∧ t < P.1 ∧ T.testBit t = true ∧ op.testBit t = true ∧ s.2.2.1.testBit t = false ∧ T < 64 := by
  obtain ⟨r, s', g1, g2, g3, g4⟩ := g
  obtain ⟨k1, k2, k3, k4, k5, k6⟩ := run_inv hP hB _ s s' hs g1
  obtain ⟨u, u1, u2⟩ := run_snoc g1
  obtain ⟨v1, v2, b, v3, v4⟩ := wedS_some u2
  have hb := begW_le hP v1 v3
  have hm : t ∈ r ++ [t] := by simp
  refine ⟨?_, v1, by rw [← g3, setR_bit]; simp, g2 t hm, k5 t hm, by rw [← g3]; exact pow_le64 hP.1 (setR_lt _ k4)⟩
  rw [← g4, v4]
  show freeW P t b ≤ 10
  unfold freeW thickW; split <;> omega
/-- the state behind a row whose last one is known -/
theorem row_state {P : Pa} {B : Nat} (hP : okP P) (hB : 10 ≤ B) {s s' : Sd} (hs : okS P.1 B s) {r : List Nat} {t : Nat} (h : runS P s (r ++ [t]) = some s') : s' = (s'.1, P.2.2 t 0, s.2.2.1 ||| setR (r ++ [t]), s.2.2.2) := by
  obtain ⟨k1, k2, k3, k4, k5, k6⟩ := run_inv hP hB _ s s' hs h
  obtain ⟨u, u1, u2⟩ := run_snoc h
  obtain ⟨v1, v2, b, v3, v4⟩ := wedS_some u2
  rw [← k2, ← k3]
  have : s'.2.1 = P.2.2 t 0 := by rw [v4]
  rw [← this]
def sndE (P : Pa) (s : Sd) (op : Nat) (e : Nat → Nat → Option Nat) : Prop := ∀ T t b, e T t = some b → Rc P s op T t b
def cmpE (P : Pa) (s : Sd) (op : Nat) (e : Nat → Nat → Option Nat) (S i : Nat) : Prop := ∀ T t h, Rc P s op T t h → (T ^^^ 2 ^ t < S ∨ (T ^^^ 2 ^ t = S ∧ t < i)) → ∃ b, e T t = some b ∧ b ≤ h
def EAr (e : Nat → Nat → Option Nat) (w : Wd) : Prop := ∀ T, T < 64 → ∀ t, t < 6 → w.1 28 0 (6 * T + t) = enc (e T t)
def updE (e : Nat → Nat → Option Nat) (T t : Nat) (o : Option Nat) : Nat → Nat → Option Nat := fun T' t' => if T' = T ∧ t' = t then o else e T' t'
def ominE (o : Option Nat) (x : Nat) : Option Nat := match o with
  | none => some x
  | some y => some (if y ≤ x then y else x)
def leE (e e' : Nat → Nat → Option Nat) : Prop := ∀ T t b, e T t = some b → ∃ b', e' T t = some b' ∧ b' ≤ b
theorem leE.rf {e : Nat → Nat → Option Nat} : leE e e := fun _ _ b h => ⟨b, h, Nat.le_refl _⟩
theorem leE.tr {a b c : Nat → Nat → Option Nat} (h1 : leE a b) (h2 : leE b c) : leE a c := fun T t x h => by
  obtain ⟨y, g1, g2⟩ := h1 T t x h
  obtain ⟨z, k1, k2⟩ := h2 T t y g1
  exact ⟨z, k1, by omega⟩
theorem cmpE.mono {P : Pa} {s : Sd} {op : Nat} {e e' : Nat → Nat → Option Nat} {S i : Nat} (h : cmpE P s op e S i) (hl : leE e e') : cmpE P s op e' S i := fun T t x hx hp => by
  obtain ⟨b, g1, g2⟩ := h T t x hx hp
  obtain ⟨b', k1, k2⟩ := hl T t b g1
  exact ⟨b', k1, by omega⟩
theorem ominE_le (o : Option Nat) (x : Nat) : ∃ b, ominE o x = some b ∧ b ≤ x ∧ (∀ y, o = some y → b ≤ y) ∧ (b = x ∨ o = some b) := by
  cases o with
  | none => exact ⟨x, rfl, Nat.le_refl _, (fun y hy => by cases hy), Or.inl rfl⟩
  | some y =>
    by_cases h : y ≤ x
    · exact ⟨y, by simp [ominE, h], h, fun z hz => by cases hz; exact Nat.le_refl _, Or.inr rfl⟩
    · exact ⟨x, by simp [ominE, h], Nat.le_refl _, fun z hz => by cases hz; omega, Or.inl rfl⟩
theorem updE_le {e : Nat → Nat → Option Nat} {T t x : Nat} : leE e (updE e T t (ominE (e T t) x)) := fun T' t' b hb => by
  unfold updE
  by_cases h : T' = T ∧ t' = t
  · rw [if_pos h]
    obtain ⟨z, z1, z2, z3, z4⟩ := ominE_le (e T t) x
    exact ⟨z, z1, z3 b (by rw [← h.1, ← h.2]; exact hb)⟩
  · rw [if_neg h]; exact ⟨b, hb, Nat.le_refl _⟩
def noteE (P : Pa) (e : Nat → Nat → Option Nat) (S i : Nat) : Option Nat → Nat → Nat → Option Nat
  | none => e
  | some b => updE e (S ||| 2 ^ i) i (ominE (e (S ||| 2 ^ i) i) (freeW P i b))
/-- a note of an earlier hour -/
theorem note_n {P : Pa} {w : Wd} {e : Nat → Nat → Option Nat} {S i : Nat} {bo : Option Nat} (hP : okP P) (h : MP P w) (he : EAr e w) (hS : S < 64) (hi : i < P.1) (hb : ∀ b, bo = some b → b ≤ 9) (hev : ∀ b, e (S ||| 2 ^ i) i = some b → b ≤ 10) :
    ∃ w', D_X6_noteEarlier w (nI S) (nI i) (enc bo) = some w' ∧ EAr (noteE P e S i bo) w' ∧ Off [(28, 0)] w w' := by
  have h6 := hP.1
  cases bo with
  | none =>
    unfold D_X6_noteEarlier
    rw [show enc none = (-9) from rfl, if_pos rfl]
    exact ⟨w, rfl, he, Off.rf⟩
  | some b =>
    have hb9 := hb b rfl
    have hll := lastsP_le hP hi
    have hT : S ||| 2 ^ i < 64 := by
      have := orb_lt (n := 6) hS (show i < 6 by omega); exact this
    have hfr : freeW P i b ≤ 20 := by unfold freeW thickW; split <;> omega
    have hin : inB (nI (6 * (S ||| 2 ^ i) + i)) 384 := (inB_n (by omega)).mpr (by omega)
    have key : ∀ x, EAr (updE e (S ||| 2 ^ i) i (some x)) (wS w 28 0 (6 * (S ||| 2 ^ i) + i) (nI x)) := by
      intro x T hT2 t ht
      unfold updE
      by_cases hc : T = S ||| 2 ^ i ∧ t = i
      · rw [if_pos hc, hc.1, hc.2, wS_at]; rfl
      · rw [if_neg hc, wS_ne (by omega)]; exact he T hT2 t ht
    have hcell := he _ hT i (by omega)
    unfold D_X6_noteEarlier
    rw [show enc (some b) = nI b from rfl, if_neg (nI_ne9 (by omega)), ltd, orb_n _ hS i (by omega), n6, pk_mul, nI_add, behindM_n hP h hi, sb]
    simp only [if_pos hin, nI_clamp (show 6 * (S ||| 2 ^ i) + i < 2 ^ 31 by omega), hcell, ltd]
    cases heq : e (S ||| 2 ^ i) i with
    | none =>
      rw [show enc none = (-9) from rfl, if_pos rfl]
      refine ⟨_, rfl, ?_, Off.wS⟩
      have hk := key (freeW P i b)
      unfold noteE
      rw [heq]; exact hk
    | some y =>
      have hy := hev y heq
      rw [show enc (some y) = nI y from rfl, if_neg (nI_ne9 (by omega))]
      by_cases hle : y ≤ freeW P i b
      · rw [if_pos ((nI_leI (by omega) (by omega)).mpr hle)]
        refine ⟨_, rfl, ?_, Off.wS⟩
        have hk := key y
        unfold noteE ominE
        rw [heq]; dsimp only; rw [if_pos hle]; exact hk
      · rw [if_neg (fun z => hle ((nI_leI (by omega) (by omega)).mp z))]
        refine ⟨_, rfl, ?_, Off.wS⟩
        have hk := key (freeW P i b)
        unfold noteE ominE
        rw [heq]; dsimp only; rw [if_neg hle]; exact hk
