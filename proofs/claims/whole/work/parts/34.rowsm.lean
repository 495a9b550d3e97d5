/-! rows of weddings, as lists -/
def runS (P : Pa) : Sd → List Nat → Option Sd
  | s, [] => some s
  | s, i :: r => match wedS P s i with
    | some s' => runS P s' r
    | none => none
def opR (op : Nat) (r : List Nat) : Prop := ∀ i ∈ r, op.testBit i = true
def isMost (P : Pa) (s : Sd) (op m : Nat) : Prop := (∃ r s', runS P s r = some s' ∧ opR op r ∧ r.length = m) ∧ ∀ r s', runS P s r = some s' → opR op r → r.length ≤ m
def setR : List Nat → Nat
  | [] => 0
  | i :: r => 2 ^ i ||| setR r
theorem isMost_uniq {P : Pa} {s : Sd} {op m k : Nat} (h : isMost P s op m) (g : isMost P s op k) : m = k := by
  obtain ⟨⟨r, s1, h1, h2, h3⟩, h4⟩ := h
  obtain ⟨⟨r', s2, g1, g2, g3⟩, g4⟩ := g
  have := h4 r' s2 g1 g2
  have := g4 r s1 h1 h2
  omega
theorem runS_app {P : Pa} : ∀ (a : List Nat) (s : Sd) (b : List Nat), runS P s (a ++ b) = (runS P s a).bind (fun s' => runS P s' b)
  | [], s, b => rfl
  | i :: a, s, b => by
    show (match wedS P s i with | some s' => runS P s' (a ++ b) | none => none) = Option.bind (match wedS P s i with | some s' => runS P s' a | none => none) _
    cases wedS P s i with
    | none => rfl
    | some s' => exact runS_app a s' b
theorem wedS_some {P : Pa} {s s' : Sd} {i : Nat} (h : wedS P s i = some s') : i < P.1 ∧ ¬ s.2.2.1.testBit i = true ∧ ∃ b, begW P i s.1 (wayN s.2.2.2 s.2.1 (P.2.2 i 0)) = some b ∧ s' = (freeW P i b, P.2.2 i 0, s.2.2.1 ||| 2 ^ i, s.2.2.2) := by
  unfold wedS at h
  cases hb : begS P s i with
  | none => rw [hb] at h; cases h
  | some b =>
    rw [hb] at h
    cases h
    obtain ⟨h1, h2, h3⟩ := begS_some hb
    exact ⟨h1, h2, b, h3, rfl⟩
theorem wedS_of {P : Pa} {s : Sd} {i b : Nat} (h1 : i < P.1) (h2 : ¬ s.2.2.1.testBit i = true) (h3 : begW P i s.1 (wayN s.2.2.2 s.2.1 (P.2.2 i 0)) = some b) : wedS P s i = some (freeW P i b, P.2.2 i 0, s.2.2.1 ||| 2 ^ i, s.2.2.2) := by
  unfold wedS begS
  rw [if_pos ⟨h1, h2⟩, h3]; rfl
theorem cnt_step : ∀ a, a < 64 → ∀ i, i < 6 → a.testBit i = false → cnt6 (a ||| 2 ^ i) = cnt6 a + 1 := by decide +kernel
theorem cnt_le : ∀ a, a < 64 → cnt6 a ≤ 6 := by decide +kernel
theorem run_inv {P : Pa} {B : Nat} (hP : okP P) (hB : 10 ≤ B) : ∀ (r : List Nat) (s s' : Sd), okS P.1 B s → runS P s r = some s' → okS P.1 B s' ∧ s'.2.2.2 = s.2.2.2 ∧ s'.2.2.1 = s.2.2.1 ||| setR r ∧ (∀ i ∈ r, i < P.1) ∧ (∀ i ∈ r, s.2.2.1.testBit i = false) ∧ cnt6 s'.2.2.1 = cnt6 s.2.2.1 + r.length
  | [], s, s', hs, h => by
    cases h
    exact ⟨hs, rfl, by simp [setR], (fun i hi => nomatch hi), (fun i hi => nomatch hi), rfl⟩
  | i :: r, s, s', hs, h => by
    unfold runS at h
    cases hw : wedS P s i with
    | none => rw [hw] at h; cases h
    | some t =>
      rw [hw] at h
      obtain ⟨g1, g2, b, g3, g4⟩ := wedS_some hw
      have hok := wedS_ok hP hs hB hw
      obtain ⟨k1, k2, k3, k4, k5, k6⟩ := run_inv hP hB r t s' hok h
      have g2' : s.2.2.1.testBit i = false := by simpa using g2
      have ht : t.2.2.1 = s.2.2.1 ||| 2 ^ i := by rw [g4]
      have ht2 : t.2.2.2 = s.2.2.2 := by rw [g4]
      refine ⟨k1, k2.trans ht2, by rw [k3, ht, setR, Nat.or_assoc], fun j hj => ?_, fun j hj => ?_, ?_⟩
      · rcases List.mem_cons.mp hj with rfl | hj
        · exact g1
        · exact k4 j hj
      · rcases List.mem_cons.mp hj with rfl | hj
        · exact g2'
        · have := k5 j hj
          rw [ht, Nat.testBit_or] at this
          exact (Bool.or_eq_false_iff.mp this).1
      · have h6 := hP.1
        rw [k6, ht, cnt_step _ (pow_le64 h6 hs.2.2.1) i (by omega) g2', List.length_cons]
        omega
theorem run_len {P : Pa} {B : Nat} (hP : okP P) (hB : 10 ≤ B) {r : List Nat} {s s' : Sd} (hs : okS P.1 B s) (h : runS P s r = some s') : r.length ≤ 6 := by
  obtain ⟨k1, -, -, -, -, k6⟩ := run_inv hP hB r s s' hs h
  have := cnt_le _ (pow_le64 hP.1 k1.2.2.1)
  omega
theorem begW_mono {P : Pa} {i h h' wy b : Nat} (hh : h' ≤ h) (hb : begW P i h wy = some b) : ∃ b', begW P i h' wy = some b' ∧ b' ≤ b := by
  unfold begW at hb ⊢
  split at hb
  · rename_i hc
    cases hb
    rw [if_pos (by omega)]
    exact ⟨_, rfl, by omega⟩
  · cases hb
theorem wedS_mono {P : Pa} {s t s' : Sd} {i : Nat} (h1 : t.1 ≤ s.1) (h2 : t.2 = s.2) (h : wedS P s i = some s') : ∃ t', wedS P t i = some t' ∧ t'.1 ≤ s'.1 ∧ t'.2 = s'.2 := by
  obtain ⟨g1, g2, b, g3, g4⟩ := wedS_some h
  obtain ⟨b', e1, e2⟩ := begW_mono h1 g3
  refine ⟨_, wedS_of g1 (by rw [h2]; exact g2) (b := b') (by rw [h2]; exact e1), ?_, ?_⟩
  · rw [g4]; show freeW P i b' ≤ freeW P i b
    unfold freeW; omega
  · rw [g4, h2]
theorem run_mono {P : Pa} : ∀ (r : List Nat) (s t s' : Sd), t.1 ≤ s.1 → t.2 = s.2 → runS P s r = some s' → ∃ t', runS P t r = some t' ∧ t'.1 ≤ s'.1 ∧ t'.2 = s'.2
  | [], s, t, s', h1, h2, h => by cases h; exact ⟨t, rfl, h1, h2⟩
  | i :: r, s, t, s', h1, h2, h => by
    unfold runS at h
    cases hw : wedS P s i with
    | none => rw [hw] at h; cases h
    | some u =>
      rw [hw] at h
      obtain ⟨v, e1, e2, e3⟩ := wedS_mono h1 h2 hw
      obtain ⟨t', f1, f2, f3⟩ := run_mono r u v s' e2 e3 h
      refine ⟨t', ?_, f2, f3⟩
      unfold runS
      rw [e1]; exact f1
theorem max_ex {p : Nat → Prop} (h0 : ∃ m, p m) : ∀ N, (∀ m, p m → m ≤ N) → ∃ m, p m ∧ ∀ k, p k → k ≤ m
  | 0, h => by
    obtain ⟨m, hm⟩ := h0
    have := h m hm
    exact ⟨m, hm, fun k hk => by have := h k hk; omega⟩
  | N + 1, h => by
    by_cases hN : p (N + 1)
    · exact ⟨N + 1, hN, fun k hk => h k hk⟩
    · exact max_ex h0 N (fun m hm => by
        have := h m hm
        rcases Nat.lt_or_ge m (N + 1) with q | q
        · omega
        · have : m = N + 1 := by omega
          subst this; exact absurd hm hN)
theorem isMost_ex {P : Pa} {B : Nat} (hP : okP P) (hB : 10 ≤ B) {s : Sd} (hs : okS P.1 B s) (op : Nat) : ∃ m, isMost P s op m := by
  obtain ⟨m, h1, h2⟩ := max_ex (p := fun m => ∃ r s', runS P s r = some s' ∧ opR op r ∧ r.length = m) ⟨0, [], s, rfl, (fun i hi => nomatch hi), rfl⟩ 6 (fun m ⟨r, s', h1, h2, h3⟩ => h3 ▸ run_len hP hB hs h1)
  exact ⟨m, h1, fun r s' g1 g2 => h2 _ ⟨r, s', g1, g2, rfl⟩⟩
noncomputable def mostR (P : Pa) (s : Sd) (op : Nat) : Nat := Classical.epsilon (isMost P s op)
theorem mostR_is {P : Pa} {B : Nat} (hP : okP P) (hB : 10 ≤ B) {s : Sd} (hs : okS P.1 B s) (op : Nat) : isMost P s op (mostR P s op) := Classical.epsilon_spec (isMost_ex hP hB hs op)
theorem mostR_le6 {P : Pa} {B : Nat} (hP : okP P) (hB : 10 ≤ B) {s : Sd} (hs : okS P.1 B s) (op : Nat) : mostR P s op ≤ 6 := by
  obtain ⟨⟨r, s', h1, h2, h3⟩, -⟩ := mostR_is hP hB hs op
  rw [← h3]; exact run_len hP hB hs h1
/-- waiting brings nothing back -/
theorem mostR_mono {P : Pa} {B : Nat} (hP : okP P) (hB : 10 ≤ B) {s t : Sd} (hs : okS P.1 B s) (ht : okS P.1 B t) (h1 : t.1 ≤ s.1) (h2 : t.2 = s.2) (op : Nat) : mostR P s op ≤ mostR P t op := by
  obtain ⟨⟨r, s', g1, g2, g3⟩, -⟩ := mostR_is hP hB hs op
  obtain ⟨t', e1, -, -⟩ := run_mono r s t s' h1 h2 g1
  rw [← g3]
  exact (mostR_is hP hB ht op).2 r t' e1 g2
