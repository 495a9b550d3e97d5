/-! rows: the class's nodes of one depth, as a list of sets -/
def leafS (lim : Nat) (L : List ND) : List Nat := L.filterMap (fun a => if a.1 = lim then some a.2.2.1 else none)
def acF (R : Nat × Nat × Nat) (a : Nat) : Nat × Nat × Nat := (R.1 + 1, R.2.1 &&& a, R.2.2 ||| a)
theorem fold_leaf (lim : Nat) : ∀ (L : List ND) (R : RS), ((fN lim R L).2.2.2.1, (fN lim R L).2.2.2.2.1, (fN lim R L).2.2.2.2.2.1) = (leafS lim L).foldl acF (R.2.2.2.1, R.2.2.2.2.1, R.2.2.2.2.2.1)
  | [], R => rfl
  | a :: L, R => by
    have e : fN lim R (a :: L) = fN lim (recF lim R a) L := rfl
    rw [e, fold_leaf lim L (recF lim R a)]
    by_cases h : a.1 = lim
    · have e2 : leafS lim (a :: L) = a.2.2.1 :: leafS lim L := by
        unfold leafS
        rw [List.filterMap_cons_some (b := a.2.2.1) (by rw [if_pos h])]
      have e3 : ((recF lim R a).2.2.2.1, (recF lim R a).2.2.2.2.1, (recF lim R a).2.2.2.2.2.1) = acF (R.2.2.2.1, R.2.2.2.2.1, R.2.2.2.2.2.1) a.2.2.1 := by
        unfold recF acF
        simp only [if_pos h]
      rw [e2, List.foldl_cons, e3]
    · have e2 : leafS lim (a :: L) = leafS lim L := by
        unfold leafS
        rw [List.filterMap_cons_none (by rw [if_neg h])]
      have e3 : ((recF lim R a).2.2.2.1, (recF lim R a).2.2.2.2.1, (recF lim R a).2.2.2.2.2.1) = (R.2.2.2.1, R.2.2.2.2.1, R.2.2.2.2.2.1) := by
        unfold recF
        simp only [if_neg h]
      rw [e2, e3]
def lfN (P : Pa) (s : Sd) : Nat := mskN P.1 s.2.2.1
def bitsL (n m : Nat) : List Nat := (List.range' 0 n).filter (fun i => m.testBit i)
def rwN : Nat → Nat → Nat
  | _, 0 => 1
  | m, k + 1 => m * rwN (m - 1) k
def bitN (P : Pa) (s : Sd) (a : Nat) : Nat := (bitsL P.1 (lfN P s)).getD a 0
theorem bits_len : ∀ n, n ≤ 6 → ∀ wd, wd < 64 → (bitsL n (mskN n wd)).length = cnt6 (mskN n wd) := by decide +kernel
theorem cnt_less : ∀ n, n ≤ 6 → ∀ wd, wd < 64 → ∀ i, i < n → wd.testBit i = false → cnt6 (mskN n (wd ||| 2 ^ i)) = cnt6 (mskN n wd) - 1 := by decide +kernel
def rbF (P : Pa) (al : Nat → Nat → Bool) : Nat → Nat → Sd → Nat → Nat → Option Nat
  | 0, _, _, q, _ => some q
  | k + 1, d, s, q, x => match wedS P s (bitN P s (x / rwN (cnt6 (lfN P s) - 1) k)) with
    | none => none
    | some s' => if al (d + 1) s'.2.1 = true then rbF P al k (d + 1) s' (q ||| 2 ^ bitN P s (x / rwN (cnt6 (lfN P s) - 1) k)) (x % rwN (cnt6 (lfN P s) - 1) k) else none
theorem range_getD (L : List Nat) : L = (List.range L.length).map (fun a => L.getD a 0) := by
  apply List.ext_getElem
  · simp
  · intro i h1 h2
    simp [List.getD_eq_getElem?_getD, List.getElem?_eq_getElem h1]
theorem fm_congr {f g : Nat → Option Nat} : ∀ (L : List Nat), (∀ x ∈ L, f x = g x) → L.filterMap f = L.filterMap g
  | [], _ => rfl
  | x :: L, h => by
    have ih := fm_congr L (fun y hy => h y (List.mem_cons_of_mem _ hy))
    rw [List.filterMap_cons, List.filterMap_cons, h x List.mem_cons_self, ih]
theorem fm_block {U : Nat} {g : Nat → Option Nat} {h : Nat → Nat → Option Nat} (hg : ∀ a r, r < U → g (a * U + r) = h a r) : ∀ m, (List.range (m * U)).filterMap g = (List.range m).flatMap (fun a => (List.range U).filterMap (h a))
  | 0 => by simp
  | m + 1 => by
    rw [Nat.succ_mul, List.range_add, List.filterMap_append, fm_block hg m, List.range_succ, List.flatMap_append, List.filterMap_map]
    congr 1
    rw [List.flatMap_cons, List.flatMap_nil, List.append_nil]
    apply fm_congr
    intro r hr
    exact hg m r (List.mem_range.mp hr)
theorem flat_filter {β : Type} {p : Nat → Bool} {F : Nat → List β} : ∀ (L : List Nat), (∀ x ∈ L, p x = false → F x = []) → L.flatMap F = (L.filter p).flatMap F
  | [], _ => rfl
  | x :: L, h => by
    have ih := flat_filter (p := p) (F := F) L (fun y hy => h y (List.mem_cons_of_mem _ hy))
    rw [List.flatMap_cons]
    cases hp : p x with
    | true => rw [List.filter_cons_of_pos hp, List.flatMap_cons, ih]
    | false => rw [List.filter_cons_of_neg (by rw [hp]; decide), h x List.mem_cons_self hp, ih]; rfl
theorem leaf_flat {lim : Nat} {F : Nat → List ND} : ∀ (L : List Nat), leafS lim (L.flatMap F) = L.flatMap (fun i => leafS lim (F i))
  | [] => rfl
  | x :: L => by
    have ih := leaf_flat (lim := lim) (F := F) L
    rw [List.flatMap_cons, List.flatMap_cons, ← ih]
    unfold leafS
    rw [List.filterMap_append]
theorem msk_iff {P : Pa} {s : Sd} {B i : Nat} (h6 : P.1 ≤ 6) (hs : okS P.1 B s) (hi : i < P.1) : (lfN P s).testBit i = true ↔ ¬ s.2.2.1.testBit i = true := by
  have := (msk_b P.1 h6 s.2.2.1 (pow_le64 h6 hs.2.2.1)).2 i (by omega)
  unfold lfN
  rw [this]
  exact ⟨fun z => z.2, fun z => ⟨hi, z⟩⟩
/-- the rows of one length, as the search goes through them, are those that their numbers tell -/
theorem enum_rows {P : Pa} {B lim : Nat} {al : Nat → Nat → Bool} (hP : okP P) (hB : 10 ≤ B) : ∀ (k f d : Nat) (s : Sd) (q v : Nat), okS P.1 B s → d + k = lim → k < f → leafS lim (nodesS P al lim f d s q v) = (List.range (rwN (cnt6 (lfN P s)) k)).filterMap (rbF P al k d s q)
  | 0, f, d, s, q, v, hs, hd, hf => by
    obtain ⟨f, rfl⟩ : ∃ g, f = g + 1 := ⟨f - 1, by omega⟩
    unfold nodesS leafS
    rw [if_neg (by omega), List.filterMap_cons_some (b := q) (by rw [if_pos (show d = lim by omega)])]
    rfl
  | k + 1, f, d, s, q, v, hs, hd, hf => by
    obtain ⟨f, rfl⟩ : ∃ g, f = g + 1 := ⟨f - 1, by omega⟩
    have h6 := hP.1
    have hwd := pow_le64 h6 hs.2.2.1
    unfold nodesS
    rw [if_pos (by omega)]
    have e0 : ∀ L, leafS lim ((d, s.1, q, v) :: L) = leafS lim L := fun L => by
      unfold leafS
      rw [List.filterMap_cons_none (by rw [if_neg (show ¬ d = lim by omega)])]
    rw [e0, leaf_flat, flat_filter (p := fun i => (lfN P s).testBit i)]
    · have e1 : (List.range' 0 P.1).filter (fun i => (lfN P s).testBit i) = (List.range (cnt6 (lfN P s))).map (bitN P s) := by
        have := range_getD (bitsL P.1 (lfN P s))
        rw [show (bitsL P.1 (lfN P s)).length = cnt6 (lfN P s) from bits_len P.1 h6 _ hwd] at this
        exact this
      rw [e1, List.flatMap_map, show rwN (cnt6 (lfN P s)) (k + 1) = cnt6 (lfN P s) * rwN (cnt6 (lfN P s) - 1) k from rfl]
      rw [fm_block (U := rwN (cnt6 (lfN P s) - 1) k) (h := fun a r => match wedS P s (bitN P s a) with
        | none => none
        | some s' => if al (d + 1) s'.2.1 = true then rbF P al k (d + 1) s' (q ||| 2 ^ bitN P s a) r else none)]
      · congr 1
        funext a
        cases hw : wedS P s (bitN P s a) with
        | none =>
          have z1 : (List.range (rwN (cnt6 (lfN P s) - 1) k)).filterMap (fun _ : Nat => (none : Option Nat)) = [] := by simp
          dsimp only
          rw [z1]
          split <;> rfl
        | some s' =>
          obtain ⟨g1, g2, b, g3, g4⟩ := wedS_some hw
          have hch : s'.2.1 = P.2.2 (bitN P s a) 0 := by rw [g4]
          have hwe : s'.2.2.1 = s.2.2.1 ||| 2 ^ bitN P s a := by rw [g4]
          have hcn : cnt6 (lfN P s') = cnt6 (lfN P s) - 1 := by
            unfold lfN
            rw [hwe]
            exact cnt_less P.1 h6 _ hwd _ g1 (by simpa using g2)
          dsimp only
          rw [hch]
          by_cases ha : al (d + 1) (P.2.2 (bitN P s a) 0) = true
          · simp only [if_pos ha]
            rw [enum_rows hP hB k f (d + 1) s' _ _ (wedS_ok hP hs hB hw) (by omega) (by omega), hcn]
          · simp only [if_neg ha]
            have z1 : (List.range (rwN (cnt6 (lfN P s) - 1) k)).filterMap (fun _ : Nat => (none : Option Nat)) = [] := by simp
            rw [z1]
            rfl
      · intro a r hr
        have d1 : (a * rwN (cnt6 (lfN P s) - 1) k + r) / rwN (cnt6 (lfN P s) - 1) k = a := by
          rw [Nat.mul_comm, Nat.mul_add_div (by omega), Nat.div_eq_of_lt hr, Nat.add_zero]
        have d2 : (a * rwN (cnt6 (lfN P s) - 1) k + r) % rwN (cnt6 (lfN P s) - 1) k = r := by
          rw [Nat.mul_comm, Nat.mul_add_mod, Nat.mod_eq_of_lt hr]
        rw [rbF, d1, d2]
    · intro i hi hb
      have hiP : i < P.1 := by
        obtain ⟨j, hj, rfl⟩ := List.mem_range'.mp hi
        omega
      have hwb : s.2.2.1.testBit i = true := by
        apply Classical.byContradiction
        intro hn
        rw [(msk_iff h6 hs hiP).mpr hn] at hb
        cases hb
      have hw : wedS P s i = none := by
        unfold wedS begS
        rw [if_neg (fun z => z.2 hwb)]; rfl
      rw [hw]
      split <;> rfl
