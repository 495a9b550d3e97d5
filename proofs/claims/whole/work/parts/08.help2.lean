/-! more helpers of the walks by program -/
def fuelZ : Nat := 1000
theorem pI_p {x r : Int32} {w : Wd} (h : some x = some r) : PI r w (some (aI x)) w := ⟨by rw [sm h], rfl⟩
theorem pI_i {x : Int32} {w : Wd} {r : Int32 × Wd} (h : some (x, w) = some r) : PI r.1 r.2 (some (aI x)) w := by rw [← sm h]; exact ⟨rfl, rfl⟩
theorem pL_p {x r : Int64} {w : Wd} (h : some x = some r) : PL r w (some (aL x)) w := ⟨by rw [sm h], rfl⟩
theorem pL_i {x : Int64} {w : Wd} {r : Int64 × Wd} (h : some (x, w) = some r) : PL r.1 r.2 (some (aL x)) w := by rw [← sm h]; exact ⟨rfl, rfl⟩
theorem pR_p {x r : Nat} {w : Wd} (h : some x = some r) : PR r w (some (aR 3 x)) w := ⟨by rw [sm h], rfl⟩
theorem pV_i {w r : Wd} (h : some w = some r) : PV r none w := ⟨rfl, sm h⟩
theorem arrK_of {k i : Nat} (hk : intK k = true) (hi : i < cntK k) : arrK k i = true := by simp [arrK, hk, hi]
theorem putL_5 : (∀ g, g < nFl 5 → (refK 5 0 g = none ∧ lngK 5 g = true ↔ g = 12)) ∧ (TK 5 12).2.2.2 = false ∧ tyK 5 12 = .long := ⟨by decide +kernel, rfl, rfl⟩
theorem putL_6 : (∀ g, g < nFl 6 → (refK 6 0 g = none ∧ lngK 6 g = true ↔ g = 18)) ∧ (TK 6 18).2.2.2 = false ∧ tyK 6 18 = .long := ⟨by decide +kernel, rfl, rfl⟩

theorem kl_2 : Int32.ofNat 2 = 2 := by decide +kernel
theorem kl_5 : Int32.ofNat 5 = 5 := by decide +kernel
theorem kl_6 : Int32.ofNat 6 = 6 := by decide +kernel
theorem kl_7 : Int32.ofNat 7 = 7 := by decide +kernel
theorem kl_14 : Int32.ofNat 14 = 14 := by decide +kernel
theorem kl_16 : Int32.ofNat 16 = 16 := by decide +kernel
theorem kl_30 : Int32.ofNat 30 = 30 := by decide +kernel
theorem kl_48 : Int32.ofNat 48 = 48 := by decide +kernel
theorem kl_64 : Int32.ofNat 64 = 64 := by decide +kernel
theorem kl_112 : Int32.ofNat 112 = 112 := by decide +kernel
theorem kl_384 : Int32.ofNat 384 = 384 := by decide +kernel
section AWI
variable {d : Nat} {X : XS} {M : MD} {pc pc' : Nat} {ls ls' : List (Option AV)} {st : List AV} {w w' : Wd} {Q : Option AV → Wd → Prop}
theorem rdA_k {w : Wd} {k i j : Nat} (hk : intK k = true) : rdA X w k i j = w.1 k i j := by
  have := intK_lt hk
  unfold rdA; rw [if_neg (by omega), if_neg (by omega), if_neg (by omega)]
theorem aw_ialdK {k i j n : Nat} {x : Int32} (h : decode M.2.1 pc = .ok (.iaload, 1) ∧ pc + 1 = pc') (hk : intK k = true) (hi : i < cntK k) (hin : inB x n) (hj : x.toNatClampNeg = j) (K : AW d X M pc' ls (aI (w.1 k i j) :: st) w Q) (hn : lenK X k = n := by rfl) : AW d X M pc ls (aI x :: aR k i :: st) w Q :=
  aw_iald h (arrK_of hk hi) (by rw [hn]; exact hin) (by rw [hj]; exact rdA_k hk) K
theorem aw_alenK {k i : Nat} {v : Int32} (h : decode M.2.1 pc = .ok (.arraylength, 1) ∧ pc + 1 = pc') (hk : intK k = true) (hi : i < cntK k) (hv : Int32.ofNat (lenK X k) = v) (K : AW d X M pc' ls (aI v :: st) w Q) : AW d X M pc ls (aR k i :: st) w Q :=
  aw_alenI h (arrK_of hk hi) hv K
theorem aw_iastK {k i j n : Nat} {x y : Int32} (h : decode M.2.1 pc = .ok (.iastore, 1) ∧ pc + 1 = pc') (hk : intK k = true) (hi : i < cntK k) (hin : inB x n) (hj : x.toNatClampNeg = j) (K : AW d X M pc' ls st (wS w k i j y) Q) (hn : lenK X k = n := by rfl) : AW d X M pc ls (aI y :: aI x :: aR k i :: st) w Q :=
  aw_iast h hk hi (by rw [hn]; exact hin) (by rw [hj]; exact K)
theorem aw_zastK {k i j n : Nat} {x y : Int32} (h : decode M.2.1 pc = .ok (.bastore, 1) ∧ pc + 1 = pc') (hk : bolK k = true) (hi : i < cntK k) (hin : inB x n) (hy : vp_nar .boolean y = y) (hj : x.toNatClampNeg = j) (K : AW d X M pc' ls st (wS w k i j y) Q) (hn : lenK X k = n := by rfl) : AW d X M pc ls (aI y :: aI x :: aR k i :: st) w Q :=
  aw_zast h hk hi (by rw [hn]; exact hin) hy (by rw [hj]; exact K)
end AWI

