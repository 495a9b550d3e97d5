/-! helpers for walks made by program -/
abbrev inB (x : Int32) (n : Nat) : Prop := ¬ (x < 0 ∨ n ≤ x.toNatClampNeg)
def lt {α β : Type} (a : α) (f : α → β) : β := f a
theorem lt_e {α β : Type} {a : α} {f : α → Option β} {x : β} (h : lt a f = some x) : ∃ y, y = a ∧ f y = some x := ⟨a, rfl, h⟩
theorem ip {α : Type} {c : Prop} [Decidable c] {a b : Option α} {x : α} (hc : c) (h : (if c then a else b) = some x) : a = some x := by rwa [if_pos hc] at h
theorem iq {α : Type} {c : Prop} [Decidable c] {a b : Option α} {x : α} (hc : ¬ c) (h : (if c then a else b) = some x) : b = some x := by rwa [if_neg hc] at h
theorem ck {α : Type} {c : Prop} [Decidable c] {a : Option α} {x : α} (h : (if c then a else none) = some x) : c ∧ a = some x := by
  by_cases hc : c
  · exact ⟨hc, by rwa [if_pos hc] at h⟩
  · rw [if_neg hc] at h; cases h
theorem bd {α β : Type} {o : Option α} {f : α → Option β} {x : β} (h : o.bind f = some x) : ∃ q, o = some q ∧ f q = some x := by
  cases o with
  | none => cases h
  | some q => exact ⟨q, rfl, h⟩
theorem sm {α : Type} {a b : α} (h : some a = some b) : a = b := Option.some.inj h
def PI (r : Int32) (w' : Wd) : Option AV → Wd → Prop := fun q w0 => q = some (aI r) ∧ w0 = w'
def PL (r : Int64) (w' : Wd) : Option AV → Wd → Prop := fun q w0 => q = some (aL r) ∧ w0 = w'
def PR (r : Nat) (w' : Wd) : Option AV → Wd → Prop := fun q w0 => q = some (aR 3 r) ∧ w0 = w'
def PV (w' : Wd) : Option AV → Wd → Prop := fun q w0 => q = none ∧ w0 = w'
def subL : List (Option AV) → List (Option AV) → Prop
  | [], _ => True
  | none :: t, [] => subL t []
  | none :: t, _ :: s => subL t s
  | some _ :: _, [] => False
  | some a :: t, b :: s => some a = b ∧ subL t s
theorem subL_at : ∀ (l' l : List (Option AV)), subL l' l → ∀ (i : Nat) (a : AV), l'[i]? = some (some a) → l[i]? = some (some a)
  | [], _, _, i, a, h => by simp at h
  | none :: t, [], hs, 0, a, h => by simp at h
  | none :: t, [], hs, i + 1, a, h => by
    have := subL_at t [] hs i a (by simpa using h)
    simp at this
  | none :: t, _ :: s, hs, 0, a, h => by simp at h
  | none :: t, _ :: s, hs, i + 1, a, h => by
    have := subL_at t s hs i a (by simpa using h)
    simpa using this
  | some _ :: _, [], hs, _, _, _ => hs.elim
  | some b :: t, c :: s, hs, 0, a, h => by
    simp at h; subst h; simp; exact hs.1.symm
  | some _ :: t, _ :: s, hs, i + 1, a, h => by
    have := subL_at t s hs.2 i a (by simpa using h)
    simpa using this
theorem iinc_k {x y v : Int32} {n : Int} (hk : Int32.ofInt n = v) (hy : y = x + v) : x + Int32.ofInt n = y := by rw [hk, hy]
theorem nar01 {r : Int32} (h : r = 0 ∨ r = 1) : narrow .boolean (.int r) = .int r := by rcases h with rfl | rfl <;> decide +kernel
def maxZ (x y : Int32) : Int32 := if x < y then y else x
def minZ (x y : Int32) : Int32 := if y < x then y else x
theorem vnar0 : vp_nar .boolean 0 = 0 := by decide +kernel
theorem vnar1 : vp_nar .boolean 1 = 1 := by decide +kernel
/-- arrays that a method may read by a name (not the script) -/
def lenZ (k : Nat) : Nat := lenK (0, fun _ => 0) k
def rdZ (w : Wd) (k i j : Nat) : Int32 := rdA (0, fun _ => 0) w k i j
def arrZ (k i : Nat) : Bool := arrK k i && !(k == 42)
theorem arrZ_len {X : XS} {k i : Nat} (h : arrZ k i = true) : lenK X k = lenZ k := by
  simp only [arrZ, Bool.and_eq_true, Bool.not_eq_true', beq_eq_false_iff_ne, ne_eq] at h
  unfold lenZ lenK
  split <;> first | rfl | exact absurd rfl h.2
theorem arrZ_rd {X : XS} {w : Wd} {k i j : Nat} (h : arrZ k i = true) : rdA X w k i j = rdZ w k i j := by
  simp only [arrZ, Bool.and_eq_true, Bool.not_eq_true', beq_eq_false_iff_ne, ne_eq] at h
  unfold rdZ rdA
  rw [if_neg h.2, if_neg h.2]
theorem arrZ_ok {k i : Nat} (h : arrZ k i = true) : arrK k i = true := by
  simp only [arrZ, Bool.and_eq_true] at h; exact h.1
section AWH
variable {d : Nat} {X : XS} {M : MD} {pc pc' : Nat} {ls ls' : List (Option AV)} {st : List AV} {w w' : Wd} {Q : Option AV → Wd → Prop}
theorem aw_sub (h : subL ls' ls) (K : AW d X M pc ls' st w Q) : AW d X M pc ls st w Q := aw_loc (subL_at ls' ls h) K
theorem aw_wn (h : w' = w) (K : AW d X M pc ls st w' Q) : AW d X M pc ls st w Q := h ▸ K
theorem aw_istore_nY {k : Fin 4} {x y : Int32} (hy : y = x) (h : decode M.2.1 pc = .ok (.istore_n k, 1) ∧ pc + 1 = pc') (hn : (k : Nat) < M.2.2.1) (hnl : nlL ls (k : Nat) = true) (hs : ls.set (k : Nat) (some (aI y)) = ls') (K : AW d X M pc' ls' st w Q) : AW d X M pc ls (aI x :: st) w Q := by
  subst hy; subst hs; exact aw_istore_n h hn hnl K
theorem aw_istoreY {i : Nat} {x y : Int32} (hy : y = x) (h : decode M.2.1 pc = .ok (.istore i, 2) ∧ pc + 2 = pc') (hn : i < M.2.2.1) (hnl : nlL ls i = true) (hs : ls.set i (some (aI y)) = ls') (K : AW d X M pc' ls' st w Q) : AW d X M pc ls (aI x :: st) w Q := by
  subst hy; subst hs; exact aw_istore h hn hnl K
theorem aw_lstore_nY {k : Fin 4} {x y : Int64} (hy : y = x) (h : decode M.2.1 pc = .ok (.lstore_n k, 1) ∧ pc + 1 = pc') (hn : (k : Nat) + 1 < M.2.2.1) (hnl : nlL ls (k : Nat) = true) (hs : (ls.set (k : Nat) (some (aL y))).set ((k : Nat) + 1) none = ls') (K : AW d X M pc' ls' st w Q) : AW d X M pc ls (aL x :: st) w Q := by
  subst hy; subst hs; exact aw_lstore_n h hn hnl K
theorem aw_astore_nY {k : Fin 4} {a b : Nat} (h : decode M.2.1 pc = .ok (.astore_n k, 1) ∧ pc + 1 = pc') (hn : (k : Nat) < M.2.2.1) (hnl : nlL ls (k : Nat) = true) (hs : ls.set (k : Nat) (some (aR a b)) = ls') (K : AW d X M pc' ls' st w Q) : AW d X M pc ls (aR a b :: st) w Q := by
  subst hs; exact aw_astore_n h hn hnl K
theorem aw_iincY {i : Nat} {n : Int} {x v : Int32} (hv : x + Int32.ofInt n = v) (h : decode M.2.1 pc = .ok (.iinc i n, 3) ∧ pc + 3 = pc') (hl0 : ls[i]? = some (some (aI x))) (hn : i < M.2.2.1) (hnl : nlL ls i = true) (hs : ls.set i (some (aI v)) = ls') (K : AW d X M pc' ls' st w Q) : AW d X M pc ls st w Q := by
  subst hs; exact aw_iinc h hl0 hv hn hnl K
theorem aw_ialdZ {k i : Nat} {x : Int32} (h : decode M.2.1 pc = .ok (.iaload, 1) ∧ pc + 1 = pc') (hk : arrZ k i = true) (hin : inB x (lenZ k)) (K : AW d X M pc' ls (aI (rdZ w k i x.toNatClampNeg) :: st) w Q) : AW d X M pc ls (aI x :: aR k i :: st) w Q :=
  aw_iald h (arrZ_ok hk) (by rw [arrZ_len hk]; exact hin) (arrZ_rd hk) K
theorem aw_alenZ2 {k i : Nat} (h : decode M.2.1 pc = .ok (.arraylength, 1) ∧ pc + 1 = pc') (hk : arrZ k i = true) (K : AW d X M pc' ls (aI (Int32.ofNat (lenZ k)) :: st) w Q) : AW d X M pc ls (aR k i :: st) w Q :=
  aw_alenI h (arrZ_ok hk) (by rw [arrZ_len hk]) K

theorem aw_callVI {d' idx n ln : Nat} {N : MD} {r : Int32} {w1 : Wd} (as : List AV) {k i : Nat} (h : decode M.2.1 pc = .ok (.invokevirtual idx, 3) ∧ pc + 3 = pc') (hw : Cond.methodLink M.1.cls idx N.1 ∈ TT) (hN : MI N (RK k) n ln) (hk : k < 7) (hi : i < cntK k) (hdd : d' + 1 ≤ d) (hn : as.length = n) (hln : ((aR k i :: as).map catA).sum = ln) (hst : (st.map catA).sum ≤ 8) (C : AW d' X N 0 (entA N.2.2.1 (aR k i :: as)) [] w (PI r w1)) (K : AW d X M pc' ls (aI r :: st) w1 Q) : AW d X M pc ls (as.reverse ++ aR k i :: st) w Q :=
  aw_callV as h hw hN hk hi hdd hn hln hst C (fun r0 w0 hq => by obtain ⟨rfl, rfl⟩ := hq; exact K)
theorem aw_callSI {d' idx n ln : Nat} {N : MD} {r : Int32} {w1 : Wd} (as : List AV) (h : decode M.2.1 pc = .ok (.invokestatic idx, 3) ∧ pc + 3 = pc') (hw : Cond.methodLink M.1.cls idx N.1 ∈ TT) (hN : MS N n ln) (hdd : d' + 1 ≤ d) (hn : as.length = n) (hln : (as.map catA).sum = ln) (hst : (st.map catA).sum ≤ 8) (C : AW d' X N 0 (entA N.2.2.1 as) [] w (PI r w1)) (K : AW d X M pc' ls (aI r :: st) w1 Q) : AW d X M pc ls (as.reverse ++ st) w Q :=
  aw_callS as h hw hN hdd hn hln hst C (fun r0 w0 hq => by obtain ⟨rfl, rfl⟩ := hq; exact K)
theorem aw_callNI {d' idx n ln : Nat} {N : MD} {r : Int32} {w1 : Wd} (as : List AV) (h : decode M.2.1 pc = .ok (.invokestatic idx, 3) ∧ pc + 3 = pc') (hw : (M.1.cls, idx, N.1) ∈ nestsA) (hN : MS N n ln) (hdd : d' + 1 ≤ d) (hn : as.length = n) (hln : (as.map catA).sum = ln) (hst : (st.map catA).sum ≤ 8) (C : AW d' X N 0 (entA N.2.2.1 as) [] w (PI r w1)) (K : AW d X M pc' ls (aI r :: st) w1 Q) : AW d X M pc ls (as.reverse ++ st) w Q :=
  aw_callN as h hw hN hdd hn hln hst C (fun r0 w0 hq => by obtain ⟨rfl, rfl⟩ := hq; exact K)
theorem aw_callVL {d' idx n ln : Nat} {N : MD} {r : Int64} {w1 : Wd} (as : List AV) {k i : Nat} (h : decode M.2.1 pc = .ok (.invokevirtual idx, 3) ∧ pc + 3 = pc') (hw : Cond.methodLink M.1.cls idx N.1 ∈ TT) (hN : MI N (RK k) n ln) (hk : k < 7) (hi : i < cntK k) (hdd : d' + 1 ≤ d) (hn : as.length = n) (hln : ((aR k i :: as).map catA).sum = ln) (hst : (st.map catA).sum ≤ 8) (C : AW d' X N 0 (entA N.2.2.1 (aR k i :: as)) [] w (PL r w1)) (K : AW d X M pc' ls (aL r :: st) w1 Q) : AW d X M pc ls (as.reverse ++ aR k i :: st) w Q :=
  aw_callV as h hw hN hk hi hdd hn hln hst C (fun r0 w0 hq => by obtain ⟨rfl, rfl⟩ := hq; exact K)
theorem aw_callSL {d' idx n ln : Nat} {N : MD} {r : Int64} {w1 : Wd} (as : List AV) (h : decode M.2.1 pc = .ok (.invokestatic idx, 3) ∧ pc + 3 = pc') (hw : Cond.methodLink M.1.cls idx N.1 ∈ TT) (hN : MS N n ln) (hdd : d' + 1 ≤ d) (hn : as.length = n) (hln : (as.map catA).sum = ln) (hst : (st.map catA).sum ≤ 8) (C : AW d' X N 0 (entA N.2.2.1 as) [] w (PL r w1)) (K : AW d X M pc' ls (aL r :: st) w1 Q) : AW d X M pc ls (as.reverse ++ st) w Q :=
  aw_callS as h hw hN hdd hn hln hst C (fun r0 w0 hq => by obtain ⟨rfl, rfl⟩ := hq; exact K)
theorem aw_callNL {d' idx n ln : Nat} {N : MD} {r : Int64} {w1 : Wd} (as : List AV) (h : decode M.2.1 pc = .ok (.invokestatic idx, 3) ∧ pc + 3 = pc') (hw : (M.1.cls, idx, N.1) ∈ nestsA) (hN : MS N n ln) (hdd : d' + 1 ≤ d) (hn : as.length = n) (hln : (as.map catA).sum = ln) (hst : (st.map catA).sum ≤ 8) (C : AW d' X N 0 (entA N.2.2.1 as) [] w (PL r w1)) (K : AW d X M pc' ls (aL r :: st) w1 Q) : AW d X M pc ls (as.reverse ++ st) w Q :=
  aw_callN as h hw hN hdd hn hln hst C (fun r0 w0 hq => by obtain ⟨rfl, rfl⟩ := hq; exact K)
theorem aw_callVR {d' idx n ln : Nat} {N : MD} {r : Nat} {w1 : Wd} (as : List AV) {k i : Nat} (h : decode M.2.1 pc = .ok (.invokevirtual idx, 3) ∧ pc + 3 = pc') (hw : Cond.methodLink M.1.cls idx N.1 ∈ TT) (hN : MI N (RK k) n ln) (hk : k < 7) (hi : i < cntK k) (hdd : d' + 1 ≤ d) (hn : as.length = n) (hln : ((aR k i :: as).map catA).sum = ln) (hst : (st.map catA).sum ≤ 8) (C : AW d' X N 0 (entA N.2.2.1 (aR k i :: as)) [] w (PR r w1)) (K : AW d X M pc' ls (aR 3 r :: st) w1 Q) : AW d X M pc ls (as.reverse ++ aR k i :: st) w Q :=
  aw_callV as h hw hN hk hi hdd hn hln hst C (fun r0 w0 hq => by obtain ⟨rfl, rfl⟩ := hq; exact K)
theorem aw_callSR {d' idx n ln : Nat} {N : MD} {r : Nat} {w1 : Wd} (as : List AV) (h : decode M.2.1 pc = .ok (.invokestatic idx, 3) ∧ pc + 3 = pc') (hw : Cond.methodLink M.1.cls idx N.1 ∈ TT) (hN : MS N n ln) (hdd : d' + 1 ≤ d) (hn : as.length = n) (hln : (as.map catA).sum = ln) (hst : (st.map catA).sum ≤ 8) (C : AW d' X N 0 (entA N.2.2.1 as) [] w (PR r w1)) (K : AW d X M pc' ls (aR 3 r :: st) w1 Q) : AW d X M pc ls (as.reverse ++ st) w Q :=
  aw_callS as h hw hN hdd hn hln hst C (fun r0 w0 hq => by obtain ⟨rfl, rfl⟩ := hq; exact K)
theorem aw_callNR {d' idx n ln : Nat} {N : MD} {r : Nat} {w1 : Wd} (as : List AV) (h : decode M.2.1 pc = .ok (.invokestatic idx, 3) ∧ pc + 3 = pc') (hw : (M.1.cls, idx, N.1) ∈ nestsA) (hN : MS N n ln) (hdd : d' + 1 ≤ d) (hn : as.length = n) (hln : (as.map catA).sum = ln) (hst : (st.map catA).sum ≤ 8) (C : AW d' X N 0 (entA N.2.2.1 as) [] w (PR r w1)) (K : AW d X M pc' ls (aR 3 r :: st) w1 Q) : AW d X M pc ls (as.reverse ++ st) w Q :=
  aw_callN as h hw hN hdd hn hln hst C (fun r0 w0 hq => by obtain ⟨rfl, rfl⟩ := hq; exact K)
theorem aw_callVV {d' idx n ln : Nat} {N : MD} {w1 : Wd} (as : List AV) {k i : Nat} (h : decode M.2.1 pc = .ok (.invokevirtual idx, 3) ∧ pc + 3 = pc') (hw : Cond.methodLink M.1.cls idx N.1 ∈ TT) (hN : MI N (RK k) n ln) (hk : k < 7) (hi : i < cntK k) (hdd : d' + 1 ≤ d) (hn : as.length = n) (hln : ((aR k i :: as).map catA).sum = ln) (hst : (st.map catA).sum ≤ 8) (C : AW d' X N 0 (entA N.2.2.1 (aR k i :: as)) [] w (PV w1)) (K : AW d X M pc' ls (st) w1 Q) : AW d X M pc ls (as.reverse ++ aR k i :: st) w Q :=
  aw_callV as h hw hN hk hi hdd hn hln hst C (fun r0 w0 hq => by obtain ⟨rfl, rfl⟩ := hq; exact K)
theorem aw_callSV {d' idx n ln : Nat} {N : MD} {w1 : Wd} (as : List AV) (h : decode M.2.1 pc = .ok (.invokestatic idx, 3) ∧ pc + 3 = pc') (hw : Cond.methodLink M.1.cls idx N.1 ∈ TT) (hN : MS N n ln) (hdd : d' + 1 ≤ d) (hn : as.length = n) (hln : (as.map catA).sum = ln) (hst : (st.map catA).sum ≤ 8) (C : AW d' X N 0 (entA N.2.2.1 as) [] w (PV w1)) (K : AW d X M pc' ls (st) w1 Q) : AW d X M pc ls (as.reverse ++ st) w Q :=
  aw_callS as h hw hN hdd hn hln hst C (fun r0 w0 hq => by obtain ⟨rfl, rfl⟩ := hq; exact K)
theorem aw_callNV {d' idx n ln : Nat} {N : MD} {w1 : Wd} (as : List AV) (h : decode M.2.1 pc = .ok (.invokestatic idx, 3) ∧ pc + 3 = pc') (hw : (M.1.cls, idx, N.1) ∈ nestsA) (hN : MS N n ln) (hdd : d' + 1 ≤ d) (hn : as.length = n) (hln : (as.map catA).sum = ln) (hst : (st.map catA).sum ≤ 8) (C : AW d' X N 0 (entA N.2.2.1 as) [] w (PV w1)) (K : AW d X M pc' ls (st) w1 Q) : AW d X M pc ls (as.reverse ++ st) w Q :=
  aw_callN as h hw hN hdd hn hln hst C (fun r0 w0 hq => by obtain ⟨rfl, rfl⟩ := hq; exact K)
theorem aw_mmax {idx : Nat} {x y : Int32} (h : decode M.2.1 pc = .ok (.invokestatic idx, 3) ∧ pc + 3 = pc') (hw : Cond.methodLink M.1.cls idx Lib.Math.max.name ∈ TT) (hd1 : 1 ≤ d) (hst : (st.map catA).sum ≤ 8) (K : AW d X M pc' ls (aI (maxZ x y) :: st) w Q) : AW d X M pc ls (aI y :: aI x :: st) w Q := by
  intro al D cI cZ cS lo p l e R s m args below meth c H locs cells slots la Z hC hE hce hsl hP hS hl hZ
  obtain ⟨hx, hb, hml, hown, hts, hlk, hrt, hdf, hdl⟩ := id hC
  obtain ⟨hd, rfl⟩ := h
  exact va_mmax hx hb (hml.trans hl.1.symm) hown (hts _ hw) (hts _ tw_1_5) (hts _ tw_0_8) (hts _ tw_1_6) (by omega) (by rw [sumA_eq]; omega) hce hsl hd (K al D cI cZ cS lo p l e R s m args below meth c H locs cells slots la Z hC hE hce hsl hP hS hl hZ)
theorem aw_mmin {idx : Nat} {x y : Int32} (h : decode M.2.1 pc = .ok (.invokestatic idx, 3) ∧ pc + 3 = pc') (hw : Cond.methodLink M.1.cls idx Lib.Math.min.name ∈ TT) (hd1 : 1 ≤ d) (hst : (st.map catA).sum ≤ 8) (K : AW d X M pc' ls (aI (minZ x y) :: st) w Q) : AW d X M pc ls (aI y :: aI x :: st) w Q := by
  intro al D cI cZ cS lo p l e R s m args below meth c H locs cells slots la Z hC hE hce hsl hP hS hl hZ
  obtain ⟨hx, hb, hml, hown, hts, hlk, hrt, hdf, hdl⟩ := id hC
  obtain ⟨hd, rfl⟩ := h
  exact va_mmin hx hb (hml.trans hl.1.symm) hown (hts _ hw) (hts _ tw_1_40) (hts _ tw_0_8) (hts _ tw_1_41) (by omega) (by rw [sumA_eq]; omega) hce hsl hd (K al D cI cZ cS lo p l e R s m args below meth c H locs cells slots la Z hC hE hce hsl hP hS hl hZ)
end AWH
theorem tab_out {x : Int32} {lo hi : Int} (h : ∀ c : Int, lo ≤ c → c ≤ hi → x ≠ Int32.ofInt c) : x.toInt < lo ∨ hi < x.toInt := by
  rcases Int.lt_or_le x.toInt lo with h1 | h1
  · exact Or.inl h1
  · rcases Int.lt_or_le hi x.toInt with h2 | h2
    · exact Or.inr h2
    · exact absurd (by rw [Int32.ofInt_toInt]) (h x.toInt h1 h2)
theorem k_bipush_m9 : (Int8.ofInt (-9)).toInt32 = (-9) := by decide +kernel
theorem k_bipush_m4 : (Int8.ofInt (-4)).toInt32 = (-4) := by decide +kernel
theorem k_bipush_m3 : (Int8.ofInt (-3)).toInt32 = (-3) := by decide +kernel
theorem k_bipush_m2 : (Int8.ofInt (-2)).toInt32 = (-2) := by decide +kernel
theorem k_bipush_6 : (Int8.ofInt 6).toInt32 = 6 := by decide +kernel
theorem k_bipush_7 : (Int8.ofInt 7).toInt32 = 7 := by decide +kernel
theorem k_bipush_8 : (Int8.ofInt 8).toInt32 = 8 := by decide +kernel
theorem k_bipush_9 : (Int8.ofInt 9).toInt32 = 9 := by decide +kernel
theorem k_bipush_10 : (Int8.ofInt 10).toInt32 = 10 := by decide +kernel
theorem k_bipush_11 : (Int8.ofInt 11).toInt32 = 11 := by decide +kernel
theorem k_bipush_13 : (Int8.ofInt 13).toInt32 = 13 := by decide +kernel
theorem k_bipush_14 : (Int8.ofInt 14).toInt32 = 14 := by decide +kernel
theorem k_bipush_16 : (Int8.ofInt 16).toInt32 = 16 := by decide +kernel
theorem k_bipush_30 : (Int8.ofInt 30).toInt32 = 30 := by decide +kernel
theorem k_bipush_31 : (Int8.ofInt 31).toInt32 = 31 := by decide +kernel
theorem k_bipush_32 : (Int8.ofInt 32).toInt32 = 32 := by decide +kernel
theorem k_bipush_33 : (Int8.ofInt 33).toInt32 = 33 := by decide +kernel
theorem k_bipush_44 : (Int8.ofInt 44).toInt32 = 44 := by decide +kernel
theorem k_bipush_48 : (Int8.ofInt 48).toInt32 = 48 := by decide +kernel
theorem k_bipush_63 : (Int8.ofInt 63).toInt32 = 63 := by decide +kernel
theorem k_bipush_64 : (Int8.ofInt 64).toInt32 = 64 := by decide +kernel
theorem k_bipush_78 : (Int8.ofInt 78).toInt32 = 78 := by decide +kernel
theorem k_bipush_87 : (Int8.ofInt 87).toInt32 = 87 := by decide +kernel
theorem k_bipush_112 : (Int8.ofInt 112).toInt32 = 112 := by decide +kernel
theorem k_iconst_m1 : Int32.ofInt (-1) = (-1) := by decide +kernel
theorem k_iconst_0 : Int32.ofInt 0 = 0 := by decide +kernel
theorem k_iconst_1 : Int32.ofInt 1 = 1 := by decide +kernel
theorem k_iconst_2 : Int32.ofInt 2 = 2 := by decide +kernel
theorem k_iconst_3 : Int32.ofInt 3 = 3 := by decide +kernel
theorem k_iconst_4 : Int32.ofInt 4 = 4 := by decide +kernel
theorem k_iconst_5 : Int32.ofInt 5 = 5 := by decide +kernel
theorem k_lconst_0 : Int64.ofNat (((0 : Fin 2)) : Nat) = 0 := by decide +kernel
theorem k_lconst_1 : Int64.ofNat (((1 : Fin 2)) : Nat) = 1 := by decide +kernel
theorem k_sipush_255 : (Int16.ofInt 255).toInt32 = 255 := by decide +kernel
theorem k_sipush_384 : (Int16.ofInt 384).toInt32 = 384 := by decide +kernel
abbrev mX0_init : MD := (yX0_init, cX0_init, 2, none)
abbrev mX0_clear : MD := (yX0_clear, cX0_clear, 1, none)
abbrev mX0_standAt : MD := (yX0_standAt, cX0_standAt, 3, some (.object RX3))
abbrev mX0_remember : MD := (yX0_remember, cX0_remember, 3, none)
abbrev mX0_takeBack : MD := (yX0_takeBack, cX0_takeBack, 2, some .boolean)
abbrev mX1_init : MD := (yX1_init, cX1_init, 1, none)
abbrev mX1_readFrom : MD := (yX1_readFrom, cX1_readFrom, 4, none)
abbrev mX1_has : MD := (yX1_has, cX1_has, 2, some .boolean)
abbrev mX1_everyone : MD := (yX1_everyone, cX1_everyone, 1, some .int)
abbrev mX1_figure : MD := (yX1_figure, cX1_figure, 4, some .int)
abbrev mX1_begin : MD := (yX1_begin, cX1_begin, 6, some .int)
abbrev mX1_ringFree : MD := (yX1_ringFree, cX1_ringFree, 3, some .int)
abbrev mX1_beginOn : MD := (yX1_beginOn, cX1_beginOn, 3, some .int)
abbrev mX1_celebrate : MD := (yX1_celebrate, cX1_celebrate, 4, some .boolean)
abbrev mX2_init : MD := (yX2_init, cX2_init, 1, none)
abbrev mX2_runFrom : MD := (yX2_runFrom, cX2_runFrom, 3, none)
abbrev mX2_reset : MD := (yX2_reset, cX2_reset, 4, none)
abbrev mX2_allowOnly : MD := (yX2_allowOnly, cX2_allowOnly, 3, none)
abbrev mX2_run : MD := (yX2_run, cX2_run, 2, none)
abbrev mX2_allows : MD := (yX2_allows, cX2_allows, 3, some .boolean)
abbrev mX2_record : MD := (yX2_record, cX2_record, 5, none)
abbrev mX2_goOn : MD := (yX2_goOn, cX2_goOn, 12, none)
abbrev mX3_init : MD := (yX3_init, cX3_init, 1, none)
abbrev mX3_take : MD := (yX3_take, cX3_take, 3, none)
abbrev mX3_readFrom : MD := (yX3_readFrom, cX3_readFrom, 3, none)
abbrev mX3_isWed : MD := (yX3_isWed, cX3_isWed, 2, some .boolean)
abbrev mX3_shorten : MD := (yX3_shorten, cX3_shorten, 2, none)
abbrev mX3_hoursBetween : MD := (yX3_hoursBetween, cX3_hoursBetween, 5, some .int)
abbrev mX4_init : MD := (yX4_init, cX4_init, 1, none)
abbrev mX4_add : MD := (yX4_add, cX4_add, 2, some .boolean)
abbrev mX4_figure : MD := (yX4_figure, cX4_figure, 2, some .int)
abbrev mX4_firstFault : MD := (yX4_firstFault, cX4_firstFault, 2, some .int)
abbrev mX4_fits : MD := (yX4_fits, cX4_fits, 2, some .boolean)
abbrev mX4_fitsWedding : MD := (yX4_fitsWedding, cX4_fitsWedding, 2, some .boolean)
abbrev mX4_isFigure : MD := (yX4_isFigure, cX4_isFigure, 4, some .boolean)
abbrev mX5_init : MD := (yX5_init, cX5_init, 2, none)
abbrev mX5_write : MD := (yX5_write, cX5_write, 2, some .int)
abbrev mX5_wipe : MD := (yX5_wipe, cX5_wipe, 2, some .int)
abbrev mX5_fault : MD := (yX5_fault, cX5_fault, 1, some .int)
abbrev mX5_parish : MD := (yX5_parish, cX5_parish, 2, some .int)
abbrev mX5_wedding : MD := (yX5_wedding, cX5_wedding, 3, some .int)
abbrev mX5_road : MD := (yX5_road, cX5_road, 2, some .int)
abbrev mX5_way : MD := (yX5_way, cX5_way, 3, some .int)
abbrev mX5_wed : MD := (yX5_wed, cX5_wed, 2, some .int)
abbrev mX5_carry : MD := (yX5_carry, cX5_carry, 2, some .int)
abbrev mX5_linger : MD := (yX5_linger, cX5_linger, 1, some .int)
abbrev mX5_mend : MD := (yX5_mend, cX5_mend, 2, some .int)
abbrev mX5_undo : MD := (yX5_undo, cX5_undo, 1, some .int)
abbrev mX5_most : MD := (yX5_most, cX5_most, 2, some .int)
abbrev mX5_slack : MD := (yX5_slack, cX5_slack, 3, some .int)
abbrev mX5_mending : MD := (yX5_mending, cX5_mending, 6, some .int)
abbrev mX5_judge : MD := (yX5_judge, cX5_judge, 4, some .int)
abbrev mX5_later : MD := (yX5_later, cX5_later, 4, some .int)
abbrev mX5_see : MD := (yX5_see, cX5_see, 3, some .int)
abbrev mX5_unsee : MD := (yX5_unsee, cX5_unsee, 2, some .int)
abbrev mX5_rows : MD := (yX5_rows, cX5_rows, 4, some .int)
abbrev mX5_share : MD := (yX5_share, cX5_share, 10, some .int)
abbrev mX5_rests : MD := (yX5_rests, cX5_rests, 7, some .int)
abbrev mX5_falls : MD := (yX5_falls, cX5_falls, 8, some .int)
abbrev mX5_seed : MD := (yX5_seed, cX5_seed, 5, some .long)
abbrev mX5_summers : MD := (yX5_summers, cX5_summers, 5, some .int)
abbrev mX5_keep : MD := (yX5_keep, cX5_keep, 3, some .int)
abbrev mX5_again : MD := (yX5_again, cX5_again, 2, some .int)
abbrev mX5_count : MD := (yX5_count, cX5_count, 2, some .int)
abbrev mX5_isChurch : MD := (yX5_isChurch, cX5_isChurch, 1, some .boolean)
abbrev mX5_isRoad : MD := (yX5_isRoad, cX5_isRoad, 1, some .boolean)
abbrev mX5_isSlot : MD := (yX5_isSlot, cX5_isSlot, 2, some .boolean)
abbrev mX5_at : MD := (yX5_at, cX5_at, 2, some .int)
abbrev mX5_isRow : MD := (yX5_isRow, cX5_isRow, 2, some .boolean)
abbrev mX5_weddingInRow : MD := (yX5_weddingInRow, cX5_weddingInRow, 4, some .int)
abbrev mX5_holdingNext : MD := (yX5_holdingNext, cX5_holdingNext, 3, some .int)
abbrev mX5_mostFrom : MD := (yX5_mostFrom, cX5_mostFrom, 2, some .int)
abbrev mX5_fraction : MD := (yX5_fraction, cX5_fraction, 4, some .int)
abbrev mX5_greatestDivisor : MD := (yX5_greatestDivisor, cX5_greatestDivisor, 6, some .int)
abbrev mX5_fillMostOf : MD := (yX5_fillMostOf, cX5_fillMostOf, 4, none)
abbrev mX5_isAtRest : MD := (yX5_isAtRest, cX5_isAtRest, 5, some .boolean)
abbrev mX5_gain : MD := (yX5_gain, cX5_gain, 8, some .int)
abbrev mX5_isRowOfOpenWeddings : MD := (yX5_isRowOfOpenWeddings, cX5_isRowOfOpenWeddings, 6, some .boolean)
abbrev mX5_weightOfFalls : MD := (yX5_weightOfFalls, cX5_weightOfFalls, 10, some .int)
abbrev mX5_holdsWithFalls : MD := (yX5_holdsWithFalls, cX5_holdsWithFalls, 5, some .boolean)
abbrev mX6_init : MD := (yX6_init, cX6_init, 2, none)
abbrev mX6_in : MD := (yX6_in, cX6_in, 6, some .boolean)
abbrev mX6_has : MD := (yX6_has, cX6_has, 2, some .boolean)
abbrev mX6_ones : MD := (yX6_ones, cX6_ones, 3, some .int)
abbrev mX6_write : MD := (yX6_write, cX6_write, 2, some .int)
abbrev mX6_wipe : MD := (yX6_wipe, cX6_wipe, 2, some .int)
abbrev mX6_mayBe : MD := (yX6_mayBe, cX6_mayBe, 3, some .boolean)
abbrev mX6_fault : MD := (yX6_fault, cX6_fault, 2, some .int)
abbrev mX6_parish : MD := (yX6_parish, cX6_parish, 3, some .int)
abbrev mX6_isWedding : MD := (yX6_isWedding, cX6_isWedding, 2, some .boolean)
abbrev mX6_isChurch : MD := (yX6_isChurch, cX6_isChurch, 1, some .boolean)
abbrev mX6_every : MD := (yX6_every, cX6_every, 1, some .int)
abbrev mX6_wayOn : MD := (yX6_wayOn, cX6_wayOn, 7, some .int)
abbrev mX6_begins : MD := (yX6_begins, cX6_begins, 8, some .int)
abbrev mX6_lasts : MD := (yX6_lasts, cX6_lasts, 2, some .int)
abbrev mX6_behind : MD := (yX6_behind, cX6_behind, 3, some .int)
abbrev mX6_beginsNow : MD := (yX6_beginsNow, cX6_beginsNow, 4, some .int)
abbrev mX6_wedOn : MD := (yX6_wedOn, cX6_wedOn, 5, some .boolean)
abbrev mX6_wedding : MD := (yX6_wedding, cX6_wedding, 3, some .int)
abbrev mX6_road : MD := (yX6_road, cX6_road, 2, some .int)
abbrev mX6_way : MD := (yX6_way, cX6_way, 3, some .int)
abbrev mX6_keepAct : MD := (yX6_keepAct, cX6_keepAct, 2, none)
abbrev mX6_wed : MD := (yX6_wed, cX6_wed, 2, some .int)
abbrev mX6_carry : MD := (yX6_carry, cX6_carry, 2, some .int)
abbrev mX6_linger : MD := (yX6_linger, cX6_linger, 1, some .int)
abbrev mX6_mend : MD := (yX6_mend, cX6_mend, 2, some .int)
abbrev mX6_undo : MD := (yX6_undo, cX6_undo, 2, some .int)
abbrev mX6_noteEarlier : MD := (yX6_noteEarlier, cX6_noteEarlier, 6, none)
abbrev mX6_mostOn : MD := (yX6_mostOn, cX6_mostOn, 9, some .int)
abbrev mX6_endOf : MD := (yX6_endOf, cX6_endOf, 5, some .int)
abbrev mX6_layTrial : MD := (yX6_layTrial, cX6_layTrial, 2, none)
abbrev mX6_firstRow : MD := (yX6_firstRow, cX6_firstRow, 6, some .int)
abbrev mX6_goesOn : MD := (yX6_goesOn, cX6_goesOn, 6, some .boolean)
abbrev mX6_most : MD := (yX6_most, cX6_most, 3, some .int)
abbrev mX6_slack : MD := (yX6_slack, cX6_slack, 3, some .int)
abbrev mX6_mending : MD := (yX6_mending, cX6_mending, 6, some .int)
abbrev mX6_tenTo : MD := (yX6_tenTo, cX6_tenTo, 3, some .int)
abbrev mX6_judge : MD := (yX6_judge, cX6_judge, 5, some .int)
abbrev mX6_later : MD := (yX6_later, cX6_later, 4, some .int)
abbrev mX6_see : MD := (yX6_see, cX6_see, 3, some .int)
abbrev mX6_unsee : MD := (yX6_unsee, cX6_unsee, 2, some .int)
abbrev mX6_isSeen : MD := (yX6_isSeen, cX6_isSeen, 4, some .boolean)
abbrev mX6_rowsOf : MD := (yX6_rowsOf, cX6_rowsOf, 4, some .int)
abbrev mX6_rowBy : MD := (yX6_rowBy, cX6_rowBy, 13, some .int)
abbrev mX6_rows : MD := (yX6_rows, cX6_rows, 9, some .int)
abbrev mX6_factorial : MD := (yX6_factorial, cX6_factorial, 3, some .int)
abbrev mX6_common : MD := (yX6_common, cX6_common, 5, some .int)
abbrev mX6_share : MD := (yX6_share, cX6_share, 7, some .int)
abbrev mX6_bringsOf : MD := (yX6_bringsOf, cX6_bringsOf, 3, some .int)
abbrev mX6_gain : MD := (yX6_gain, cX6_gain, 6, some .int)
abbrev mX6_isRest : MD := (yX6_isRest, cX6_isRest, 5, some .boolean)
abbrev mX6_rests : MD := (yX6_rests, cX6_rests, 7, some .int)
abbrev mX6_areOpen : MD := (yX6_areOpen, cX6_areOpen, 7, some .boolean)
abbrev mX6_holds : MD := (yX6_holds, cX6_holds, 9, some .boolean)
abbrev mX6_waysIn : MD := (yX6_waysIn, cX6_waysIn, 7, some .int)
abbrev mX6_power : MD := (yX6_power, cX6_power, 4, some .int)
abbrev mX6_falls : MD := (yX6_falls, cX6_falls, 10, some .int)
abbrev mX6_seed : MD := (yX6_seed, cX6_seed, 5, some .long)
abbrev mX6_summers : MD := (yX6_summers, cX6_summers, 5, some .int)
abbrev mX6_keep : MD := (yX6_keep, cX6_keep, 3, some .int)
abbrev mX6_again : MD := (yX6_again, cX6_again, 3, some .int)
abbrev mX6_count : MD := (yX6_count, cX6_count, 4, some .int)
abbrev mJ6_bitCount_0f7a4 : MD := (yJ6_bitCount_0f7a4, cJ6_bitCount_0f7a4, 1, some .int)
abbrev mJ9_max_7cf53 : MD := (yJ9_max_7cf53, cJ9_max_7cf53, 2, some .int)
abbrev mJ9_min_7cf53 : MD := (yJ9_min_7cf53, cJ9_min_7cf53, 2, some .int)
theorem miX0_clear : MI mX0_clear (RK 0) 0 1 := ⟨rfl, tw_1_13, tw_1_14, tw_0_5, tw_1_15, ⟨by decide +kernel, by decide +kernel, by decide +kernel⟩, by decide, by decide +kernel, by decide⟩
theorem miX0_standAt : MI mX0_standAt (RK 0) 1 2 := ⟨rfl, tw_1_75, tw_p_3, tw_0_5, tw_1_76, ⟨by decide +kernel, by decide +kernel, by decide +kernel⟩, by decide, by decide +kernel, by decide⟩
theorem miX0_remember : MI mX0_remember (RK 0) 1 2 := ⟨rfl, tw_1_70, tw_1_71, tw_0_5, tw_1_72, ⟨by decide +kernel, by decide +kernel, by decide +kernel⟩, by decide, by decide +kernel, by decide⟩
theorem miX0_takeBack : MI mX0_takeBack (RK 0) 1 2 := ⟨rfl, tw_1_111, tw_1_112, tw_0_5, tw_1_113, ⟨by decide +kernel, by decide +kernel, by decide +kernel⟩, by decide, by decide +kernel, by decide⟩
theorem miX1_readFrom : MI mX1_readFrom (RK 1) 1 2 := ⟨rfl, tw_0_236, tw_0_237, tw_0_3, tw_0_238, ⟨by decide +kernel, by decide +kernel, by decide +kernel⟩, by decide, by decide +kernel, by decide⟩
theorem miX1_has : MI mX1_has (RK 1) 1 2 := ⟨rfl, tw_1_21, tw_1_22, tw_0_3, tw_1_23, ⟨by decide +kernel, by decide +kernel, by decide +kernel⟩, by decide, by decide +kernel, by decide⟩
theorem miX1_everyone : MI mX1_everyone (RK 1) 0 1 := ⟨rfl, tw_1_197, tw_1_198, tw_0_3, tw_1_199, ⟨by decide +kernel, by decide +kernel, by decide +kernel⟩, by decide, by decide +kernel, by decide⟩
theorem miX1_figure : MI mX1_figure (RK 1) 2 3 := ⟨rfl, tw_1_1, tw_1_2, tw_0_3, tw_1_3, ⟨by decide +kernel, by decide +kernel, by decide +kernel⟩, by decide, by decide +kernel, by decide⟩
theorem miX1_begin : MI mX1_begin (RK 1) 3 4 := ⟨rfl, tw_1_45, tw_1_46, tw_0_3, tw_1_47, ⟨by decide +kernel, by decide +kernel, by decide +kernel⟩, by decide, by decide +kernel, by decide⟩
theorem miX1_ringFree : MI mX1_ringFree (RK 1) 2 3 := ⟨rfl, tw_1_87, tw_1_88, tw_0_3, tw_1_89, ⟨by decide +kernel, by decide +kernel, by decide +kernel⟩, by decide, by decide +kernel, by decide⟩
theorem miX1_beginOn : MI mX1_beginOn (RK 1) 2 3 := ⟨rfl, tw_1_30, tw_1_31, tw_0_3, tw_1_32, ⟨by decide +kernel, by decide +kernel, by decide +kernel⟩, by decide, by decide +kernel, by decide⟩
theorem miX1_celebrate : MI mX1_celebrate (RK 1) 2 3 := ⟨rfl, tw_1_82, tw_1_83, tw_0_3, tw_1_84, ⟨by decide +kernel, by decide +kernel, by decide +kernel⟩, by decide, by decide +kernel, by decide⟩
theorem miX2_runFrom : MI mX2_runFrom (RK 2) 2 3 := ⟨rfl, tw_1_119, tw_1_120, tw_0_6, tw_1_121, ⟨by decide +kernel, by decide +kernel, by decide +kernel⟩, by decide, by decide +kernel, by decide⟩
theorem miX2_reset : MI mX2_reset (RK 2) 2 3 := ⟨rfl, tw_1_123, tw_1_124, tw_0_6, tw_1_125, ⟨by decide +kernel, by decide +kernel, by decide +kernel⟩, by decide, by decide +kernel, by decide⟩
theorem miX2_allowOnly : MI mX2_allowOnly (RK 2) 2 3 := ⟨rfl, tw_1_192, tw_1_193, tw_0_6, tw_1_194, ⟨by decide +kernel, by decide +kernel, by decide +kernel⟩, by decide, by decide +kernel, by decide⟩
theorem miX2_run : MI mX2_run (RK 2) 1 2 := ⟨rfl, tw_1_128, tw_1_129, tw_0_6, tw_1_130, ⟨by decide +kernel, by decide +kernel, by decide +kernel⟩, by decide, by decide +kernel, by decide⟩
theorem miX2_allows : MI mX2_allows (RK 2) 2 3 := ⟨rfl, tw_1_133, tw_p_4, tw_0_6, tw_1_134, ⟨by decide +kernel, by decide +kernel, by decide +kernel⟩, by decide, by decide +kernel, by decide⟩
theorem miX2_record : MI mX2_record (RK 2) 4 5 := ⟨rfl, tw_1_141, tw_p_5, tw_0_6, tw_1_142, ⟨by decide +kernel, by decide +kernel, by decide +kernel⟩, by decide, by decide +kernel, by decide⟩
theorem msX2_goOn : MS mX2_goOn 7 7 := ⟨tw_1_137, tw_0_6, tw_1_138, ⟨by decide +kernel, by decide +kernel, by decide +kernel⟩, by decide, by decide +kernel, by decide⟩
theorem miX3_take : MI mX3_take (RK 3) 1 2 := ⟨rfl, tw_1_78, tw_1_79, tw_0_4, tw_1_80, ⟨by decide +kernel, by decide +kernel, by decide +kernel⟩, by decide, by decide +kernel, by decide⟩
theorem miX3_readFrom : MI mX3_readFrom (RK 3) 1 2 := ⟨rfl, tw_1_8, tw_1_9, tw_0_4, tw_1_10, ⟨by decide +kernel, by decide +kernel, by decide +kernel⟩, by decide, by decide +kernel, by decide⟩
theorem miX3_isWed : MI mX3_isWed (RK 3) 1 2 := ⟨rfl, tw_1_26, tw_1_27, tw_0_4, tw_1_28, ⟨by decide +kernel, by decide +kernel, by decide +kernel⟩, by decide, by decide +kernel, by decide⟩
theorem miX3_shorten : MI mX3_shorten (RK 3) 1 2 := ⟨rfl, tw_1_103, tw_1_104, tw_0_4, tw_1_105, ⟨by decide +kernel, by decide +kernel, by decide +kernel⟩, by decide, by decide +kernel, by decide⟩
theorem miX3_hoursBetween : MI mX3_hoursBetween (RK 3) 2 3 := ⟨rfl, tw_1_36, tw_1_37, tw_0_4, tw_1_38, ⟨by decide +kernel, by decide +kernel, by decide +kernel⟩, by decide, by decide +kernel, by decide⟩
theorem miX4_add : MI mX4_add (RK 4) 1 2 := ⟨rfl, tw_0_197, tw_0_198, tw_0_2, tw_0_199, ⟨by decide +kernel, by decide +kernel, by decide +kernel⟩, by decide, by decide +kernel, by decide⟩
theorem miX4_figure : MI mX4_figure (RK 4) 1 2 := ⟨rfl, tw_0_225, tw_0_226, tw_0_2, tw_0_227, ⟨by decide +kernel, by decide +kernel, by decide +kernel⟩, by decide, by decide +kernel, by decide⟩
theorem miX4_firstFault : MI mX4_firstFault (RK 4) 0 1 := ⟨rfl, tw_0_209, tw_0_210, tw_0_2, tw_0_211, ⟨by decide +kernel, by decide +kernel, by decide +kernel⟩, by decide, by decide +kernel, by decide⟩
theorem miX4_fits : MI mX4_fits (RK 4) 1 2 := ⟨rfl, tw_0_214, tw_p_0, tw_0_2, tw_0_215, ⟨by decide +kernel, by decide +kernel, by decide +kernel⟩, by decide, by decide +kernel, by decide⟩
theorem miX4_fitsWedding : MI mX4_fitsWedding (RK 4) 1 2 := ⟨rfl, tw_0_218, tw_p_1, tw_0_2, tw_0_219, ⟨by decide +kernel, by decide +kernel, by decide +kernel⟩, by decide, by decide +kernel, by decide⟩
theorem miX4_isFigure : MI mX4_isFigure (RK 4) 3 4 := ⟨rfl, tw_0_222, tw_p_2, tw_0_2, tw_0_223, ⟨by decide +kernel, by decide +kernel, by decide +kernel⟩, by decide, by decide +kernel, by decide⟩
theorem miX5_write : MI mX5_write (RK 5) 1 2 := ⟨rfl, tw_0_193, tw_0_194, tw_0_1, tw_0_195, ⟨by decide +kernel, by decide +kernel, by decide +kernel⟩, by decide, by decide +kernel, by decide⟩
theorem miX5_wipe : MI mX5_wipe (RK 5) 0 1 := ⟨rfl, tw_0_201, tw_0_202, tw_0_1, tw_0_203, ⟨by decide +kernel, by decide +kernel, by decide +kernel⟩, by decide, by decide +kernel, by decide⟩
theorem miX5_fault : MI mX5_fault (RK 5) 0 1 := ⟨rfl, tw_0_205, tw_0_206, tw_0_1, tw_0_207, ⟨by decide +kernel, by decide +kernel, by decide +kernel⟩, by decide, by decide +kernel, by decide⟩
theorem miX5_parish : MI mX5_parish (RK 5) 0 1 := ⟨rfl, tw_0_232, tw_0_233, tw_0_1, tw_0_234, ⟨by decide +kernel, by decide +kernel, by decide +kernel⟩, by decide, by decide +kernel, by decide⟩
theorem miX5_wedding : MI mX5_wedding (RK 5) 2 3 := ⟨rfl, tw_1_17, tw_1_18, tw_0_1, tw_1_19, ⟨by decide +kernel, by decide +kernel, by decide +kernel⟩, by decide, by decide +kernel, by decide⟩
theorem miX5_road : MI mX5_road (RK 5) 1 2 := ⟨rfl, tw_1_50, tw_1_51, tw_0_1, tw_1_52, ⟨by decide +kernel, by decide +kernel, by decide +kernel⟩, by decide, by decide +kernel, by decide⟩
theorem miX5_way : MI mX5_way (RK 5) 2 3 := ⟨rfl, tw_1_58, tw_1_59, tw_0_1, tw_1_60, ⟨by decide +kernel, by decide +kernel, by decide +kernel⟩, by decide, by decide +kernel, by decide⟩
theorem miX5_wed : MI mX5_wed (RK 5) 1 2 := ⟨rfl, tw_1_66, tw_1_67, tw_0_1, tw_1_68, ⟨by decide +kernel, by decide +kernel, by decide +kernel⟩, by decide, by decide +kernel, by decide⟩
theorem miX5_carry : MI mX5_carry (RK 5) 1 2 := ⟨rfl, tw_1_91, tw_1_92, tw_0_1, tw_1_93, ⟨by decide +kernel, by decide +kernel, by decide +kernel⟩, by decide, by decide +kernel, by decide⟩
theorem miX5_linger : MI mX5_linger (RK 5) 0 1 := ⟨rfl, tw_1_95, tw_1_96, tw_0_1, tw_1_97, ⟨by decide +kernel, by decide +kernel, by decide +kernel⟩, by decide, by decide +kernel, by decide⟩
theorem miX5_mend : MI mX5_mend (RK 5) 1 2 := ⟨rfl, tw_1_99, tw_1_100, tw_0_1, tw_1_101, ⟨by decide +kernel, by decide +kernel, by decide +kernel⟩, by decide, by decide +kernel, by decide⟩
theorem miX5_undo : MI mX5_undo (RK 5) 0 1 := ⟨rfl, tw_1_107, tw_1_108, tw_0_1, tw_1_109, ⟨by decide +kernel, by decide +kernel, by decide +kernel⟩, by decide, by decide +kernel, by decide⟩
theorem miX5_most : MI mX5_most (RK 5) 1 2 := ⟨rfl, tw_1_115, tw_1_116, tw_0_1, tw_1_117, ⟨by decide +kernel, by decide +kernel, by decide +kernel⟩, by decide, by decide +kernel, by decide⟩
theorem miX5_slack : MI mX5_slack (RK 5) 0 1 := ⟨rfl, tw_1_149, tw_1_150, tw_0_1, tw_1_151, ⟨by decide +kernel, by decide +kernel, by decide +kernel⟩, by decide, by decide +kernel, by decide⟩
theorem miX5_mending : MI mX5_mending (RK 5) 1 2 := ⟨rfl, tw_1_158, tw_1_159, tw_0_1, tw_1_160, ⟨by decide +kernel, by decide +kernel, by decide +kernel⟩, by decide, by decide +kernel, by decide⟩
theorem miX5_judge : MI mX5_judge (RK 5) 2 3 := ⟨rfl, tw_1_162, tw_1_163, tw_0_1, tw_1_164, ⟨by decide +kernel, by decide +kernel, by decide +kernel⟩, by decide, by decide +kernel, by decide⟩
theorem miX5_later : MI mX5_later (RK 5) 1 2 := ⟨rfl, tw_1_174, tw_1_175, tw_0_1, tw_1_176, ⟨by decide +kernel, by decide +kernel, by decide +kernel⟩, by decide, by decide +kernel, by decide⟩
theorem miX5_see : MI mX5_see (RK 5) 2 3 := ⟨rfl, tw_1_179, tw_1_180, tw_0_1, tw_1_181, ⟨by decide +kernel, by decide +kernel, by decide +kernel⟩, by decide, by decide +kernel, by decide⟩
theorem miX5_unsee : MI mX5_unsee (RK 5) 0 1 := ⟨rfl, tw_1_183, tw_1_184, tw_0_1, tw_1_185, ⟨by decide +kernel, by decide +kernel, by decide +kernel⟩, by decide, by decide +kernel, by decide⟩
theorem miX5_rows : MI mX5_rows (RK 5) 2 3 := ⟨rfl, tw_1_187, tw_1_188, tw_0_1, tw_1_189, ⟨by decide +kernel, by decide +kernel, by decide +kernel⟩, by decide, by decide +kernel, by decide⟩
theorem miX5_share : MI mX5_share (RK 5) 2 3 := ⟨rfl, tw_1_201, tw_1_202, tw_0_1, tw_1_203, ⟨by decide +kernel, by decide +kernel, by decide +kernel⟩, by decide, by decide +kernel, by decide⟩
theorem miX5_rests : MI mX5_rests (RK 5) 3 4 := ⟨rfl, tw_1_224, tw_1_225, tw_0_1, tw_1_226, ⟨by decide +kernel, by decide +kernel, by decide +kernel⟩, by decide, by decide +kernel, by decide⟩
theorem miX5_falls : MI mX5_falls (RK 5) 4 5 := ⟨rfl, tw_1_236, tw_1_237, tw_0_1, tw_1_238, ⟨by decide +kernel, by decide +kernel, by decide +kernel⟩, by decide, by decide +kernel, by decide⟩
theorem miX5_seed : MI mX5_seed (RK 5) 1 3 := ⟨rfl, tw_2_12, tw_2_13, tw_0_1, tw_2_14, ⟨by decide +kernel, by decide +kernel, by decide +kernel⟩, by decide, by decide +kernel, by decide⟩
theorem miX5_summers : MI mX5_summers (RK 5) 1 2 := ⟨rfl, tw_2_16, tw_2_17, tw_0_1, tw_2_18, ⟨by decide +kernel, by decide +kernel, by decide +kernel⟩, by decide, by decide +kernel, by decide⟩
theorem miX5_keep : MI mX5_keep (RK 5) 1 2 := ⟨rfl, tw_2_22, tw_2_23, tw_0_1, tw_2_24, ⟨by decide +kernel, by decide +kernel, by decide +kernel⟩, by decide, by decide +kernel, by decide⟩
theorem miX5_again : MI mX5_again (RK 5) 1 2 := ⟨rfl, tw_2_30, tw_2_31, tw_0_1, tw_2_32, ⟨by decide +kernel, by decide +kernel, by decide +kernel⟩, by decide, by decide +kernel, by decide⟩
theorem miX5_count : MI mX5_count (RK 5) 1 2 := ⟨rfl, tw_2_34, tw_2_35, tw_0_1, tw_2_36, ⟨by decide +kernel, by decide +kernel, by decide +kernel⟩, by decide, by decide +kernel, by decide⟩
theorem msX5_isChurch : MS mX5_isChurch 1 1 := ⟨tw_1_62, tw_0_1, tw_1_63, ⟨by decide +kernel, by decide +kernel, by decide +kernel⟩, by decide, by decide +kernel, by decide⟩
theorem msX5_isRoad : MS mX5_isRoad 1 1 := ⟨tw_1_54, tw_0_1, tw_1_55, ⟨by decide +kernel, by decide +kernel, by decide +kernel⟩, by decide, by decide +kernel, by decide⟩
theorem miX5_isSlot : MI mX5_isSlot (RK 5) 1 2 := ⟨rfl, tw_2_27, tw_p_13, tw_0_1, tw_2_28, ⟨by decide +kernel, by decide +kernel, by decide +kernel⟩, by decide, by decide +kernel, by decide⟩
theorem msX5_at : MS mX5_at 2 2 := ⟨tw_0_229, tw_0_1, tw_0_230, ⟨by decide +kernel, by decide +kernel, by decide +kernel⟩, by decide, by decide +kernel, by decide⟩
theorem msX5_isRow : MS mX5_isRow 2 2 := ⟨tw_1_166, tw_0_1, tw_1_167, ⟨by decide +kernel, by decide +kernel, by decide +kernel⟩, by decide, by decide +kernel, by decide⟩
theorem msX5_weddingInRow : MS mX5_weddingInRow 3 3 := ⟨tw_1_171, tw_0_1, tw_1_172, ⟨by decide +kernel, by decide +kernel, by decide +kernel⟩, by decide, by decide +kernel, by decide⟩
theorem miX5_holdingNext : MI mX5_holdingNext (RK 5) 0 1 := ⟨rfl, tw_2_39, tw_p_14, tw_0_1, tw_2_40, ⟨by decide +kernel, by decide +kernel, by decide +kernel⟩, by decide, by decide +kernel, by decide⟩
theorem miX5_mostFrom : MI mX5_mostFrom (RK 5) 1 2 := ⟨rfl, tw_1_154, tw_p_6, tw_0_1, tw_1_155, ⟨by decide +kernel, by decide +kernel, by decide +kernel⟩, by decide, by decide +kernel, by decide⟩
theorem msX5_fraction : MS mX5_fraction 3 3 := ⟨tw_1_205, tw_0_1, tw_1_206, ⟨by decide +kernel, by decide +kernel, by decide +kernel⟩, by decide, by decide +kernel, by decide⟩
theorem msX5_greatestDivisor : MS mX5_greatestDivisor 2 2 := ⟨tw_1_208, tw_0_1, tw_1_209, ⟨by decide +kernel, by decide +kernel, by decide +kernel⟩, by decide, by decide +kernel, by decide⟩
theorem miX5_fillMostOf : MI mX5_fillMostOf (RK 5) 0 1 := ⟨rfl, tw_1_212, tw_p_7, tw_0_1, tw_1_213, ⟨by decide +kernel, by decide +kernel, by decide +kernel⟩, by decide, by decide +kernel, by decide⟩
theorem miX5_isAtRest : MI mX5_isAtRest (RK 5) 4 5 := ⟨rfl, tw_1_229, tw_p_8, tw_0_1, tw_1_230, ⟨by decide +kernel, by decide +kernel, by decide +kernel⟩, by decide, by decide +kernel, by decide⟩
theorem miX5_gain : MI mX5_gain (RK 5) 4 5 := ⟨rfl, tw_1_233, tw_p_9, tw_0_1, tw_1_234, ⟨by decide +kernel, by decide +kernel, by decide +kernel⟩, by decide, by decide +kernel, by decide⟩
theorem miX5_isRowOfOpenWeddings : MI mX5_isRowOfOpenWeddings (RK 5) 2 3 := ⟨rfl, tw_2_1, tw_p_10, tw_0_1, tw_2_2, ⟨by decide +kernel, by decide +kernel, by decide +kernel⟩, by decide, by decide +kernel, by decide⟩
theorem miX5_weightOfFalls : MI mX5_weightOfFalls (RK 5) 4 5 := ⟨rfl, tw_2_5, tw_p_11, tw_0_1, tw_2_6, ⟨by decide +kernel, by decide +kernel, by decide +kernel⟩, by decide, by decide +kernel, by decide⟩
theorem miX5_holdsWithFalls : MI mX5_holdsWithFalls (RK 5) 3 4 := ⟨rfl, tw_2_9, tw_p_12, tw_0_1, tw_2_10, ⟨by decide +kernel, by decide +kernel, by decide +kernel⟩, by decide, by decide +kernel, by decide⟩
theorem msX6_in : MS mX6_in 3 6 := ⟨tw_2_117, tw_0_7, tw_2_118, ⟨by decide +kernel, by decide +kernel, by decide +kernel⟩, by decide, by decide +kernel, by decide⟩
theorem msX6_has : MS mX6_has 2 2 := ⟨tw_2_152, tw_0_7, tw_2_153, ⟨by decide +kernel, by decide +kernel, by decide +kernel⟩, by decide, by decide +kernel, by decide⟩
theorem msX6_ones : MS mX6_ones 1 1 := ⟨tw_2_228, tw_0_7, tw_2_229, ⟨by decide +kernel, by decide +kernel, by decide +kernel⟩, by decide, by decide +kernel, by decide⟩
theorem miX6_write : MI mX6_write (RK 6) 1 2 := ⟨rfl, tw_2_112, tw_2_113, tw_0_7, tw_2_114, ⟨by decide +kernel, by decide +kernel, by decide +kernel⟩, by decide, by decide +kernel, by decide⟩
theorem miX6_wipe : MI mX6_wipe (RK 6) 0 1 := ⟨rfl, tw_2_120, tw_2_121, tw_0_7, tw_2_122, ⟨by decide +kernel, by decide +kernel, by decide +kernel⟩, by decide, by decide +kernel, by decide⟩
theorem miX6_mayBe : MI mX6_mayBe (RK 6) 1 2 := ⟨rfl, tw_2_129, tw_p_15, tw_0_7, tw_2_130, ⟨by decide +kernel, by decide +kernel, by decide +kernel⟩, by decide, by decide +kernel, by decide⟩
theorem miX6_fault : MI mX6_fault (RK 6) 0 1 := ⟨rfl, tw_2_124, tw_2_125, tw_0_7, tw_2_126, ⟨by decide +kernel, by decide +kernel, by decide +kernel⟩, by decide, by decide +kernel, by decide⟩
theorem miX6_parish : MI mX6_parish (RK 6) 0 1 := ⟨rfl, tw_2_135, tw_2_136, tw_0_7, tw_2_137, ⟨by decide +kernel, by decide +kernel, by decide +kernel⟩, by decide, by decide +kernel, by decide⟩
theorem miX6_isWedding : MI mX6_isWedding (RK 6) 1 2 := ⟨rfl, tw_2_145, tw_p_16, tw_0_7, tw_2_146, ⟨by decide +kernel, by decide +kernel, by decide +kernel⟩, by decide, by decide +kernel, by decide⟩
theorem msX6_isChurch : MS mX6_isChurch 1 1 := ⟨tw_2_176, tw_0_7, tw_2_177, ⟨by decide +kernel, by decide +kernel, by decide +kernel⟩, by decide, by decide +kernel, by decide⟩
theorem miX6_every : MI mX6_every (RK 6) 0 1 := ⟨rfl, tw_2_217, tw_p_24, tw_0_7, tw_2_218, ⟨by decide +kernel, by decide +kernel, by decide +kernel⟩, by decide, by decide +kernel, by decide⟩
theorem miX6_wayOn : MI mX6_wayOn (RK 6) 3 4 := ⟨rfl, tw_2_160, tw_p_19, tw_0_7, tw_2_161, ⟨by decide +kernel, by decide +kernel, by decide +kernel⟩, by decide, by decide +kernel, by decide⟩
theorem miX6_begins : MI mX6_begins (RK 6) 5 6 := ⟨rfl, tw_2_156, tw_p_18, tw_0_7, tw_2_157, ⟨by decide +kernel, by decide +kernel, by decide +kernel⟩, by decide, by decide +kernel, by decide⟩
theorem miX6_lasts : MI mX6_lasts (RK 6) 1 2 := ⟨rfl, tw_2_164, tw_p_20, tw_0_7, tw_2_165, ⟨by decide +kernel, by decide +kernel, by decide +kernel⟩, by decide, by decide +kernel, by decide⟩
theorem miX6_behind : MI mX6_behind (RK 6) 2 3 := ⟨rfl, tw_2_192, tw_p_23, tw_0_7, tw_2_193, ⟨by decide +kernel, by decide +kernel, by decide +kernel⟩, by decide, by decide +kernel, by decide⟩
theorem miX6_beginsNow : MI mX6_beginsNow (RK 6) 2 3 := ⟨rfl, tw_2_149, tw_p_17, tw_0_7, tw_2_150, ⟨by decide +kernel, by decide +kernel, by decide +kernel⟩, by decide, by decide +kernel, by decide⟩
theorem miX6_wedOn : MI mX6_wedOn (RK 6) 2 3 := ⟨rfl, tw_2_188, tw_p_22, tw_0_7, tw_2_189, ⟨by decide +kernel, by decide +kernel, by decide +kernel⟩, by decide, by decide +kernel, by decide⟩
theorem miX6_wedding : MI mX6_wedding (RK 6) 2 3 := ⟨rfl, tw_2_140, tw_2_141, tw_0_7, tw_2_142, ⟨by decide +kernel, by decide +kernel, by decide +kernel⟩, by decide, by decide +kernel, by decide⟩
theorem miX6_road : MI mX6_road (RK 6) 1 2 := ⟨rfl, tw_2_167, tw_2_168, tw_0_7, tw_2_169, ⟨by decide +kernel, by decide +kernel, by decide +kernel⟩, by decide, by decide +kernel, by decide⟩
theorem miX6_way : MI mX6_way (RK 6) 2 3 := ⟨rfl, tw_2_172, tw_2_173, tw_0_7, tw_2_174, ⟨by decide +kernel, by decide +kernel, by decide +kernel⟩, by decide, by decide +kernel, by decide⟩
theorem miX6_keepAct : MI mX6_keepAct (RK 6) 0 1 := ⟨rfl, tw_2_184, tw_p_21, tw_0_7, tw_2_185, ⟨by decide +kernel, by decide +kernel, by decide +kernel⟩, by decide, by decide +kernel, by decide⟩
theorem miX6_wed : MI mX6_wed (RK 6) 1 2 := ⟨rfl, tw_2_179, tw_2_180, tw_0_7, tw_2_181, ⟨by decide +kernel, by decide +kernel, by decide +kernel⟩, by decide, by decide +kernel, by decide⟩
theorem miX6_carry : MI mX6_carry (RK 6) 1 2 := ⟨rfl, tw_2_195, tw_2_196, tw_0_7, tw_2_197, ⟨by decide +kernel, by decide +kernel, by decide +kernel⟩, by decide, by decide +kernel, by decide⟩
theorem miX6_linger : MI mX6_linger (RK 6) 0 1 := ⟨rfl, tw_2_199, tw_2_200, tw_0_7, tw_2_201, ⟨by decide +kernel, by decide +kernel, by decide +kernel⟩, by decide, by decide +kernel, by decide⟩
theorem miX6_mend : MI mX6_mend (RK 6) 1 2 := ⟨rfl, tw_2_203, tw_2_204, tw_0_7, tw_2_205, ⟨by decide +kernel, by decide +kernel, by decide +kernel⟩, by decide, by decide +kernel, by decide⟩
theorem miX6_undo : MI mX6_undo (RK 6) 0 1 := ⟨rfl, tw_2_207, tw_2_208, tw_0_7, tw_2_209, ⟨by decide +kernel, by decide +kernel, by decide +kernel⟩, by decide, by decide +kernel, by decide⟩
theorem miX6_noteEarlier : MI mX6_noteEarlier (RK 6) 3 4 := ⟨rfl, tw_2_225, tw_p_26, tw_0_7, tw_2_226, ⟨by decide +kernel, by decide +kernel, by decide +kernel⟩, by decide, by decide +kernel, by decide⟩
theorem miX6_mostOn : MI mX6_mostOn (RK 6) 2 3 := ⟨rfl, tw_2_221, tw_p_25, tw_0_7, tw_2_222, ⟨by decide +kernel, by decide +kernel, by decide +kernel⟩, by decide, by decide +kernel, by decide⟩
theorem miX6_endOf : MI mX6_endOf (RK 6) 1 2 := ⟨rfl, tw_3_5, tw_p_30, tw_0_7, tw_3_6, ⟨by decide +kernel, by decide +kernel, by decide +kernel⟩, by decide, by decide +kernel, by decide⟩
theorem miX6_layTrial : MI mX6_layTrial (RK 6) 0 1 := ⟨rfl, tw_3_0, tw_p_29, tw_0_7, tw_3_1, ⟨by decide +kernel, by decide +kernel, by decide +kernel⟩, by decide, by decide +kernel, by decide⟩
theorem miX6_firstRow : MI mX6_firstRow (RK 6) 1 2 := ⟨rfl, tw_2_232, tw_p_27, tw_0_7, tw_2_233, ⟨by decide +kernel, by decide +kernel, by decide +kernel⟩, by decide, by decide +kernel, by decide⟩
theorem miX6_goesOn : MI mX6_goesOn (RK 6) 3 4 := ⟨rfl, tw_2_236, tw_p_28, tw_0_7, tw_2_237, ⟨by decide +kernel, by decide +kernel, by decide +kernel⟩, by decide, by decide +kernel, by decide⟩
theorem miX6_most : MI mX6_most (RK 6) 1 2 := ⟨rfl, tw_2_211, tw_2_212, tw_0_7, tw_2_213, ⟨by decide +kernel, by decide +kernel, by decide +kernel⟩, by decide, by decide +kernel, by decide⟩
theorem miX6_slack : MI mX6_slack (RK 6) 0 1 := ⟨rfl, tw_3_8, tw_3_9, tw_0_7, tw_3_10, ⟨by decide +kernel, by decide +kernel, by decide +kernel⟩, by decide, by decide +kernel, by decide⟩
theorem miX6_mending : MI mX6_mending (RK 6) 1 2 := ⟨rfl, tw_3_12, tw_3_13, tw_0_7, tw_3_14, ⟨by decide +kernel, by decide +kernel, by decide +kernel⟩, by decide, by decide +kernel, by decide⟩
theorem msX6_tenTo : MS mX6_tenTo 1 1 := ⟨tw_3_21, tw_0_7, tw_3_22, ⟨by decide +kernel, by decide +kernel, by decide +kernel⟩, by decide, by decide +kernel, by decide⟩
theorem miX6_judge : MI mX6_judge (RK 6) 2 3 := ⟨rfl, tw_3_16, tw_3_17, tw_0_7, tw_3_18, ⟨by decide +kernel, by decide +kernel, by decide +kernel⟩, by decide, by decide +kernel, by decide⟩
theorem miX6_later : MI mX6_later (RK 6) 1 2 := ⟨rfl, tw_3_24, tw_3_25, tw_0_7, tw_3_26, ⟨by decide +kernel, by decide +kernel, by decide +kernel⟩, by decide, by decide +kernel, by decide⟩
theorem miX6_see : MI mX6_see (RK 6) 2 3 := ⟨rfl, tw_3_28, tw_3_29, tw_0_7, tw_3_30, ⟨by decide +kernel, by decide +kernel, by decide +kernel⟩, by decide, by decide +kernel, by decide⟩
theorem miX6_unsee : MI mX6_unsee (RK 6) 0 1 := ⟨rfl, tw_3_32, tw_3_33, tw_0_7, tw_3_34, ⟨by decide +kernel, by decide +kernel, by decide +kernel⟩, by decide, by decide +kernel, by decide⟩
theorem miX6_isSeen : MI mX6_isSeen (RK 6) 1 2 := ⟨rfl, tw_3_48, tw_p_32, tw_0_7, tw_3_49, ⟨by decide +kernel, by decide +kernel, by decide +kernel⟩, by decide, by decide +kernel, by decide⟩
theorem msX6_rowsOf : MS mX6_rowsOf 2 2 := ⟨tw_3_40, tw_0_7, tw_3_41, ⟨by decide +kernel, by decide +kernel, by decide +kernel⟩, by decide, by decide +kernel, by decide⟩
theorem miX6_rowBy : MI mX6_rowBy (RK 6) 2 3 := ⟨rfl, tw_3_44, tw_p_31, tw_0_7, tw_3_45, ⟨by decide +kernel, by decide +kernel, by decide +kernel⟩, by decide, by decide +kernel, by decide⟩
theorem miX6_rows : MI mX6_rows (RK 6) 2 3 := ⟨rfl, tw_3_36, tw_3_37, tw_0_7, tw_3_38, ⟨by decide +kernel, by decide +kernel, by decide +kernel⟩, by decide, by decide +kernel, by decide⟩
theorem msX6_factorial : MS mX6_factorial 1 1 := ⟨tw_3_55, tw_0_7, tw_3_56, ⟨by decide +kernel, by decide +kernel, by decide +kernel⟩, by decide, by decide +kernel, by decide⟩
theorem msX6_common : MS mX6_common 2 2 := ⟨tw_3_58, tw_0_7, tw_3_59, ⟨by decide +kernel, by decide +kernel, by decide +kernel⟩, by decide, by decide +kernel, by decide⟩
theorem miX6_share : MI mX6_share (RK 6) 2 3 := ⟨rfl, tw_3_51, tw_3_52, tw_0_7, tw_3_53, ⟨by decide +kernel, by decide +kernel, by decide +kernel⟩, by decide, by decide +kernel, by decide⟩
theorem miX6_bringsOf : MI mX6_bringsOf (RK 6) 1 2 := ⟨rfl, tw_3_74, tw_p_35, tw_0_7, tw_3_75, ⟨by decide +kernel, by decide +kernel, by decide +kernel⟩, by decide, by decide +kernel, by decide⟩
theorem miX6_gain : MI mX6_gain (RK 6) 4 5 := ⟨rfl, tw_3_70, tw_p_34, tw_0_7, tw_3_71, ⟨by decide +kernel, by decide +kernel, by decide +kernel⟩, by decide, by decide +kernel, by decide⟩
theorem miX6_isRest : MI mX6_isRest (RK 6) 4 5 := ⟨rfl, tw_3_66, tw_p_33, tw_0_7, tw_3_67, ⟨by decide +kernel, by decide +kernel, by decide +kernel⟩, by decide, by decide +kernel, by decide⟩
theorem miX6_rests : MI mX6_rests (RK 6) 3 4 := ⟨rfl, tw_3_61, tw_3_62, tw_0_7, tw_3_63, ⟨by decide +kernel, by decide +kernel, by decide +kernel⟩, by decide, by decide +kernel, by decide⟩
theorem miX6_areOpen : MI mX6_areOpen (RK 6) 2 3 := ⟨rfl, tw_3_83, tw_p_36, tw_0_7, tw_3_84, ⟨by decide +kernel, by decide +kernel, by decide +kernel⟩, by decide, by decide +kernel, by decide⟩
theorem miX6_holds : MI mX6_holds (RK 6) 3 4 := ⟨rfl, tw_3_94, tw_p_38, tw_0_7, tw_3_95, ⟨by decide +kernel, by decide +kernel, by decide +kernel⟩, by decide, by decide +kernel, by decide⟩
theorem miX6_waysIn : MI mX6_waysIn (RK 6) 2 3 := ⟨rfl, tw_3_87, tw_p_37, tw_0_7, tw_3_88, ⟨by decide +kernel, by decide +kernel, by decide +kernel⟩, by decide, by decide +kernel, by decide⟩
theorem msX6_power : MS mX6_power 2 2 := ⟨tw_3_90, tw_0_7, tw_3_91, ⟨by decide +kernel, by decide +kernel, by decide +kernel⟩, by decide, by decide +kernel, by decide⟩
theorem miX6_falls : MI mX6_falls (RK 6) 4 5 := ⟨rfl, tw_3_77, tw_3_78, tw_0_7, tw_3_79, ⟨by decide +kernel, by decide +kernel, by decide +kernel⟩, by decide, by decide +kernel, by decide⟩
theorem miX6_seed : MI mX6_seed (RK 6) 1 3 := ⟨rfl, tw_3_97, tw_3_98, tw_0_7, tw_3_99, ⟨by decide +kernel, by decide +kernel, by decide +kernel⟩, by decide, by decide +kernel, by decide⟩
theorem miX6_summers : MI mX6_summers (RK 6) 1 2 := ⟨rfl, tw_3_101, tw_3_102, tw_0_7, tw_3_103, ⟨by decide +kernel, by decide +kernel, by decide +kernel⟩, by decide, by decide +kernel, by decide⟩
theorem miX6_keep : MI mX6_keep (RK 6) 1 2 := ⟨rfl, tw_3_109, tw_3_110, tw_0_7, tw_3_111, ⟨by decide +kernel, by decide +kernel, by decide +kernel⟩, by decide, by decide +kernel, by decide⟩
theorem miX6_again : MI mX6_again (RK 6) 1 2 := ⟨rfl, tw_3_113, tw_3_114, tw_0_7, tw_3_115, ⟨by decide +kernel, by decide +kernel, by decide +kernel⟩, by decide, by decide +kernel, by decide⟩
theorem miX6_count : MI mX6_count (RK 6) 1 2 := ⟨rfl, tw_3_117, tw_3_118, tw_0_7, tw_3_119, ⟨by decide +kernel, by decide +kernel, by decide +kernel⟩, by decide, by decide +kernel, by decide⟩
theorem msJ6_bitCount_0f7a4 : MS mJ6_bitCount_0f7a4 1 1 := ⟨tw_1_215, tw_0_9, tw_1_216, ⟨by decide +kernel, by decide +kernel, by decide +kernel⟩, by decide, by decide +kernel, by decide⟩
