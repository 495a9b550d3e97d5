/-! an abstract machine over the shape of heap that stands behind the constructors: refs are (kind, which one); all that changes are ints (and two longs) -/
abbrev AV : Type := Int32 ⊕ Int64 ⊕ Option (Nat × Nat)
abbrev aI (x : Int32) : AV := Sum.inl x
abbrev aL (x : Int64) : AV := Sum.inr (Sum.inl x)
abbrev aR (k i : Nat) : AV := Sum.inr (Sum.inr (some (k, i)))
abbrev aN : AV := Sum.inr (Sum.inr none)
abbrev AM : Type := Nat → Nat → Nat
def cv (al : AM) : AV → Value
  | .inl x => .int x
  | .inr (.inl x) => .long x
  | .inr (.inr (some q)) => .ref (al q.1 q.2)
  | .inr (.inr none) => .null
abbrev Wd : Type := (Nat → Nat → Nat → Int32) × (Nat → Int64)
abbrev XS : Type := Nat × (Nat → Int32)
abbrev MD : Type := MethodName × ByteArray × Nat × Option FieldType
def cntK : Nat → Nat
  | 3 => 19
  | 15 => 19
  | 7 => 0
  | 8 => 0
  | 9 => 0
  | k => if k < 36 then 1 else 0
def lenK (X : XS) : Nat → Nat
  | 10 => 48 | 11 => 30 | 12 => 6 | 13 => 7 | 14 => 64 | 15 => 5 | 16 => 6 | 17 => 6 | 18 => 64 | 19 => 2
  | 20 => 6 | 21 => 6 | 22 => 6 | 23 => 6 | 24 => 6 | 25 => 16 | 26 => 48 | 27 => 112 | 28 => 384 | 29 => 6
  | 30 => 6 | 31 => 64 | 32 => 16 | 33 => 2 | 34 => 2 | 35 => 14 | 40 => 7 | 41 => 7 | 42 => X.1 | _ => 0
def refK : Nat → Nat → Nat → Option (Nat × Nat)
  | 0, _, 0 => some (35, 0)
  | 1, _, 0 => some (11, 0) | 1, _, 1 => some (12, 0)
  | 2, _, 0 => some (3, 2) | 2, _, 1 => some (13, 0) | 2, _, 2 => some (14, 0)
  | 3, i, 0 => some (15, i)
  | 4, _, 0 => some (10, 0)
  | 5, _, 0 => some (4, 0) | 5, _, 1 => some (1, 0) | 5, _, 2 => some (3, 0) | 5, _, 3 => some (3, 1) | 5, _, 4 => some (0, 0) | 5, _, 5 => some (2, 0)
  | 5, _, 6 => some (34, 0) | 5, _, 7 => some (19, 0) | 5, _, 8 => some (16, 0) | 5, _, 9 => some (17, 0) | 5, _, 10 => some (18, 0)
  | 6, _, 2 => some (20, 0) | 6, _, 3 => some (21, 0) | 6, _, 4 => some (22, 0) | 6, _, 5 => some (23, 0) | 6, _, 6 => some (24, 0) | 6, _, 7 => some (25, 0) | 6, _, 8 => some (26, 0)
  | 6, _, 12 => some (27, 0) | 6, _, 13 => some (28, 0) | 6, _, 15 => some (29, 0) | 6, _, 16 => some (30, 0) | 6, _, 17 => some (31, 0) | 6, _, 19 => some (33, 0) | 6, _, 20 => some (32, 0)
  | _, _, _ => none
def lngK (k f : Nat) : Bool := (k == 5 && f == 12) || (k == 6 && f == 18)
def fldA (k i f : Nat) (w : Wd) : AV := match refK k i f with
  | some q => aR q.1 q.2
  | none => if lngK k f = true then aL (w.2 k) else aI (w.1 k i f)
def nFl : Nat → Nat
  | 0 => 3 | 1 => 4 | 2 => 10 | 3 => 4 | 4 => 2 | 5 => 13 | _ => 21
def RK : Nat → String
  | 0 => RX0 | 1 => RX1 | 2 => RX2 | 3 => RX3 | 4 => RX4 | 5 => RX5 | _ => RX6
def TK : Nat → u_T
  | 0 => TX0 | 1 => TX1 | 2 => TX2 | 3 => TX3 | 4 => TX4 | 5 => TX5 | _ => TX6
def tyK : Nat → Nat → FieldType
  | 0 => tyX0 | 1 => tyX1 | 2 => tyX2 | 3 => tyX3 | 4 => tyX4 | 5 => tyX5 | _ => tyX6
def cellA (X : XS) (al : AM) (cI cZ cS : ClassId) (w : Wd) (q : Nat × Nat) : va_E :=
  if q.1 < 7 then .inr (q.1, (List.range (nFl q.1)).map (fun f => cv al (fldA q.1 q.2 f w)))
  else if q.1 = 34 then .inl (cS, 2, .inr (.inr (.inr (.inr (fun j => if j < 2 then some (al 3 (3 + j)) else none)))))
  else if q.1 = 35 then .inl (cS, 14, .inr (.inr (.inr (.inr (fun j => if j < 14 then some (al 3 (5 + j)) else none)))))
  else if q.1 = 19 ∨ q.1 = 33 then .inl (cZ, lenK X q.1, .inl (w.1 q.1 q.2))
  else .inl (cI, lenK X q.1, .inl (w.1 q.1 q.2))
def keysA : List (Nat × Nat) := (List.range 36).flatMap fun k => (List.range (cntK k)).map fun i => (k, i)
def keysN : List Nat := keysA.map fun q => q.1 * 100 + q.2
theorem keys_nd : va_nd keysN = true := by decide +kernel
theorem keys_small : keysA.all (fun q => decide (q.2 < 100)) = true := by decide +kernel
theorem keys_in {k i : Nat} (h : i < cntK k) : ∃ p : Nat, keysA[p]? = some (k, i) := by
  have hk : k < 36 := by
    apply Nat.lt_of_not_le
    intro h36
    unfold cntK at h
    split at h <;> first | omega | (rw [if_neg (by omega)] at h; omega)
  have hm : (k, i) ∈ keysA := List.mem_flatMap.mpr ⟨k, List.mem_range.mpr hk, List.mem_map.mpr ⟨i, List.mem_range.mpr h, rfl⟩⟩
  exact List.getElem?_of_mem hm
theorem keys_inj {a b : Nat} {q : Nat × Nat} (ha : keysA[a]? = some q) (hb : keysA[b]? = some q) : a = b :=
  va_nd_inj keysN keys_nd a b (q.1 * 100 + q.2) (by rw [keysN, List.getElem?_map, ha]; rfl) (by rw [keysN, List.getElem?_map, hb]; rfl)
def wsA (X : XS) (al : AM) (cI cZ cS : ClassId) (w : Wd) : va_W := keysA.map fun q => (al q.1 q.2, cellA X al cI cZ cS w q)
def PA (X : XS) (al : AM) (D : va_G) (cI cZ cS : ClassId) (w : Wd) (H : Heap) : Prop := va_P D vwCl (wsA X al cI cZ cS w) H
def DA (al : AM) (lo : Nat) : Prop := (∀ (a b : Nat) (p q : Nat × Nat), keysA[a]? = some p → keysA[b]? = some q → al p.1 p.2 = al q.1 q.2 → a = b) ∧ ∀ q ∈ keysA, lo ≤ al q.1 q.2
def tensA : Nat → Int32
  | 0 => 1 | 1 => 10 | 2 => 100 | 3 => 1000 | 4 => 10000 | 5 => 100000 | _ => 1000000
def facsA : Nat → Int32
  | 0 => 1 | 1 => 1 | 2 => 2 | 3 => 6 | 4 => 24 | 5 => 120 | _ => 720
/-- the links to 'at' from the classes inside -/
def nestsA : List (String × Nat × MethodName) := [(RX4, 19, yX5_at), (RX3, 25, yX5_at), (RX1, 42, yX5_at), (RX2, 73, yX5_at)]
def EA (X : XS) (al : AM) (D : va_G) (cI cZ cS : ClassId) (lo : Nat) (s : State) : Prop :=
  va_K D vwCl [(cI, .int), (cZ, .boolean), (cS, .object RX3)] s ∧ DA al lo ∧
  (va_T .int (al 40 0) 7 (fun j => .int (tensA j)) (fun q => lo ≤ q) s s.heap ∧ va_T .int (al 41 0) 7 (fun j => .int (facsA j)) (fun q => lo ≤ q) s s.heap ∧ va_T .int (al 42 0) X.1 (fun j => .int (X.2 j)) (fun q => lo ≤ q) s s.heap) ∧
  va_Z RX5 "TENS" "[I" (.ref (al 40 0)) (fun q => lo ≤ q) s s.heap ∧ va_Z RX5 "FACTORIALS" "[I" (.ref (al 41 0)) (fun q => lo ≤ q) s s.heap ∧ ∀ q ∈ nestsA, va_Nw (.methodLinkNest q.1 q.2.1 q.2.2 RX5) s
def CT (d : Nat) (M : MD) (p : Program) (R : Room) (s : State) (m : MethodId) (args : Array Value) (meth : Method) (c : Code) : Prop :=
  p.tables.exec = Jvm.exec ∧ c.code = M.2.1 ∧ c.maxLocals = M.2.2.1 ∧ s.vm.findClass M.1.cls = some m.cls ∧ (∀ w ∈ TT, w.before args s = true) ∧ meth.locks = false ∧ meth.sig.returnType = M.2.2.2 ∧ d ≤ R.frames ∧ 40 * d ≤ R.locals
def LA (al : AM) (la : Array Slot) (n : Nat) (ls : List (Option AV)) : Prop := la.size = n ∧ lv_wf la ∧ ∀ (i : Nat) (a : AV), ls[i]? = some (some a) → la[i]? = some (.val (cv al a))
def RI (M : MD) (pc : Nat) (r : Option AV) : Prop := match r with
  | none => decode M.2.1 pc = .ok (.return_, 1) ∧ M.2.2.2 = none
  | some (.inl x) => decode M.2.1 pc = .ok (.ireturn, 1) ∧ ∃ ty, M.2.2.2 = some ty ∧ narrow ty (.int x) = .int x
  | some (.inr (.inl _)) => decode M.2.1 pc = .ok (.lreturn, 1) ∧ M.2.2.2 = some .long
  | some (.inr (.inr _)) => decode M.2.1 pc = .ok (.areturn, 1) ∧ ∃ rt, M.2.2.2 = some rt ∧ ((∃ n, rt = .object n) ∨ ∃ t, rt = .array t)
/-- from here (a place in a method, its variables, its stack, the world) the method comes to its end, with an answer and a world that Q holds of; d: so many calls may stand open in it -/
def AW (d : Nat) (X : XS) (M : MD) (pc : Nat) (ls : List (Option AV)) (st : List AV) (w : Wd) (Q : Option AV → Wd → Prop) : Prop :=
  ∀ (al : AM) (D : va_G) (cI cZ cS : ClassId) (lo : Nat) (p : Program) (l : Launch) (e : Env) (R : Room) (s : State) (m : MethodId) (args : Array Value) (below : List Frame) (meth : Method) (c : Code) (H : Heap) (locs : List Loc) (cells slots : Nat) (la : Array Slot) (Z : State → Prop),
    CT d M p R s m args meth c → EA X al D cI cZ cS lo s → cells ≤ R.cells → slots ≤ R.slots → PA X al D cI cZ cS w H → va_S (fun q => lo ≤ q) s.heap H locs → LA al la M.2.2.1 ls →
    (∀ (r : Option AV) (w' : Wd) (H' : Heap) (locs' : List Loc) (la' : Array Slot) (pc' : Nat), Q r w' → RI M pc' r → PA X al D cI cZ cS w' H' → va_S (fun q => lo ≤ q) s.heap H' locs' → W p l e R s m args below meth c H' locs' cells slots Z (F0 m pc' la' (r.toList.map (cv al)))) →
    W p l e R s m args below meth c H locs cells slots Z (F0 m pc la (st.map (cv al)))
/-! the world's cells, by key -/
theorem wsA_at {X : XS} {al : AM} {cI cZ cS : ClassId} {w : Wd} {p : Nat} {q : Nat × Nat} (h : keysA[p]? = some q) : (wsA X al cI cZ cS w)[p]? = some (al q.1 q.2, cellA X al cI cZ cS w q) := by
  rw [wsA, List.getElem?_map, h]; rfl
theorem wsA_set {X : XS} {al : AM} {cI cZ cS : ClassId} {w w' : Wd} {p : Nat} {q : Nat × Nat} (h : keysA[p]? = some q) (hw : ∀ q' ∈ keysA, q' ≠ q → cellA X al cI cZ cS w' q' = cellA X al cI cZ cS w q') : (wsA X al cI cZ cS w).set p (al q.1 q.2, cellA X al cI cZ cS w' q) = wsA X al cI cZ cS w' := by
  apply List.ext_getElem?
  intro n
  by_cases hn : n = p
  · subst hn
    have hl : n < (wsA X al cI cZ cS w).length := by rw [wsA, List.length_map]; exact (List.getElem?_eq_some_iff.mp h).1
    rw [List.getElem?_set_self hl, wsA_at h]
  · rw [List.getElem?_set_ne (Ne.symm hn), wsA, wsA, List.getElem?_map, List.getElem?_map]
    cases hk : keysA[n]? with
    | none => rfl
    | some q' =>
      have hq : q' ≠ q := fun z => hn (keys_inj (z ▸ hk) h)
      simp only [Option.map_some, hw q' (List.mem_of_getElem? hk) hq]
theorem wsA_D {X : XS} {al : AM} {cI cZ cS : ClassId} {w : Wd} {lo : Nat} (h : DA al lo) : va_D (fun q => lo ≤ q) (wsA X al cI cZ cS w) := by
  refine ⟨fun i j p q hi hj hpq => ?_, fun k q hk => ?_⟩
  · rw [wsA, List.getElem?_map] at hi hj
    cases hi' : keysA[i]? with
    | none => rw [hi'] at hi; cases hi
    | some a =>
      cases hj' : keysA[j]? with
      | none => rw [hj'] at hj; cases hj
      | some b =>
        rw [hi'] at hi; rw [hj'] at hj
        cases hi; cases hj
        exact h.1 i j a b hi' hj' hpq
  · rw [wsA, List.getElem?_map] at hk
    cases hk' : keysA[k]? with
    | none => rw [hk'] at hk; cases hk
    | some a =>
      rw [hk'] at hk
      cases hk
      exact h.2 a (List.mem_of_getElem? hk')
/-- one int of the world, anew -/
def wS (w : Wd) (k i j : Nat) (x : Int32) : Wd := (fun k' i' => if k' = k ∧ i' = i then (fun j' => if j' = j then x else w.1 k i j') else w.1 k' i', w.2)
def wL (w : Wd) (k : Nat) (x : Int64) : Wd := (w.1, fun k' => if k' = k then x else w.2 k')
theorem wS_same {w : Wd} {k i j : Nat} {x : Int32} : (wS w k i j x).1 k i = fun j' => if j' = j then x else w.1 k i j' := by simp [wS]
theorem wS_off {w : Wd} {k i j : Nat} {x : Int32} {k' i' : Nat} (h : ¬ (k' = k ∧ i' = i)) : (wS w k i j x).1 k' i' = w.1 k' i' := by simp only [wS, if_neg h]
theorem vw_at : ∀ k, k < 7 → vwCl[k]? = some (RK k, TK k, nFl k)
  | 0, _ => rfl | 1, _ => rfl | 2, _ => rfl | 3, _ => rfl | 4, _ => rfl | 5, _ => rfl | 6, _ => rfl
  | n + 7, h => absurd h (by omega)
theorem inl_at : ∀ k, k < 7 → ∀ w ∈ u_ws (RK k) (TK k) (nFl k), w ∈ TT
  | 0, _ => inl_X0 | 1, _ => inl_X1 | 2, _ => inl_X2 | 3, _ => inl_X3 | 4, _ => inl_X4 | 5, _ => inl_X5 | 6, _ => inl_X6
  | n + 7, h => absurd h (by omega)
theorem ty_at : ∀ k, k < 7 → ∀ f, f < nFl k → parseFieldDescriptor (TK k f).2.2.1 = some (tyK k f)
  | 0, _ => tyX0_ok | 1, _ => tyX1_ok | 2, _ => tyX2_ok | 3, _ => tyX3_ok | 4, _ => tyX4_ok | 5, _ => tyX5_ok | 6, _ => tyX6_ok
  | n + 7, h => absurd h (by omega)
theorem nm_at : ∀ k, k < 7 → ∀ a, a < nFl k → ∀ b, b < nFl k → a ≠ b → (TK k a).2.1 ≠ (TK k b).2.1
  | 0, _ => nmX0 | 1, _ => nmX1 | 2, _ => nmX2 | 3, _ => nmX3 | 4, _ => nmX4 | 5, _ => nmX5 | 6, _ => nmX6
  | n + 7, h => absurd h (by omega)
theorem k_lt {k i : Nat} (h : i < cntK k) : k < 36 := by
  apply Nat.lt_of_not_le
  intro h36
  unfold cntK at h
  split at h <;> first | omega | (rw [if_neg (by omega)] at h; omega)
theorem cellA_obj {X : XS} {al : AM} {cI cZ cS : ClassId} {w : Wd} {k i : Nat} (hk : k < 7) : cellA X al cI cZ cS w (k, i) = .inr (k, (List.range (nFl k)).map (fun f => cv al (fldA k i f w))) := by
  unfold cellA; rw [if_pos hk]
/-- arrays of ints (and of booleans) among the kinds -/
def intK (k : Nat) : Bool := decide (10 ≤ k) && decide (k < 34) && !(k == 19) && !(k == 33)
def bolK (k : Nat) : Bool := k == 19 || k == 33
theorem cellA_int {X : XS} {al : AM} {cI cZ cS : ClassId} {w : Wd} {k i : Nat} (hk : intK k = true) : cellA X al cI cZ cS w (k, i) = .inl (cI, lenK X k, .inl (w.1 k i)) := by
  simp only [intK, Bool.and_eq_true, decide_eq_true_eq, Bool.not_eq_true', beq_eq_false_iff_ne, ne_eq] at hk
  obtain ⟨⟨⟨h1, h2⟩, h3⟩, h4⟩ := hk
  unfold cellA
  rw [if_neg (by show ¬ k < 7; omega), if_neg (by show ¬ k = 34; omega), if_neg (by show ¬ k = 35; omega), if_neg (by show ¬ (k = 19 ∨ k = 33); omega)]
theorem cellA_bol {X : XS} {al : AM} {cI cZ cS : ClassId} {w : Wd} {k i : Nat} (hk : bolK k = true) : cellA X al cI cZ cS w (k, i) = .inl (cZ, lenK X k, .inl (w.1 k i)) := by
  simp only [bolK, Bool.or_eq_true, beq_iff_eq] at hk
  unfold cellA
  rw [if_neg (by show ¬ k < 7; omega), if_neg (by show ¬ k = 34; omega), if_neg (by show ¬ k = 35; omega), if_pos (by show k = 19 ∨ k = 33; omega)]
/-- a cell whose ints and long stay -/
theorem cellA_off {X : XS} {al : AM} {cI cZ cS : ClassId} {w w' : Wd} {q : Nat × Nat} (hI : w'.1 q.1 q.2 = w.1 q.1 q.2) (hL : w'.2 q.1 = w.2 q.1) : cellA X al cI cZ cS w' q = cellA X al cI cZ cS w q := by
  unfold cellA
  simp only [hI]
  have hf : ∀ f, fldA q.1 q.2 f w' = fldA q.1 q.2 f w := fun f => by
    unfold fldA
    cases refK q.1 q.2 f with
    | some _ => rfl
    | none => simp only [hI, hL]
  simp only [hf]
theorem keys_lt {q : Nat × Nat} (h : q ∈ keysA) : q.2 < cntK q.1 := by
  obtain ⟨k, -, h2⟩ := List.mem_flatMap.mp h
  obtain ⟨i, h3, rfl⟩ := List.mem_map.mp h2
  exact List.mem_range.mp h3
/-! locals -/
def ascA (al : AM) (ls : List (Option AV)) : List (Nat × Value) := (List.range ls.length).filterMap fun j => match ls[j]? with
  | some (some a) => some (j, cv al a)
  | _ => none
theorem ascA_mem {al : AM} {ls : List (Option AV)} {j : Nat} {v : Value} : (j, v) ∈ ascA al ls ↔ ∃ a, ls[j]? = some (some a) ∧ v = cv al a := by
  unfold ascA
  constructor
  · intro h
    obtain ⟨j', -, h2⟩ := List.mem_filterMap.mp h
    split at h2
    next a ha => cases h2; exact ⟨a, ha, rfl⟩
    next => cases h2
  · rintro ⟨a, h, rfl⟩
    refine List.mem_filterMap.mpr ⟨j, List.mem_range.mpr (List.getElem?_eq_some_iff.mp h).1, ?_⟩
    rw [h]
theorem LA.has {al : AM} {la : Array Slot} {n : Nat} {ls : List (Option AV)} (h : LA al la n ls) : lv_has la n (ascA al ls) := ⟨h.1, h.2.1, fun q hq => by
  obtain ⟨a, h1, h2⟩ := ascA_mem.mp (show (q.1, q.2) ∈ ascA al ls from hq)
  rw [h2]; exact h.2.2 _ _ h1⟩
theorem LA.at {al : AM} {la : Array Slot} {n : Nat} {ls : List (Option AV)} (h : LA al la n ls) {i : Nat} {a : AV} (hi : ls[i]? = some (some a)) : la[i]? = some (.val (cv al a)) := h.2.2 i a hi
/-- no long ends at this place -/
def nlL (ls : List (Option AV)) : Nat → Bool
  | 0 => true
  | i + 1 => match ls[i]? with
    | some (some (.inr (.inl _))) => false
    | _ => true
theorem cv_cat {al : AM} {a : AV} : (cv al a).category = 2 → ∃ x, a = aL x := by
  intro h
  match a, h with
  | .inl _, h => exact absurd h (by show ¬ (1 : Nat) = 2; omega)
  | .inr (.inl x), _ => exact ⟨x, rfl⟩
  | .inr (.inr (some _)), h => exact absurd h (by show ¬ (1 : Nat) = 2; omega)
  | .inr (.inr none), h => exact absurd h (by show ¬ (1 : Nat) = 2; omega)
theorem LA.put {al : AM} {la' : Array Slot} {n i : Nat} {ls : List (Option AV)} {v : AV} (hl : nlL ls i = true) (h : lv_has la' n ((i, cv al v) :: (ascA al ls).filter (fun q => !(q.1 == i) && !(q.1 + 1 == i && q.2.category == 2)))) : LA al la' n (ls.set i (some v)) := by
  refine ⟨h.1, h.2.1, fun j a hj => ?_⟩
  by_cases hji : j = i
  · subst hji
    have hlt := (List.getElem?_eq_some_iff.mp hj).1
    rw [List.length_set] at hlt
    rw [List.getElem?_set_self hlt] at hj
    cases hj
    exact h.2.2 (j, cv al v) List.mem_cons_self
  · rw [List.getElem?_set_ne (Ne.symm hji)] at hj
    refine h.2.2 (j, cv al a) (List.mem_cons_of_mem _ (List.mem_filter.mpr ⟨ascA_mem.mpr ⟨a, hj, rfl⟩, ?_⟩))
    simp only [Bool.and_eq_true, Bool.not_eq_true', beq_eq_false_iff_ne, ne_eq, Bool.and_eq_false_iff]
    refine ⟨hji, ?_⟩
    by_cases hj1 : j + 1 = i
    · refine Or.inr (fun hc => ?_)
      obtain ⟨x, rfl⟩ := cv_cat hc
      subst hj1
      simp only [nlL, hj] at hl
      cases hl
    · exact Or.inl hj1
theorem LA.put2 {al : AM} {la' : Array Slot} {n i : Nat} {ls : List (Option AV)} {x : Int64} (hl : nlL ls i = true) (h : lv_has la' n ((i, Value.long x) :: (ascA al ls).filter (fun q => !(q.1 == i) && (!(q.1 == i + 1) && !(q.1 + 1 == i && q.2.category == 2))))) : LA al la' n ((ls.set i (some (aL x))).set (i + 1) none) := by
  refine ⟨h.1, h.2.1, fun j a hj => ?_⟩
  by_cases hj2 : j = i + 1
  · subst hj2
    have hlt := (List.getElem?_eq_some_iff.mp hj).1
    rw [List.length_set] at hlt
    rw [List.getElem?_set_self hlt] at hj
    cases hj
  · rw [List.getElem?_set_ne (Ne.symm hj2)] at hj
    by_cases hji : j = i
    · subst hji
      have hlt := (List.getElem?_eq_some_iff.mp hj).1
      rw [List.length_set] at hlt
      rw [List.getElem?_set_self hlt] at hj
      cases hj
      exact h.2.2 (j, .long x) List.mem_cons_self
    · rw [List.getElem?_set_ne (Ne.symm hji)] at hj
      refine h.2.2 (j, cv al a) (List.mem_cons_of_mem _ (List.mem_filter.mpr ⟨ascA_mem.mpr ⟨a, hj, rfl⟩, ?_⟩))
      simp only [Bool.and_eq_true, Bool.not_eq_true', beq_eq_false_iff_ne, ne_eq, Bool.and_eq_false_iff]
      refine ⟨hji, hj2, ?_⟩
      by_cases hj1 : j + 1 = i
      · refine Or.inr (fun hc => ?_)
        obtain ⟨x, rfl⟩ := cv_cat hc
        subst hj1
        simp only [nlL, hj] at hl
        cases hl
      · exact Or.inl hj1

section AWR
variable {d : Nat} {X : XS} {M : MD} {pc pc' : Nat} {ls : List (Option AV)} {st : List AV} {w : Wd} {Q : Option AV → Wd → Prop}
theorem aw_iconst {n : Int} {v : Int32} (h : decode M.2.1 pc = .ok (.iconst n, 1) ∧ pc + 1 = pc') (hv : Int32.ofInt n = v) (K : AW d X M pc' ls (aI v :: st) w Q) : AW d X M pc ls (st) w Q := by
  intro al D cI cZ cS lo p l e R s m args below meth c H locs cells slots la Z hC hE hce hsl hP hS hl hZ
  obtain ⟨hx, hb, hml, hown, hts, hlk, hrt, hdf, hdl⟩ := id hC
  obtain ⟨hd, rfl⟩ := h
  exact lv_iconst hx hb hd hv (K al D cI cZ cS lo p l e R s m args below meth c H locs cells slots la Z hC hE hce hsl hP hS hl hZ)
theorem aw_bipush {n : Int} {v : Int32} (h : decode M.2.1 pc = .ok (.bipush n, 2) ∧ pc + 2 = pc') (hv : (Int8.ofInt n).toInt32 = v) (K : AW d X M pc' ls (aI v :: st) w Q) : AW d X M pc ls (st) w Q := by
  intro al D cI cZ cS lo p l e R s m args below meth c H locs cells slots la Z hC hE hce hsl hP hS hl hZ
  obtain ⟨hx, hb, hml, hown, hts, hlk, hrt, hdf, hdl⟩ := id hC
  obtain ⟨hd, rfl⟩ := h
  exact lv_bipush hx hb hd hv (K al D cI cZ cS lo p l e R s m args below meth c H locs cells slots la Z hC hE hce hsl hP hS hl hZ)
theorem aw_sipush {n : Int} {v : Int32} (h : decode M.2.1 pc = .ok (.sipush n, 3) ∧ pc + 3 = pc') (hv : (Int16.ofInt n).toInt32 = v) (K : AW d X M pc' ls (aI v :: st) w Q) : AW d X M pc ls (st) w Q := by
  intro al D cI cZ cS lo p l e R s m args below meth c H locs cells slots la Z hC hE hce hsl hP hS hl hZ
  obtain ⟨hx, hb, hml, hown, hts, hlk, hrt, hdf, hdl⟩ := id hC
  obtain ⟨hd, rfl⟩ := h
  exact lv_sipush hx hb hd hv (K al D cI cZ cS lo p l e R s m args below meth c H locs cells slots la Z hC hE hce hsl hP hS hl hZ)
theorem aw_lconst {n : Fin 2} {v : Int64} (h : decode M.2.1 pc = .ok (.lconst n, 1) ∧ pc + 1 = pc') (hv : Int64.ofNat (n : Nat) = v) (K : AW d X M pc' ls (aL v :: st) w Q) : AW d X M pc ls (st) w Q := by
  intro al D cI cZ cS lo p l e R s m args below meth c H locs cells slots la Z hC hE hce hsl hP hS hl hZ
  obtain ⟨hx, hb, hml, hown, hts, hlk, hrt, hdf, hdl⟩ := id hC
  obtain ⟨hd, rfl⟩ := h
  exact lv_lconst hx hb hd hv (K al D cI cZ cS lo p l e R s m args below meth c H locs cells slots la Z hC hE hce hsl hP hS hl hZ)
theorem aw_null  (h : decode M.2.1 pc = .ok (.aconst_null, 1) ∧ pc + 1 = pc') (K : AW d X M pc' ls (aN :: st) w Q) : AW d X M pc ls (st) w Q := by
  intro al D cI cZ cS lo p l e R s m args below meth c H locs cells slots la Z hC hE hce hsl hP hS hl hZ
  obtain ⟨hx, hb, hml, hown, hts, hlk, hrt, hdf, hdl⟩ := id hC
  obtain ⟨hd, rfl⟩ := h
  exact lv_null hx hb hd  (K al D cI cZ cS lo p l e R s m args below meth c H locs cells slots la Z hC hE hce hsl hP hS hl hZ)
theorem aw_iload_n {k : Fin 4} {x : Int32} (h : decode M.2.1 pc = .ok (.iload_n k, 1) ∧ pc + 1 = pc') (hl0 : ls[(k : Nat)]? = some (some (aI x))) (K : AW d X M pc' ls (aI x :: st) w Q) : AW d X M pc ls (st) w Q := by
  intro al D cI cZ cS lo p l e R s m args below meth c H locs cells slots la Z hC hE hce hsl hP hS hl hZ
  obtain ⟨hx, hb, hml, hown, hts, hlk, hrt, hdf, hdl⟩ := id hC
  obtain ⟨hd, rfl⟩ := h
  exact lv_iload_n hx hb hd rfl (hl.at hl0) (K al D cI cZ cS lo p l e R s m args below meth c H locs cells slots la Z hC hE hce hsl hP hS hl hZ)
theorem aw_iload {i : Nat} {x : Int32} (h : decode M.2.1 pc = .ok (.iload i, 2) ∧ pc + 2 = pc') (hl0 : ls[i]? = some (some (aI x))) (K : AW d X M pc' ls (aI x :: st) w Q) : AW d X M pc ls (st) w Q := by
  intro al D cI cZ cS lo p l e R s m args below meth c H locs cells slots la Z hC hE hce hsl hP hS hl hZ
  obtain ⟨hx, hb, hml, hown, hts, hlk, hrt, hdf, hdl⟩ := id hC
  obtain ⟨hd, rfl⟩ := h
  exact lv_iload hx hb hd (hl.at hl0) (K al D cI cZ cS lo p l e R s m args below meth c H locs cells slots la Z hC hE hce hsl hP hS hl hZ)
theorem aw_lload_n {k : Fin 4} {x : Int64} (h : decode M.2.1 pc = .ok (.lload_n k, 1) ∧ pc + 1 = pc') (hl0 : ls[(k : Nat)]? = some (some (aL x))) (K : AW d X M pc' ls (aL x :: st) w Q) : AW d X M pc ls (st) w Q := by
  intro al D cI cZ cS lo p l e R s m args below meth c H locs cells slots la Z hC hE hce hsl hP hS hl hZ
  obtain ⟨hx, hb, hml, hown, hts, hlk, hrt, hdf, hdl⟩ := id hC
  obtain ⟨hd, rfl⟩ := h
  exact lv_lload_n hx hb hd rfl (hl.at hl0) (K al D cI cZ cS lo p l e R s m args below meth c H locs cells slots la Z hC hE hce hsl hP hS hl hZ)
theorem aw_lload {i : Nat} {x : Int64} (h : decode M.2.1 pc = .ok (.lload i, 2) ∧ pc + 2 = pc') (hl0 : ls[i]? = some (some (aL x))) (K : AW d X M pc' ls (aL x :: st) w Q) : AW d X M pc ls (st) w Q := by
  intro al D cI cZ cS lo p l e R s m args below meth c H locs cells slots la Z hC hE hce hsl hP hS hl hZ
  obtain ⟨hx, hb, hml, hown, hts, hlk, hrt, hdf, hdl⟩ := id hC
  obtain ⟨hd, rfl⟩ := h
  exact lv_lload hx hb hd (hl.at hl0) (K al D cI cZ cS lo p l e R s m args below meth c H locs cells slots la Z hC hE hce hsl hP hS hl hZ)
theorem aw_aload_n {k : Fin 4} {a b : Nat} (h : decode M.2.1 pc = .ok (.aload_n k, 1) ∧ pc + 1 = pc') (hl0 : ls[(k : Nat)]? = some (some (aR a b))) (K : AW d X M pc' ls (aR a b :: st) w Q) : AW d X M pc ls (st) w Q := by
  intro al D cI cZ cS lo p l e R s m args below meth c H locs cells slots la Z hC hE hce hsl hP hS hl hZ
  obtain ⟨hx, hb, hml, hown, hts, hlk, hrt, hdf, hdl⟩ := id hC
  obtain ⟨hd, rfl⟩ := h
  exact lv_aload_n hx hb hd rfl (hl.at hl0) (K al D cI cZ cS lo p l e R s m args below meth c H locs cells slots la Z hC hE hce hsl hP hS hl hZ)
theorem aw_istore_n {k : Fin 4} {x : Int32} (h : decode M.2.1 pc = .ok (.istore_n k, 1) ∧ pc + 1 = pc') (hn : (k : Nat) < M.2.2.1) (hnl : nlL ls (k : Nat) = true) (K : AW d X M pc' (ls.set (k : Nat) (some (aI x))) st w Q) : AW d X M pc ls (aI x :: st) w Q := by
  intro al D cI cZ cS lo p l e R s m args below meth c H locs cells slots la Z hC hE hce hsl hP hS hl hZ
  obtain ⟨hx, hb, hml, hown, hts, hlk, hrt, hdf, hdl⟩ := id hC
  obtain ⟨hd, rfl⟩ := h
  exact lv_istore_n hx hb hd rfl hl.has hn rfl (fun la' hl' => K al D cI cZ cS lo p l e R s m args below meth c H locs cells slots la' Z hC hE hce hsl hP hS (LA.put hnl hl') hZ)
theorem aw_istore {i : Nat} {x : Int32} (h : decode M.2.1 pc = .ok (.istore i, 2) ∧ pc + 2 = pc') (hn : i < M.2.2.1) (hnl : nlL ls i = true) (K : AW d X M pc' (ls.set i (some (aI x))) st w Q) : AW d X M pc ls (aI x :: st) w Q := by
  intro al D cI cZ cS lo p l e R s m args below meth c H locs cells slots la Z hC hE hce hsl hP hS hl hZ
  obtain ⟨hx, hb, hml, hown, hts, hlk, hrt, hdf, hdl⟩ := id hC
  obtain ⟨hd, rfl⟩ := h
  exact lv_istore hx hb hd hl.has hn rfl (fun la' hl' => K al D cI cZ cS lo p l e R s m args below meth c H locs cells slots la' Z hC hE hce hsl hP hS (LA.put hnl hl') hZ)
theorem aw_lstore_n {k : Fin 4} {x : Int64} (h : decode M.2.1 pc = .ok (.lstore_n k, 1) ∧ pc + 1 = pc') (hn : (k : Nat) + 1 < M.2.2.1) (hnl : nlL ls (k : Nat) = true) (K : AW d X M pc' ((ls.set (k : Nat) (some (aL x))).set ((k : Nat) + 1) none) st w Q) : AW d X M pc ls (aL x :: st) w Q := by
  intro al D cI cZ cS lo p l e R s m args below meth c H locs cells slots la Z hC hE hce hsl hP hS hl hZ
  obtain ⟨hx, hb, hml, hown, hts, hlk, hrt, hdf, hdl⟩ := id hC
  obtain ⟨hd, rfl⟩ := h
  exact lv_lstore_n hx hb hd rfl hl.has hn rfl (fun la' hl' => K al D cI cZ cS lo p l e R s m args below meth c H locs cells slots la' Z hC hE hce hsl hP hS (LA.put2 hnl hl') hZ)
theorem aw_astore_n {k : Fin 4} {a b : Nat} (h : decode M.2.1 pc = .ok (.astore_n k, 1) ∧ pc + 1 = pc') (hn : (k : Nat) < M.2.2.1) (hnl : nlL ls (k : Nat) = true) (K : AW d X M pc' (ls.set (k : Nat) (some (aR a b))) st w Q) : AW d X M pc ls (aR a b :: st) w Q := by
  intro al D cI cZ cS lo p l e R s m args below meth c H locs cells slots la Z hC hE hce hsl hP hS hl hZ
  obtain ⟨hx, hb, hml, hown, hts, hlk, hrt, hdf, hdl⟩ := id hC
  obtain ⟨hd, rfl⟩ := h
  exact lv_astore_n hx hb hd rfl hl.has hn rfl (fun la' hl' => K al D cI cZ cS lo p l e R s m args below meth c H locs cells slots la' Z hC hE hce hsl hP hS (LA.put hnl hl') hZ)
theorem aw_iinc {i : Nat} {n : Int} {x v : Int32} (h : decode M.2.1 pc = .ok (.iinc i n, 3) ∧ pc + 3 = pc') (hl0 : ls[i]? = some (some (aI x))) (hv : x + Int32.ofInt n = v) (hn : i < M.2.2.1) (hnl : nlL ls i = true) (K : AW d X M pc' (ls.set i (some (aI v))) st w Q) : AW d X M pc ls st w Q := by
  intro al D cI cZ cS lo p l e R s m args below meth c H locs cells slots la Z hC hE hce hsl hP hS hl hZ
  obtain ⟨hx, hb, hml, hown, hts, hlk, hrt, hdf, hdl⟩ := id hC
  obtain ⟨hd, rfl⟩ := h
  have hmem : (i, Value.int x) ∈ ascA al ls := ascA_mem.mpr ⟨aI x, hl0, rfl⟩
  obtain ⟨k, hk⟩ := List.getElem?_of_mem hmem
  exact lv_iinc hx hb hd hl.has hk hv hn rfl (fun la' hl' => K al D cI cZ cS lo p l e R s m args below meth c H locs cells slots la' Z hC hE hce hsl hP hS (LA.put hnl hl') hZ)
theorem aw_iadd {x y : Int32} (h : decode M.2.1 pc = .ok (.iadd, 1) ∧ pc + 1 = pc') (K : AW d X M pc' ls (aI (x + y) :: st) w Q) : AW d X M pc ls (aI y :: aI x :: st) w Q := by
  intro al D cI cZ cS lo p l e R s m args below meth c H locs cells slots la Z hC hE hce hsl hP hS hl hZ
  obtain ⟨hx, hb, hml, hown, hts, hlk, hrt, hdf, hdl⟩ := id hC
  obtain ⟨hd, rfl⟩ := h
  exact lv_iadd hx hb hd  (K al D cI cZ cS lo p l e R s m args below meth c H locs cells slots la Z hC hE hce hsl hP hS hl hZ)
theorem aw_isub {x y : Int32} (h : decode M.2.1 pc = .ok (.isub, 1) ∧ pc + 1 = pc') (K : AW d X M pc' ls (aI (x - y) :: st) w Q) : AW d X M pc ls (aI y :: aI x :: st) w Q := by
  intro al D cI cZ cS lo p l e R s m args below meth c H locs cells slots la Z hC hE hce hsl hP hS hl hZ
  obtain ⟨hx, hb, hml, hown, hts, hlk, hrt, hdf, hdl⟩ := id hC
  obtain ⟨hd, rfl⟩ := h
  exact lv_isub hx hb hd  (K al D cI cZ cS lo p l e R s m args below meth c H locs cells slots la Z hC hE hce hsl hP hS hl hZ)
theorem aw_imul {x y : Int32} (h : decode M.2.1 pc = .ok (.imul, 1) ∧ pc + 1 = pc') (K : AW d X M pc' ls (aI (x * y) :: st) w Q) : AW d X M pc ls (aI y :: aI x :: st) w Q := by
  intro al D cI cZ cS lo p l e R s m args below meth c H locs cells slots la Z hC hE hce hsl hP hS hl hZ
  obtain ⟨hx, hb, hml, hown, hts, hlk, hrt, hdf, hdl⟩ := id hC
  obtain ⟨hd, rfl⟩ := h
  exact lv_imul hx hb hd  (K al D cI cZ cS lo p l e R s m args below meth c H locs cells slots la Z hC hE hce hsl hP hS hl hZ)
theorem aw_iand {x y : Int32} (h : decode M.2.1 pc = .ok (.iand, 1) ∧ pc + 1 = pc') (K : AW d X M pc' ls (aI (x &&& y) :: st) w Q) : AW d X M pc ls (aI y :: aI x :: st) w Q := by
  intro al D cI cZ cS lo p l e R s m args below meth c H locs cells slots la Z hC hE hce hsl hP hS hl hZ
  obtain ⟨hx, hb, hml, hown, hts, hlk, hrt, hdf, hdl⟩ := id hC
  obtain ⟨hd, rfl⟩ := h
  exact lv_iand hx hb hd  (K al D cI cZ cS lo p l e R s m args below meth c H locs cells slots la Z hC hE hce hsl hP hS hl hZ)
theorem aw_ior {x y : Int32} (h : decode M.2.1 pc = .ok (.ior, 1) ∧ pc + 1 = pc') (K : AW d X M pc' ls (aI (x ||| y) :: st) w Q) : AW d X M pc ls (aI y :: aI x :: st) w Q := by
  intro al D cI cZ cS lo p l e R s m args below meth c H locs cells slots la Z hC hE hce hsl hP hS hl hZ
  obtain ⟨hx, hb, hml, hown, hts, hlk, hrt, hdf, hdl⟩ := id hC
  obtain ⟨hd, rfl⟩ := h
  exact lv_ior hx hb hd  (K al D cI cZ cS lo p l e R s m args below meth c H locs cells slots la Z hC hE hce hsl hP hS hl hZ)
theorem aw_ixor {x y : Int32} (h : decode M.2.1 pc = .ok (.ixor, 1) ∧ pc + 1 = pc') (K : AW d X M pc' ls (aI (x ^^^ y) :: st) w Q) : AW d X M pc ls (aI y :: aI x :: st) w Q := by
  intro al D cI cZ cS lo p l e R s m args below meth c H locs cells slots la Z hC hE hce hsl hP hS hl hZ
  obtain ⟨hx, hb, hml, hown, hts, hlk, hrt, hdf, hdl⟩ := id hC
  obtain ⟨hd, rfl⟩ := h
  exact lv_ixor hx hb hd  (K al D cI cZ cS lo p l e R s m args below meth c H locs cells slots la Z hC hE hce hsl hP hS hl hZ)
theorem aw_ishl {x y : Int32} (h : decode M.2.1 pc = .ok (.ishl, 1) ∧ pc + 1 = pc') (K : AW d X M pc' ls (aI (x <<< (y &&& 31)) :: st) w Q) : AW d X M pc ls (aI y :: aI x :: st) w Q := by
  intro al D cI cZ cS lo p l e R s m args below meth c H locs cells slots la Z hC hE hce hsl hP hS hl hZ
  obtain ⟨hx, hb, hml, hown, hts, hlk, hrt, hdf, hdl⟩ := id hC
  obtain ⟨hd, rfl⟩ := h
  exact lv_ishl hx hb hd  (K al D cI cZ cS lo p l e R s m args below meth c H locs cells slots la Z hC hE hce hsl hP hS hl hZ)
theorem aw_ishr {x y : Int32} (h : decode M.2.1 pc = .ok (.ishr, 1) ∧ pc + 1 = pc') (K : AW d X M pc' ls (aI (x >>> (y &&& 31)) :: st) w Q) : AW d X M pc ls (aI y :: aI x :: st) w Q := by
  intro al D cI cZ cS lo p l e R s m args below meth c H locs cells slots la Z hC hE hce hsl hP hS hl hZ
  obtain ⟨hx, hb, hml, hown, hts, hlk, hrt, hdf, hdl⟩ := id hC
  obtain ⟨hd, rfl⟩ := h
  exact lv_ishr hx hb hd  (K al D cI cZ cS lo p l e R s m args below meth c H locs cells slots la Z hC hE hce hsl hP hS hl hZ)
theorem aw_iushr {x y : Int32} (h : decode M.2.1 pc = .ok (.iushr, 1) ∧ pc + 1 = pc') (K : AW d X M pc' ls (aI ((x.toUInt32 >>> (y.toUInt32 &&& Int32.toUInt32 31)).toInt32) :: st) w Q) : AW d X M pc ls (aI y :: aI x :: st) w Q := by
  intro al D cI cZ cS lo p l e R s m args below meth c H locs cells slots la Z hC hE hce hsl hP hS hl hZ
  obtain ⟨hx, hb, hml, hown, hts, hlk, hrt, hdf, hdl⟩ := id hC
  obtain ⟨hd, rfl⟩ := h
  exact lv_iushr hx hb hd rfl (K al D cI cZ cS lo p l e R s m args below meth c H locs cells slots la Z hC hE hce hsl hP hS hl hZ)
theorem aw_idiv {x y : Int32} (h : decode M.2.1 pc = .ok (.idiv, 1) ∧ pc + 1 = pc') (hy : ¬ y = 0) (K : AW d X M pc' ls (aI (x / y) :: st) w Q) : AW d X M pc ls (aI y :: aI x :: st) w Q := by
  intro al D cI cZ cS lo p l e R s m args below meth c H locs cells slots la Z hC hE hce hsl hP hS hl hZ
  obtain ⟨hx, hb, hml, hown, hts, hlk, hrt, hdf, hdl⟩ := id hC
  obtain ⟨hd, rfl⟩ := h
  exact lv_idiv hx hb hd hy (K al D cI cZ cS lo p l e R s m args below meth c H locs cells slots la Z hC hE hce hsl hP hS hl hZ)
theorem aw_irem {x y : Int32} (h : decode M.2.1 pc = .ok (.irem, 1) ∧ pc + 1 = pc') (hy : ¬ y = 0) (K : AW d X M pc' ls (aI (x - x / y * y) :: st) w Q) : AW d X M pc ls (aI y :: aI x :: st) w Q := by
  intro al D cI cZ cS lo p l e R s m args below meth c H locs cells slots la Z hC hE hce hsl hP hS hl hZ
  obtain ⟨hx, hb, hml, hown, hts, hlk, hrt, hdf, hdl⟩ := id hC
  obtain ⟨hd, rfl⟩ := h
  exact lv_irem hx hb hd hy (K al D cI cZ cS lo p l e R s m args below meth c H locs cells slots la Z hC hE hce hsl hP hS hl hZ)
theorem aw_ineg {x : Int32} (h : decode M.2.1 pc = .ok (.ineg, 1) ∧ pc + 1 = pc') (K : AW d X M pc' ls (aI (-x) :: st) w Q) : AW d X M pc ls (aI x :: st) w Q := by
  intro al D cI cZ cS lo p l e R s m args below meth c H locs cells slots la Z hC hE hce hsl hP hS hl hZ
  obtain ⟨hx, hb, hml, hown, hts, hlk, hrt, hdf, hdl⟩ := id hC
  obtain ⟨hd, rfl⟩ := h
  exact lv_ineg hx hb hd  (K al D cI cZ cS lo p l e R s m args below meth c H locs cells slots la Z hC hE hce hsl hP hS hl hZ)
theorem aw_ladd {x y : Int64} (h : decode M.2.1 pc = .ok (.ladd, 1) ∧ pc + 1 = pc') (K : AW d X M pc' ls (aL (x + y) :: st) w Q) : AW d X M pc ls (aL y :: aL x :: st) w Q := by
  intro al D cI cZ cS lo p l e R s m args below meth c H locs cells slots la Z hC hE hce hsl hP hS hl hZ
  obtain ⟨hx, hb, hml, hown, hts, hlk, hrt, hdf, hdl⟩ := id hC
  obtain ⟨hd, rfl⟩ := h
  exact lv_ladd hx hb hd  (K al D cI cZ cS lo p l e R s m args below meth c H locs cells slots la Z hC hE hce hsl hP hS hl hZ)
theorem aw_lmul {x y : Int64} (h : decode M.2.1 pc = .ok (.lmul, 1) ∧ pc + 1 = pc') (K : AW d X M pc' ls (aL (x * y) :: st) w Q) : AW d X M pc ls (aL y :: aL x :: st) w Q := by
  intro al D cI cZ cS lo p l e R s m args below meth c H locs cells slots la Z hC hE hce hsl hP hS hl hZ
  obtain ⟨hx, hb, hml, hown, hts, hlk, hrt, hdf, hdl⟩ := id hC
  obtain ⟨hd, rfl⟩ := h
  exact lv_lmul hx hb hd  (K al D cI cZ cS lo p l e R s m args below meth c H locs cells slots la Z hC hE hce hsl hP hS hl hZ)
theorem aw_land {x y : Int64} (h : decode M.2.1 pc = .ok (.land, 1) ∧ pc + 1 = pc') (K : AW d X M pc' ls (aL (x &&& y) :: st) w Q) : AW d X M pc ls (aL y :: aL x :: st) w Q := by
  intro al D cI cZ cS lo p l e R s m args below meth c H locs cells slots la Z hC hE hce hsl hP hS hl hZ
  obtain ⟨hx, hb, hml, hown, hts, hlk, hrt, hdf, hdl⟩ := id hC
  obtain ⟨hd, rfl⟩ := h
  exact lv_land hx hb hd  (K al D cI cZ cS lo p l e R s m args below meth c H locs cells slots la Z hC hE hce hsl hP hS hl hZ)
theorem aw_lor {x y : Int64} (h : decode M.2.1 pc = .ok (.lor, 1) ∧ pc + 1 = pc') (K : AW d X M pc' ls (aL (x ||| y) :: st) w Q) : AW d X M pc ls (aL y :: aL x :: st) w Q := by
  intro al D cI cZ cS lo p l e R s m args below meth c H locs cells slots la Z hC hE hce hsl hP hS hl hZ
  obtain ⟨hx, hb, hml, hown, hts, hlk, hrt, hdf, hdl⟩ := id hC
  obtain ⟨hd, rfl⟩ := h
  exact lv_lor hx hb hd  (K al D cI cZ cS lo p l e R s m args below meth c H locs cells slots la Z hC hE hce hsl hP hS hl hZ)
theorem aw_lrem {x y : Int64} (h : decode M.2.1 pc = .ok (.lrem, 1) ∧ pc + 1 = pc') (hy : ¬ y = 0) (K : AW d X M pc' ls (aL (x - x / y * y) :: st) w Q) : AW d X M pc ls (aL y :: aL x :: st) w Q := by
  intro al D cI cZ cS lo p l e R s m args below meth c H locs cells slots la Z hC hE hce hsl hP hS hl hZ
  obtain ⟨hx, hb, hml, hown, hts, hlk, hrt, hdf, hdl⟩ := id hC
  obtain ⟨hd, rfl⟩ := h
  exact lv_lrem hx hb hd hy (K al D cI cZ cS lo p l e R s m args below meth c H locs cells slots la Z hC hE hce hsl hP hS hl hZ)
theorem aw_lshl {x : Int64} {y : Int32} (h : decode M.2.1 pc = .ok (.lshl, 1) ∧ pc + 1 = pc') (K : AW d X M pc' ls (aL (x <<< (y.toInt64 &&& 63)) :: st) w Q) : AW d X M pc ls (aI y :: aL x :: st) w Q := by
  intro al D cI cZ cS lo p l e R s m args below meth c H locs cells slots la Z hC hE hce hsl hP hS hl hZ
  obtain ⟨hx, hb, hml, hown, hts, hlk, hrt, hdf, hdl⟩ := id hC
  obtain ⟨hd, rfl⟩ := h
  exact lv_lshl hx hb hd rfl (K al D cI cZ cS lo p l e R s m args below meth c H locs cells slots la Z hC hE hce hsl hP hS hl hZ)
theorem aw_lushr {x : Int64} {y : Int32} (h : decode M.2.1 pc = .ok (.lushr, 1) ∧ pc + 1 = pc') (K : AW d X M pc' ls (aL ((x.toUInt64 >>> (y.toInt64.toUInt64 &&& Int64.toUInt64 63)).toInt64) :: st) w Q) : AW d X M pc ls (aI y :: aL x :: st) w Q := by
  intro al D cI cZ cS lo p l e R s m args below meth c H locs cells slots la Z hC hE hce hsl hP hS hl hZ
  obtain ⟨hx, hb, hml, hown, hts, hlk, hrt, hdf, hdl⟩ := id hC
  obtain ⟨hd, rfl⟩ := h
  exact lv_lushr hx hb hd rfl (K al D cI cZ cS lo p l e R s m args below meth c H locs cells slots la Z hC hE hce hsl hP hS hl hZ)
theorem aw_i2l {x : Int32} (h : decode M.2.1 pc = .ok (.i2l, 1) ∧ pc + 1 = pc') (K : AW d X M pc' ls (aL x.toInt64 :: st) w Q) : AW d X M pc ls (aI x :: st) w Q := by
  intro al D cI cZ cS lo p l e R s m args below meth c H locs cells slots la Z hC hE hce hsl hP hS hl hZ
  obtain ⟨hx, hb, hml, hown, hts, hlk, hrt, hdf, hdl⟩ := id hC
  obtain ⟨hd, rfl⟩ := h
  exact lv_i2l hx hb hd rfl (K al D cI cZ cS lo p l e R s m args below meth c H locs cells slots la Z hC hE hce hsl hP hS hl hZ)
theorem aw_l2i {x : Int64} (h : decode M.2.1 pc = .ok (.l2i, 1) ∧ pc + 1 = pc') (K : AW d X M pc' ls (aI x.toInt32 :: st) w Q) : AW d X M pc ls (aL x :: st) w Q := by
  intro al D cI cZ cS lo p l e R s m args below meth c H locs cells slots la Z hC hE hce hsl hP hS hl hZ
  obtain ⟨hx, hb, hml, hown, hts, hlk, hrt, hdf, hdl⟩ := id hC
  obtain ⟨hd, rfl⟩ := h
  exact lv_l2i hx hb hd rfl (K al D cI cZ cS lo p l e R s m args below meth c H locs cells slots la Z hC hE hce hsl hP hS hl hZ)
theorem aw_lcmp {x y : Int64} (h : decode M.2.1 pc = .ok (.lcmp, 1) ∧ pc + 1 = pc') (K : AW d X M pc' ls (aI (lg_cmp x y) :: st) w Q) : AW d X M pc ls (aL y :: aL x :: st) w Q := by
  intro al D cI cZ cS lo p l e R s m args below meth c H locs cells slots la Z hC hE hce hsl hP hS hl hZ
  obtain ⟨hx, hb, hml, hown, hts, hlk, hrt, hdf, hdl⟩ := id hC
  obtain ⟨hd, rfl⟩ := h
  exact W.lcmp hx hb hd  (K al D cI cZ cS lo p l e R s m args below meth c H locs cells slots la Z hC hE hce hsl hP hS hl hZ)
theorem aw_dupI {x : Int32} (h : decode M.2.1 pc = .ok (.dup, 1) ∧ pc + 1 = pc') (K : AW d X M pc' ls (aI x :: aI x :: st) w Q) : AW d X M pc ls (aI x :: st) w Q := by
  intro al D cI cZ cS lo p l e R s m args below meth c H locs cells slots la Z hC hE hce hsl hP hS hl hZ
  obtain ⟨hx, hb, hml, hown, hts, hlk, hrt, hdf, hdl⟩ := id hC
  obtain ⟨hd, rfl⟩ := h
  exact lv_dup hx hb hd rfl (K al D cI cZ cS lo p l e R s m args below meth c H locs cells slots la Z hC hE hce hsl hP hS hl hZ)
theorem aw_dupR {a b : Nat} (h : decode M.2.1 pc = .ok (.dup, 1) ∧ pc + 1 = pc') (K : AW d X M pc' ls (aR a b :: aR a b :: st) w Q) : AW d X M pc ls (aR a b :: st) w Q := by
  intro al D cI cZ cS lo p l e R s m args below meth c H locs cells slots la Z hC hE hce hsl hP hS hl hZ
  obtain ⟨hx, hb, hml, hown, hts, hlk, hrt, hdf, hdl⟩ := id hC
  obtain ⟨hd, rfl⟩ := h
  exact lv_dup hx hb hd rfl (K al D cI cZ cS lo p l e R s m args below meth c H locs cells slots la Z hC hE hce hsl hP hS hl hZ)
theorem aw_dup2 {x : Int32} {a b : Nat} (h : decode M.2.1 pc = .ok (.dup2, 1) ∧ pc + 1 = pc') (K : AW d X M pc' ls (aI x :: aR a b :: aI x :: aR a b :: st) w Q) : AW d X M pc ls (aI x :: aR a b :: st) w Q := by
  intro al D cI cZ cS lo p l e R s m args below meth c H locs cells slots la Z hC hE hce hsl hP hS hl hZ
  obtain ⟨hx, hb, hml, hown, hts, hlk, hrt, hdf, hdl⟩ := id hC
  obtain ⟨hd, rfl⟩ := h
  exact lv_dup2_11 hx hb hd rfl rfl (K al D cI cZ cS lo p l e R s m args below meth c H locs cells slots la Z hC hE hce hsl hP hS hl hZ)
theorem aw_popI {x : Int32} (h : decode M.2.1 pc = .ok (.pop, 1) ∧ pc + 1 = pc') (K : AW d X M pc' ls (st) w Q) : AW d X M pc ls (aI x :: st) w Q := by
  intro al D cI cZ cS lo p l e R s m args below meth c H locs cells slots la Z hC hE hce hsl hP hS hl hZ
  obtain ⟨hx, hb, hml, hown, hts, hlk, hrt, hdf, hdl⟩ := id hC
  obtain ⟨hd, rfl⟩ := h
  exact lv_pop hx hb hd rfl (K al D cI cZ cS lo p l e R s m args below meth c H locs cells slots la Z hC hE hce hsl hP hS hl hZ)
theorem aw_icmp_eq {x y : Int32} {off : Int} {tgt : Nat} (h : decode M.2.1 pc = .ok (.if_icmp .eq off, 3) ∧ (pc : Int) + off = (tgt : Int) ∧ pc + 3 = pc') (K1 : (x = y) → AW d X M tgt ls st w Q) (K2 : ¬ (x = y) → AW d X M pc' ls st w Q) : AW d X M pc ls (aI y :: aI x :: st) w Q := by
  intro al D cI cZ cS lo p l e R s m args below meth c H locs cells slots la Z hC hE hce hsl hP hS hl hZ
  obtain ⟨hx, hb, hml, hown, hts, hlk, hrt, hdf, hdl⟩ := id hC
  obtain ⟨hd, ht, rfl⟩ := h
  exact lv_icmp_eq hx hb hd ht (fun hc => K1 hc al D cI cZ cS lo p l e R s m args below meth c H locs cells slots la Z hC hE hce hsl hP hS hl hZ) (fun hc => K2 hc al D cI cZ cS lo p l e R s m args below meth c H locs cells slots la Z hC hE hce hsl hP hS hl hZ)
theorem aw_icmp_ne {x y : Int32} {off : Int} {tgt : Nat} (h : decode M.2.1 pc = .ok (.if_icmp .ne off, 3) ∧ (pc : Int) + off = (tgt : Int) ∧ pc + 3 = pc') (K1 : ¬ (x = y) → AW d X M tgt ls st w Q) (K2 : (x = y) → AW d X M pc' ls st w Q) : AW d X M pc ls (aI y :: aI x :: st) w Q := by
  intro al D cI cZ cS lo p l e R s m args below meth c H locs cells slots la Z hC hE hce hsl hP hS hl hZ
  obtain ⟨hx, hb, hml, hown, hts, hlk, hrt, hdf, hdl⟩ := id hC
  obtain ⟨hd, ht, rfl⟩ := h
  exact lv_icmp_ne hx hb hd ht (fun hc => K1 hc al D cI cZ cS lo p l e R s m args below meth c H locs cells slots la Z hC hE hce hsl hP hS hl hZ) (fun hc => K2 hc al D cI cZ cS lo p l e R s m args below meth c H locs cells slots la Z hC hE hce hsl hP hS hl hZ)
theorem aw_icmp_lt {x y : Int32} {off : Int} {tgt : Nat} (h : decode M.2.1 pc = .ok (.if_icmp .lt off, 3) ∧ (pc : Int) + off = (tgt : Int) ∧ pc + 3 = pc') (K1 : (x < y) → AW d X M tgt ls st w Q) (K2 : ¬ (x < y) → AW d X M pc' ls st w Q) : AW d X M pc ls (aI y :: aI x :: st) w Q := by
  intro al D cI cZ cS lo p l e R s m args below meth c H locs cells slots la Z hC hE hce hsl hP hS hl hZ
  obtain ⟨hx, hb, hml, hown, hts, hlk, hrt, hdf, hdl⟩ := id hC
  obtain ⟨hd, ht, rfl⟩ := h
  exact lv_icmp_lt hx hb hd ht (fun hc => K1 hc al D cI cZ cS lo p l e R s m args below meth c H locs cells slots la Z hC hE hce hsl hP hS hl hZ) (fun hc => K2 hc al D cI cZ cS lo p l e R s m args below meth c H locs cells slots la Z hC hE hce hsl hP hS hl hZ)
theorem aw_icmp_ge {x y : Int32} {off : Int} {tgt : Nat} (h : decode M.2.1 pc = .ok (.if_icmp .ge off, 3) ∧ (pc : Int) + off = (tgt : Int) ∧ pc + 3 = pc') (K1 : (y ≤ x) → AW d X M tgt ls st w Q) (K2 : ¬ (y ≤ x) → AW d X M pc' ls st w Q) : AW d X M pc ls (aI y :: aI x :: st) w Q := by
  intro al D cI cZ cS lo p l e R s m args below meth c H locs cells slots la Z hC hE hce hsl hP hS hl hZ
  obtain ⟨hx, hb, hml, hown, hts, hlk, hrt, hdf, hdl⟩ := id hC
  obtain ⟨hd, ht, rfl⟩ := h
  exact lv_icmp_ge hx hb hd ht (fun hc => K1 hc al D cI cZ cS lo p l e R s m args below meth c H locs cells slots la Z hC hE hce hsl hP hS hl hZ) (fun hc => K2 hc al D cI cZ cS lo p l e R s m args below meth c H locs cells slots la Z hC hE hce hsl hP hS hl hZ)
theorem aw_icmp_gt {x y : Int32} {off : Int} {tgt : Nat} (h : decode M.2.1 pc = .ok (.if_icmp .gt off, 3) ∧ (pc : Int) + off = (tgt : Int) ∧ pc + 3 = pc') (K1 : (y < x) → AW d X M tgt ls st w Q) (K2 : ¬ (y < x) → AW d X M pc' ls st w Q) : AW d X M pc ls (aI y :: aI x :: st) w Q := by
  intro al D cI cZ cS lo p l e R s m args below meth c H locs cells slots la Z hC hE hce hsl hP hS hl hZ
  obtain ⟨hx, hb, hml, hown, hts, hlk, hrt, hdf, hdl⟩ := id hC
  obtain ⟨hd, ht, rfl⟩ := h
  exact lv_icmp_gt hx hb hd ht (fun hc => K1 hc al D cI cZ cS lo p l e R s m args below meth c H locs cells slots la Z hC hE hce hsl hP hS hl hZ) (fun hc => K2 hc al D cI cZ cS lo p l e R s m args below meth c H locs cells slots la Z hC hE hce hsl hP hS hl hZ)
theorem aw_icmp_le {x y : Int32} {off : Int} {tgt : Nat} (h : decode M.2.1 pc = .ok (.if_icmp .le off, 3) ∧ (pc : Int) + off = (tgt : Int) ∧ pc + 3 = pc') (K1 : (x ≤ y) → AW d X M tgt ls st w Q) (K2 : ¬ (x ≤ y) → AW d X M pc' ls st w Q) : AW d X M pc ls (aI y :: aI x :: st) w Q := by
  intro al D cI cZ cS lo p l e R s m args below meth c H locs cells slots la Z hC hE hce hsl hP hS hl hZ
  obtain ⟨hx, hb, hml, hown, hts, hlk, hrt, hdf, hdl⟩ := id hC
  obtain ⟨hd, ht, rfl⟩ := h
  exact lv_icmp_le hx hb hd ht (fun hc => K1 hc al D cI cZ cS lo p l e R s m args below meth c H locs cells slots la Z hC hE hce hsl hP hS hl hZ) (fun hc => K2 hc al D cI cZ cS lo p l e R s m args below meth c H locs cells slots la Z hC hE hce hsl hP hS hl hZ)
theorem aw_if_eq {x : Int32} {off : Int} {tgt : Nat} (h : decode M.2.1 pc = .ok (.ifCond .eq off, 3) ∧ (pc : Int) + off = (tgt : Int) ∧ pc + 3 = pc') (K1 : (x = 0) → AW d X M tgt ls st w Q) (K2 : ¬ (x = 0) → AW d X M pc' ls st w Q) : AW d X M pc ls (aI x :: st) w Q := by
  intro al D cI cZ cS lo p l e R s m args below meth c H locs cells slots la Z hC hE hce hsl hP hS hl hZ
  obtain ⟨hx, hb, hml, hown, hts, hlk, hrt, hdf, hdl⟩ := id hC
  obtain ⟨hd, ht, rfl⟩ := h
  exact lv_if_eq hx hb hd ht (fun hc => K1 hc al D cI cZ cS lo p l e R s m args below meth c H locs cells slots la Z hC hE hce hsl hP hS hl hZ) (fun hc => K2 hc al D cI cZ cS lo p l e R s m args below meth c H locs cells slots la Z hC hE hce hsl hP hS hl hZ)
theorem aw_if_ne {x : Int32} {off : Int} {tgt : Nat} (h : decode M.2.1 pc = .ok (.ifCond .ne off, 3) ∧ (pc : Int) + off = (tgt : Int) ∧ pc + 3 = pc') (K1 : ¬ (x = 0) → AW d X M tgt ls st w Q) (K2 : (x = 0) → AW d X M pc' ls st w Q) : AW d X M pc ls (aI x :: st) w Q := by
  intro al D cI cZ cS lo p l e R s m args below meth c H locs cells slots la Z hC hE hce hsl hP hS hl hZ
  obtain ⟨hx, hb, hml, hown, hts, hlk, hrt, hdf, hdl⟩ := id hC
  obtain ⟨hd, ht, rfl⟩ := h
  exact lv_if_ne hx hb hd ht (fun hc => K1 hc al D cI cZ cS lo p l e R s m args below meth c H locs cells slots la Z hC hE hce hsl hP hS hl hZ) (fun hc => K2 hc al D cI cZ cS lo p l e R s m args below meth c H locs cells slots la Z hC hE hce hsl hP hS hl hZ)
theorem aw_if_lt {x : Int32} {off : Int} {tgt : Nat} (h : decode M.2.1 pc = .ok (.ifCond .lt off, 3) ∧ (pc : Int) + off = (tgt : Int) ∧ pc + 3 = pc') (K1 : (x < 0) → AW d X M tgt ls st w Q) (K2 : ¬ (x < 0) → AW d X M pc' ls st w Q) : AW d X M pc ls (aI x :: st) w Q := by
  intro al D cI cZ cS lo p l e R s m args below meth c H locs cells slots la Z hC hE hce hsl hP hS hl hZ
  obtain ⟨hx, hb, hml, hown, hts, hlk, hrt, hdf, hdl⟩ := id hC
  obtain ⟨hd, ht, rfl⟩ := h
  exact lv_if_lt hx hb hd ht (fun hc => K1 hc al D cI cZ cS lo p l e R s m args below meth c H locs cells slots la Z hC hE hce hsl hP hS hl hZ) (fun hc => K2 hc al D cI cZ cS lo p l e R s m args below meth c H locs cells slots la Z hC hE hce hsl hP hS hl hZ)
theorem aw_if_ge {x : Int32} {off : Int} {tgt : Nat} (h : decode M.2.1 pc = .ok (.ifCond .ge off, 3) ∧ (pc : Int) + off = (tgt : Int) ∧ pc + 3 = pc') (K1 : (0 ≤ x) → AW d X M tgt ls st w Q) (K2 : ¬ (0 ≤ x) → AW d X M pc' ls st w Q) : AW d X M pc ls (aI x :: st) w Q := by
  intro al D cI cZ cS lo p l e R s m args below meth c H locs cells slots la Z hC hE hce hsl hP hS hl hZ
  obtain ⟨hx, hb, hml, hown, hts, hlk, hrt, hdf, hdl⟩ := id hC
  obtain ⟨hd, ht, rfl⟩ := h
  exact lv_if_ge hx hb hd ht (fun hc => K1 hc al D cI cZ cS lo p l e R s m args below meth c H locs cells slots la Z hC hE hce hsl hP hS hl hZ) (fun hc => K2 hc al D cI cZ cS lo p l e R s m args below meth c H locs cells slots la Z hC hE hce hsl hP hS hl hZ)
theorem aw_if_gt {x : Int32} {off : Int} {tgt : Nat} (h : decode M.2.1 pc = .ok (.ifCond .gt off, 3) ∧ (pc : Int) + off = (tgt : Int) ∧ pc + 3 = pc') (K1 : (0 < x) → AW d X M tgt ls st w Q) (K2 : ¬ (0 < x) → AW d X M pc' ls st w Q) : AW d X M pc ls (aI x :: st) w Q := by
  intro al D cI cZ cS lo p l e R s m args below meth c H locs cells slots la Z hC hE hce hsl hP hS hl hZ
  obtain ⟨hx, hb, hml, hown, hts, hlk, hrt, hdf, hdl⟩ := id hC
  obtain ⟨hd, ht, rfl⟩ := h
  exact lv_if_gt hx hb hd ht (fun hc => K1 hc al D cI cZ cS lo p l e R s m args below meth c H locs cells slots la Z hC hE hce hsl hP hS hl hZ) (fun hc => K2 hc al D cI cZ cS lo p l e R s m args below meth c H locs cells slots la Z hC hE hce hsl hP hS hl hZ)
theorem aw_if_le {x : Int32} {off : Int} {tgt : Nat} (h : decode M.2.1 pc = .ok (.ifCond .le off, 3) ∧ (pc : Int) + off = (tgt : Int) ∧ pc + 3 = pc') (K1 : (x ≤ 0) → AW d X M tgt ls st w Q) (K2 : ¬ (x ≤ 0) → AW d X M pc' ls st w Q) : AW d X M pc ls (aI x :: st) w Q := by
  intro al D cI cZ cS lo p l e R s m args below meth c H locs cells slots la Z hC hE hce hsl hP hS hl hZ
  obtain ⟨hx, hb, hml, hown, hts, hlk, hrt, hdf, hdl⟩ := id hC
  obtain ⟨hd, ht, rfl⟩ := h
  exact lv_if_le hx hb hd ht (fun hc => K1 hc al D cI cZ cS lo p l e R s m args below meth c H locs cells slots la Z hC hE hce hsl hP hS hl hZ) (fun hc => K2 hc al D cI cZ cS lo p l e R s m args below meth c H locs cells slots la Z hC hE hce hsl hP hS hl hZ)
theorem aw_goto {off : Int} {tgt : Nat} (h : decode M.2.1 pc = .ok (.goto off, 3) ∧ (pc : Int) + off = (tgt : Int)) (K : AW d X M tgt ls st w Q) : AW d X M pc ls st w Q := by
  intro al D cI cZ cS lo p l e R s m args below meth c H locs cells slots la Z hC hE hce hsl hP hS hl hZ
  obtain ⟨hx, hb, hml, hown, hts, hlk, hrt, hdf, hdl⟩ := id hC
  exact lv_goto hx hb h.1 h.2 (K al D cI cZ cS lo p l e R s m args below meth c H locs cells slots la Z hC hE hce hsl hP hS hl hZ)
theorem aw_ifnonnull {off : Int} {tgt a b : Nat} (h : decode M.2.1 pc = .ok (.ifnonnull off, 3) ∧ (pc : Int) + off = (tgt : Int)) (K : AW d X M tgt ls st w Q) : AW d X M pc ls (aR a b :: st) w Q := by
  intro al D cI cZ cS lo p l e R s m args below meth c H locs cells slots la Z hC hE hce hsl hP hS hl hZ
  obtain ⟨hx, hb, hml, hown, hts, hlk, hrt, hdf, hdl⟩ := id hC
  exact lv_ifnonnull hx hb h.1 h.2 (K al D cI cZ cS lo p l e R s m args below meth c H locs cells slots la Z hC hE hce hsl hP hS hl hZ)
theorem aw_ifnull {off : Int} {a b : Nat} (h : decode M.2.1 pc = .ok (.ifnull off, 3) ∧ pc + 3 = pc') (K : AW d X M pc' ls st w Q) : AW d X M pc ls (aR a b :: st) w Q := by
  intro al D cI cZ cS lo p l e R s m args below meth c H locs cells slots la Z hC hE hce hsl hP hS hl hZ
  obtain ⟨hx, hb, hml, hown, hts, hlk, hrt, hdf, hdl⟩ := id hC
  obtain ⟨hd, rfl⟩ := h
  exact lv_ifnull hx hb hd (K al D cI cZ cS lo p l e R s m args below meth c H locs cells slots la Z hC hE hce hsl hP hS hl hZ)
theorem aw_tabIn {dflt lo0 hi0 : Int} {offs : Array Int} {len : Nat} {x : Int32} {off : Int} {tgt : Nat} (h : decode M.2.1 pc = .ok (.tableswitch dflt lo0 hi0 offs, len)) (h1 : ¬ x.toInt < lo0) (h2 : ¬ hi0 < x.toInt) (ho : offs[(x.toInt - lo0).toNat]? = some off) (ht : (pc : Int) + off = (tgt : Int)) (K : AW d X M tgt ls st w Q) : AW d X M pc ls (aI x :: st) w Q := by
  intro al D cI cZ cS lo p l e R s m args below meth c H locs cells slots la Z hC hE hce hsl hP hS hl hZ
  obtain ⟨hx, hb, hml, hown, hts, hlk, hrt, hdf, hdl⟩ := id hC
  exact lv_tableIn hx hb h h1 h2 ho ht (K al D cI cZ cS lo p l e R s m args below meth c H locs cells slots la Z hC hE hce hsl hP hS hl hZ)
theorem aw_tabOut {dflt lo0 hi0 : Int} {offs : Array Int} {len : Nat} {x : Int32} {tgt : Nat} (h : decode M.2.1 pc = .ok (.tableswitch dflt lo0 hi0 offs, len)) (h1 : x.toInt < lo0 ∨ hi0 < x.toInt) (ht : (pc : Int) + dflt = (tgt : Int)) (K : AW d X M tgt ls st w Q) : AW d X M pc ls (aI x :: st) w Q := by
  intro al D cI cZ cS lo p l e R s m args below meth c H locs cells slots la Z hC hE hce hsl hP hS hl hZ
  obtain ⟨hx, hb, hml, hown, hts, hlk, hrt, hdf, hdl⟩ := id hC
  exact lv_tableOut hx hb h h1 ht (K al D cI cZ cS lo p l e R s m args below meth c H locs cells slots la Z hC hE hce hsl hP hS hl hZ)
theorem aw_ldc2 {idx : Nat} {v : Int64} (h : decode M.2.1 pc = .ok (.ldc2_w idx, 3) ∧ pc + 3 = pc') (hw : Cond.constantLong M.1.cls idx v ∈ TT) (K : AW d X M pc' ls (aL v :: st) w Q) : AW d X M pc ls st w Q := by
  intro al D cI cZ cS lo p l e R s m args below meth c H locs cells slots la Z hC hE hce hsl hP hS hl hZ
  obtain ⟨hx, hb, hml, hown, hts, hlk, hrt, hdf, hdl⟩ := id hC
  obtain ⟨hd, rfl⟩ := h
  exact lv_ldc2 hx hb hown (hts _ hw) hd (K al D cI cZ cS lo p l e R s m args below meth c H locs cells slots la Z hC hE hce hsl hP hS hl hZ)
theorem aw_ldcw {idx : Nat} {v : Int32} (h : decode M.2.1 pc = .ok (.ldc_w idx, 3) ∧ pc + 3 = pc') (hw : Cond.constant M.1.cls idx v ∈ TT) (K : AW d X M pc' ls (aI v :: st) w Q) : AW d X M pc ls st w Q := by
  intro al D cI cZ cS lo p l e R s m args below meth c H locs cells slots la Z hC hE hce hsl hP hS hl hZ
  obtain ⟨hx, hb, hml, hown, hts, hlk, hrt, hdf, hdl⟩ := id hC
  obtain ⟨hd, rfl⟩ := h
  exact lv_ldcw hx hb hown (hts _ hw) hd (K al D cI cZ cS lo p l e R s m args below meth c H locs cells slots la Z hC hE hce hsl hP hS hl hZ)
theorem aw_ldc {idx : Nat} {v : Int32} (h : decode M.2.1 pc = .ok (.ldc idx, 2) ∧ pc + 2 = pc') (hw : Cond.constant M.1.cls idx v ∈ TT) (K : AW d X M pc' ls (aI v :: st) w Q) : AW d X M pc ls st w Q := by
  intro al D cI cZ cS lo p l e R s m args below meth c H locs cells slots la Z hC hE hce hsl hP hS hl hZ
  obtain ⟨hx, hb, hml, hown, hts, hlk, hrt, hdf, hdl⟩ := id hC
  obtain ⟨hd, rfl⟩ := h
  exact lv_ldc hx hb hown (hts _ hw) hd (K al D cI cZ cS lo p l e R s m args below meth c H locs cells slots la Z hC hE hce hsl hP hS hl hZ)
theorem aw_getf {k i f idx : Nat} {v : AV} (h : decode M.2.1 pc = .ok (.getfield idx, 3) ∧ pc + 3 = pc') (hw : Cond.fieldLink M.1.cls idx (TK k f).1 (TK k f).2.1 (TK k f).2.2.1 ∈ TT) (hk : k < 7 ∧ f < nFl k) (hi : i < cntK k) (hv : fldA k i f w = v) (K : AW d X M pc' ls (v :: st) w Q) : AW d X M pc ls (aR k i :: st) w Q := by
  intro al D cI cZ cS lo p l e R s m args below meth c H locs cells slots la Z hC hE hce hsl hP hS hl hZ
  obtain ⟨hx, hb, hml, hown, hts, hlk, hrt, hdf, hdl⟩ := id hC
  obtain ⟨hd, rfl⟩ := h
  subst hv
  obtain ⟨p0, hp0⟩ := keys_in hi
  have he := wsA_at (X := X) (al := al) (cI := cI) (cZ := cZ) (cS := cS) (w := w) hp0
  rw [cellA_obj hk.1] at he
  refine va_get hx hb hts (inl_at k hk.1) hown hE.1 hP p0 he (vw_at k hk.1) f hk.2 (hts _ hw) (fun _ h => h) (v := cv al (fldA k i f w)) ?_ hd (K al D cI cZ cS lo p l e R s m args below meth c H locs cells slots la Z hC hE hce hsl hP hS hl hZ)
  rw [List.getElem?_map, List.getElem?_range hk.2]; rfl
theorem aw_putI {k i f idx : Nat} {x : Int32} (h : decode M.2.1 pc = .ok (.putfield idx, 3) ∧ pc + 3 = pc') (hw : Cond.fieldLink M.1.cls idx (TK k f).1 (TK k f).2.1 (TK k f).2.2.1 ∈ TT) (hk : k < 7 ∧ f < nFl k) (hi : i < cntK k) (hr : refK k i f = none ∧ lngK k f = false ∧ (TK k f).2.2.2 = false ∧ tyK k f = .int) (K : AW d X M pc' ls st (wS w k i f x) Q) : AW d X M pc ls (aI x :: aR k i :: st) w Q := by
  intro al D cI cZ cS lo p l e R s m args below meth c H locs cells slots la Z hC hE hce hsl hP hS hl hZ
  obtain ⟨hx, hb, hml, hown, hts, hlk, hrt, hdf, hdl⟩ := id hC
  obtain ⟨hd, rfl⟩ := h
  obtain ⟨p0, hp0⟩ := keys_in hi
  have he := wsA_at (X := X) (al := al) (cI := cI) (cZ := cZ) (cS := cS) (w := w) hp0
  rw [cellA_obj hk.1] at he
  refine va_put hx hb hts (inl_at k hk.1) (tyK k) (ty_at k hk.1) (nm_at k hk.1) hown hE.1 hP (wsA_D hE.2.1) hS p0 he (vw_at k hk.1) f hk.2 (hts _ hw) (fun _ h => h) hr.2.2.1 (v := .int x) (by rw [ty_at k hk.1 f hk.2, hr.2.2.2]) rfl rfl (by rw [List.length_map, List.length_range]; exact hk.2) hd (fun H1 locs1 hP1 _ hS1 => ?_)
  refine K al D cI cZ cS lo p l e R s m args below meth c H1 locs1 cells slots la Z hC hE hce hsl ?_ hS1 hl hZ
  have hcell : Sum.inr (k, ((List.range (nFl k)).map (fun g => cv al (fldA k i g w))).set f (.int x)) = cellA X al cI cZ cS (wS w k i f x) (k, i) := by
    rw [cellA_obj hk.1]
    congr 2
    apply List.ext_getElem?
    intro n
    by_cases hn : n = f
    · subst hn
      rw [List.getElem?_set_self (by rw [List.length_map, List.length_range]; exact hk.2), List.getElem?_map, List.getElem?_range hk.2]
      show some (Value.int x) = some (cv al (fldA k i n (wS w k i n x)))
      unfold fldA
      rw [hr.1, wS_same]
      simp only [hr.2.1, if_true]
      rfl
    · rw [List.getElem?_set_ne (Ne.symm hn), List.getElem?_map, List.getElem?_map]
      by_cases hn2 : n < nFl k
      · rw [List.getElem?_range hn2]
        show some (cv al (fldA k i n w)) = some (cv al (fldA k i n (wS w k i f x)))
        unfold fldA
        rw [wS_same]
        simp only [if_neg hn]
        rfl
      · rw [List.getElem?_eq_none (by rw [List.length_range]; omega)]; rfl
  have hs := wsA_set (X := X) (al := al) (cI := cI) (cZ := cZ) (cS := cS) (w := w) (w' := wS w k i f x) hp0 (fun q _ hq => cellA_off (wS_off (fun z => hq (Prod.ext z.1 z.2))) rfl)
  rw [← hcell] at hs
  unfold PA
  rw [← hs]
  exact hP1
theorem aw_putL {k f idx : Nat} {x : Int64} (h : decode M.2.1 pc = .ok (.putfield idx, 3) ∧ pc + 3 = pc') (hw : Cond.fieldLink M.1.cls idx (TK k f).1 (TK k f).2.1 (TK k f).2.2.1 ∈ TT) (hk : k < 7 ∧ f < nFl k ∧ cntK k = 1) (hr : (∀ g, g < nFl k → (refK k 0 g = none ∧ lngK k g = true ↔ g = f)) ∧ (TK k f).2.2.2 = false ∧ tyK k f = .long) (K : AW d X M pc' ls st (wL w k x) Q) : AW d X M pc ls (aL x :: aR k 0 :: st) w Q := by
  intro al D cI cZ cS lo p l e R s m args below meth c H locs cells slots la Z hC hE hce hsl hP hS hl hZ
  obtain ⟨hx, hb, hml, hown, hts, hlk, hrt, hdf, hdl⟩ := id hC
  obtain ⟨hd, rfl⟩ := h
  have hi : 0 < cntK k := by rw [hk.2.2]; omega
  obtain ⟨p0, hp0⟩ := keys_in hi
  have he := wsA_at (X := X) (al := al) (cI := cI) (cZ := cZ) (cS := cS) (w := w) hp0
  rw [cellA_obj hk.1] at he
  refine va_put hx hb hts (inl_at k hk.1) (tyK k) (ty_at k hk.1) (nm_at k hk.1) hown hE.1 hP (wsA_D hE.2.1) hS p0 he (vw_at k hk.1) f hk.2.1 (hts _ hw) (fun _ h => h) hr.2.1 (v := .long x) (by rw [ty_at k hk.1 f hk.2.1, hr.2.2]) rfl rfl (by rw [List.length_map, List.length_range]; exact hk.2.1) hd (fun H1 locs1 hP1 _ hS1 => ?_)
  refine K al D cI cZ cS lo p l e R s m args below meth c H1 locs1 cells slots la Z hC hE hce hsl ?_ hS1 hl hZ
  have hcell : Sum.inr (k, ((List.range (nFl k)).map (fun g => cv al (fldA k 0 g w))).set f (.long x)) = cellA X al cI cZ cS (wL w k x) (k, 0) := by
    rw [cellA_obj hk.1]
    congr 2
    apply List.ext_getElem?
    intro n
    by_cases hn : n = f
    · subst hn
      rw [List.getElem?_set_self (by rw [List.length_map, List.length_range]; exact hk.2.1), List.getElem?_map, List.getElem?_range hk.2.1]
      obtain ⟨g1, g2⟩ := (hr.1 n hk.2.1).mpr rfl
      show some (Value.long x) = some (cv al (fldA k 0 n (wL w k x)))
      unfold fldA
      rw [g1]
      simp only [g2, if_true, wL]
      rfl
    · rw [List.getElem?_set_ne (Ne.symm hn), List.getElem?_map, List.getElem?_map]
      by_cases hn2 : n < nFl k
      · rw [List.getElem?_range hn2]
        show some (cv al (fldA k 0 n w)) = some (cv al (fldA k 0 n (wL w k x)))
        unfold fldA
        cases hrf : refK k 0 n with
        | some q => rfl
        | none =>
          have hl0 : ¬ lngK k n = true := fun z => hn ((hr.1 n hn2).mp ⟨hrf, z⟩)
          simp only [if_neg hl0, wL]
      · rw [List.getElem?_eq_none (by rw [List.length_range]; omega)]; rfl
  have hs := wsA_set (X := X) (al := al) (cI := cI) (cZ := cZ) (cS := cS) (w := w) (w' := wL w k x) hp0 (fun q hqm hq => cellA_off rfl (by
    have hne : q.1 ≠ k := fun z => by
      have h1 := keys_lt hqm
      rw [z, hk.2.2] at h1
      exact hq (Prod.ext z (by show q.2 = 0; omega))
    simp only [wL, if_neg hne]))
  rw [← hcell] at hs
  unfold PA
  rw [← hs]
  exact hP1
/-- what stands in an array of ints, the two tables and the script too -/
def rdA (X : XS) (w : Wd) (k i j : Nat) : Int32 := if k = 40 then tensA j else if k = 41 then facsA j else if k = 42 then X.2 j else w.1 k i j
def arrK (k i : Nat) : Bool := (intK k && decide (i < cntK k)) || ((k == 40 || k == 41 || k == 42) && i == 0)
theorem arrK_cases {k i : Nat} (h : arrK k i = true) : (intK k = true ∧ i < cntK k) ∨ ((k = 40 ∨ k = 41 ∨ k = 42) ∧ i = 0) := by
  simp only [arrK, Bool.or_eq_true, Bool.and_eq_true, decide_eq_true_eq, beq_iff_eq] at h
  rcases h with h | h
  · exact Or.inl h
  · exact Or.inr ⟨by rcases h.1 with (h | h) | h <;> simp [h], h.2⟩
theorem intK_lt {k : Nat} (h : intK k = true) : k < 34 := by
  simp only [intK, Bool.and_eq_true, decide_eq_true_eq] at h
  exact h.1.1.2
theorem aw_iald {k i : Nat} {x : Int32} {v : Int32} (h : decode M.2.1 pc = .ok (.iaload, 1) ∧ pc + 1 = pc') (hk : arrK k i = true) (hin : vp_in x (lenK X k)) (hv : rdA X w k i x.toNatClampNeg = v) (K : AW d X M pc' ls (aI v :: st) w Q) : AW d X M pc ls (aI x :: aR k i :: st) w Q := by
  intro al D cI cZ cS lo p l e R s m args below meth c H locs cells slots la Z hC hE hce hsl hP hS hl hZ
  obtain ⟨hx, hb, hml, hown, hts, hlk, hrt, hdf, hdl⟩ := id hC
  obtain ⟨hd, rfl⟩ := h
  subst hv
  rcases arrK_cases hk with ⟨h1, h2⟩ | ⟨h1, rfl⟩
  · obtain ⟨p0, hp0⟩ := keys_in h2
    have he := wsA_at (X := X) (al := al) (cI := cI) (cZ := cZ) (cS := cS) (w := w) hp0
    rw [cellA_int h1] at he
    have h34 := intK_lt h1
    have erd : rdA X w k i x.toNatClampNeg = w.1 k i x.toNatClampNeg := by
      unfold rdA; rw [if_neg (by omega), if_neg (by omega), if_neg (by omega)]
    rw [erd] at K
    exact va_iald hx hb hE.1 hP p0 0 he rfl hin hd (K al D cI cZ cS lo p l e R s m args below meth c H locs cells slots la Z hC hE hce hsl hP hS hl hZ)
  · rcases h1 with rfl | rfl | rfl
    · exact va_ti hx hb hE.2.2.1.1 hS hin rfl hd (K al D cI cZ cS lo p l e R s m args below meth c H locs cells slots la Z hC hE hce hsl hP hS hl hZ)
    · exact va_ti hx hb hE.2.2.1.2.1 hS hin rfl hd (K al D cI cZ cS lo p l e R s m args below meth c H locs cells slots la Z hC hE hce hsl hP hS hl hZ)
    · exact va_ti hx hb hE.2.2.1.2.2 hS hin rfl hd (K al D cI cZ cS lo p l e R s m args below meth c H locs cells slots la Z hC hE hce hsl hP hS hl hZ)
theorem aw_zald {k i : Nat} {x : Int32} (h : decode M.2.1 pc = .ok (.baload, 1) ∧ pc + 1 = pc') (hk : bolK k = true) (hi : i < cntK k) (hin : vp_in x (lenK X k)) (K : AW d X M pc' ls (aI (w.1 k i x.toNatClampNeg) :: st) w Q) : AW d X M pc ls (aI x :: aR k i :: st) w Q := by
  intro al D cI cZ cS lo p l e R s m args below meth c H locs cells slots la Z hC hE hce hsl hP hS hl hZ
  obtain ⟨hx, hb, hml, hown, hts, hlk, hrt, hdf, hdl⟩ := id hC
  obtain ⟨hd, rfl⟩ := h
  obtain ⟨p0, hp0⟩ := keys_in hi
  have he := wsA_at (X := X) (al := al) (cI := cI) (cZ := cZ) (cS := cS) (w := w) hp0
  rw [cellA_bol hk] at he
  exact va_zald hx hb hE.1 hP p0 1 he rfl hin hd (K al D cI cZ cS lo p l e R s m args below meth c H locs cells slots la Z hC hE hce hsl hP hS hl hZ)
theorem wS_cell {X : XS} {al : AM} {cI cZ cS : ClassId} {w : Wd} {k i j p0 : Nat} {x : Int32} {H1 : Heap} {D : va_G} {cA : ClassId} (hp0 : keysA[p0]? = some (k, i)) (hc : ∀ w : Wd, cellA X al cI cZ cS w (k, i) = .inl (cA, lenK X k, .inl (w.1 k i))) (hP1 : va_P D vwCl ((wsA X al cI cZ cS w).set p0 (al k i, .inl (cA, lenK X k, .inl (upd (w.1 k i) j x)))) H1) : PA X al D cI cZ cS (wS w k i j x) H1 := by
  have hs := wsA_set (X := X) (al := al) (cI := cI) (cZ := cZ) (cS := cS) (w := w) (w' := wS w k i j x) hp0 (fun q _ hq => cellA_off (wS_off (fun z => hq (Prod.ext z.1 z.2))) rfl)
  rw [hc, wS_same] at hs
  unfold PA
  rw [← hs]
  exact hP1
theorem aw_iast {k i : Nat} {x y : Int32} (h : decode M.2.1 pc = .ok (.iastore, 1) ∧ pc + 1 = pc') (hk : intK k = true) (hi : i < cntK k) (hin : vp_in x (lenK X k)) (K : AW d X M pc' ls st (wS w k i x.toNatClampNeg y) Q) : AW d X M pc ls (aI y :: aI x :: aR k i :: st) w Q := by
  intro al D cI cZ cS lo p l e R s m args below meth c H locs cells slots la Z hC hE hce hsl hP hS hl hZ
  obtain ⟨hx, hb, hml, hown, hts, hlk, hrt, hdf, hdl⟩ := id hC
  obtain ⟨hd, rfl⟩ := h
  obtain ⟨p0, hp0⟩ := keys_in hi
  have he := wsA_at (X := X) (al := al) (cI := cI) (cZ := cZ) (cS := cS) (w := w) hp0
  rw [cellA_int hk] at he
  exact va_iast hx hb hE.1 hP (wsA_D hE.2.1) hS p0 0 he rfl hin hd (fun H1 locs1 hP1 _ hS1 => K al D cI cZ cS lo p l e R s m args below meth c H1 locs1 cells slots la Z hC hE hce hsl (wS_cell hp0 (fun _ => cellA_int hk) hP1) hS1 hl hZ)
theorem aw_zast {k i : Nat} {x y : Int32} (h : decode M.2.1 pc = .ok (.bastore, 1) ∧ pc + 1 = pc') (hk : bolK k = true) (hi : i < cntK k) (hin : vp_in x (lenK X k)) (hy : vp_nar .boolean y = y) (K : AW d X M pc' ls st (wS w k i x.toNatClampNeg y) Q) : AW d X M pc ls (aI y :: aI x :: aR k i :: st) w Q := by
  intro al D cI cZ cS lo p l e R s m args below meth c H locs cells slots la Z hC hE hce hsl hP hS hl hZ
  obtain ⟨hx, hb, hml, hown, hts, hlk, hrt, hdf, hdl⟩ := id hC
  obtain ⟨hd, rfl⟩ := h
  obtain ⟨p0, hp0⟩ := keys_in hi
  have he := wsA_at (X := X) (al := al) (cI := cI) (cZ := cZ) (cS := cS) (w := w) hp0
  rw [cellA_bol hk] at he
  exact va_zast hx hb hE.1 hP (wsA_D hE.2.1) hS p0 1 he rfl hin hd (fun H1 locs1 hP1 _ hS1 => K al D cI cZ cS lo p l e R s m args below meth c H1 locs1 cells slots la Z hC hE hce hsl (wS_cell hp0 (fun _ => cellA_bol hk) (by rw [hy] at hP1; exact hP1)) hS1 hl hZ)
theorem aw_alenI {k i : Nat} {v : Int32} (h : decode M.2.1 pc = .ok (.arraylength, 1) ∧ pc + 1 = pc') (hk : arrK k i = true) (hv : Int32.ofNat (lenK X k) = v) (K : AW d X M pc' ls (aI v :: st) w Q) : AW d X M pc ls (aR k i :: st) w Q := by
  intro al D cI cZ cS lo p l e R s m args below meth c H locs cells slots la Z hC hE hce hsl hP hS hl hZ
  obtain ⟨hx, hb, hml, hown, hts, hlk, hrt, hdf, hdl⟩ := id hC
  obtain ⟨hd, rfl⟩ := h
  rcases arrK_cases hk with ⟨h1, h2⟩ | ⟨h1, rfl⟩
  · obtain ⟨p0, hp0⟩ := keys_in h2
    have he := wsA_at (X := X) (al := al) (cI := cI) (cZ := cZ) (cS := cS) (w := w) hp0
    rw [cellA_int h1] at he
    exact va_alen hx hb hE.1 hP p0 0 he rfl hv hd (K al D cI cZ cS lo p l e R s m args below meth c H locs cells slots la Z hC hE hce hsl hP hS hl hZ)
  · rcases h1 with rfl | rfl | rfl
    · exact va_tlen hx hb hE.2.2.1.1 hS hv hd (K al D cI cZ cS lo p l e R s m args below meth c H locs cells slots la Z hC hE hce hsl hP hS hl hZ)
    · exact va_tlen hx hb hE.2.2.1.2.1 hS hv hd (K al D cI cZ cS lo p l e R s m args below meth c H locs cells slots la Z hC hE hce hsl hP hS hl hZ)
    · exact va_tlen hx hb hE.2.2.1.2.2 hS hv hd (K al D cI cZ cS lo p l e R s m args below meth c H locs cells slots la Z hC hE hce hsl hP hS hl hZ)
theorem aw_alenZ {k i : Nat} {v : Int32} (h : decode M.2.1 pc = .ok (.arraylength, 1) ∧ pc + 1 = pc') (hk : bolK k = true) (hi : i < cntK k) (hv : Int32.ofNat (lenK X k) = v) (K : AW d X M pc' ls (aI v :: st) w Q) : AW d X M pc ls (aR k i :: st) w Q := by
  intro al D cI cZ cS lo p l e R s m args below meth c H locs cells slots la Z hC hE hce hsl hP hS hl hZ
  obtain ⟨hx, hb, hml, hown, hts, hlk, hrt, hdf, hdl⟩ := id hC
  obtain ⟨hd, rfl⟩ := h
  obtain ⟨p0, hp0⟩ := keys_in hi
  have he := wsA_at (X := X) (al := al) (cI := cI) (cZ := cZ) (cS := cS) (w := w) hp0
  rw [cellA_bol hk] at he
  exact va_alen hx hb hE.1 hP p0 1 he rfl hv hd (K al D cI cZ cS lo p l e R s m args below meth c H locs cells slots la Z hC hE hce hsl hP hS hl hZ)
/-- the arrays of stands: kept (34), before (35) -/
def refB : Nat → Nat
  | 34 => 3
  | _ => 5
theorem cellA_ref {X : XS} {al : AM} {cI cZ cS : ClassId} {w : Wd} {k : Nat} (hk : k = 34 ∨ k = 35) : cellA X al cI cZ cS w (k, 0) = .inl (cS, lenK X k, .inr (.inr (.inr (.inr (fun j => if j < lenK X k then some (al 3 (refB k + j)) else none))))) := by
  rcases hk with rfl | rfl <;> rfl
theorem aw_alenR {k : Nat} {v : Int32} (h : decode M.2.1 pc = .ok (.arraylength, 1) ∧ pc + 1 = pc') (hk : k = 34 ∨ k = 35) (hv : Int32.ofNat (lenK X k) = v) (K : AW d X M pc' ls (aI v :: st) w Q) : AW d X M pc ls (aR k 0 :: st) w Q := by
  intro al D cI cZ cS lo p l e R s m args below meth c H locs cells slots la Z hC hE hce hsl hP hS hl hZ
  obtain ⟨hx, hb, hml, hown, hts, hlk, hrt, hdf, hdl⟩ := id hC
  obtain ⟨hd, rfl⟩ := h
  obtain ⟨p0, hp0⟩ := keys_in (k := k) (i := 0) (by rcases hk with rfl | rfl <;> decide)
  have he := wsA_at (X := X) (al := al) (cI := cI) (cZ := cZ) (cS := cS) (w := w) hp0
  rw [cellA_ref hk] at he
  exact va_alen hx hb hE.1 hP p0 2 he rfl hv hd (K al D cI cZ cS lo p l e R s m args below meth c H locs cells slots la Z hC hE hce hsl hP hS hl hZ)
theorem aw_aald {k : Nat} {x : Int32} (h : decode M.2.1 pc = .ok (.aaload, 1) ∧ pc + 1 = pc') (hk : k = 34 ∨ k = 35) (hin : vp_in x (lenK X k)) (K : AW d X M pc' ls (aR 3 (refB k + x.toNatClampNeg) :: st) w Q) : AW d X M pc ls (aI x :: aR k 0 :: st) w Q := by
  intro al D cI cZ cS lo p l e R s m args below meth c H locs cells slots la Z hC hE hce hsl hP hS hl hZ
  obtain ⟨hx, hb, hml, hown, hts, hlk, hrt, hdf, hdl⟩ := id hC
  obtain ⟨hd, rfl⟩ := h
  obtain ⟨p0, hp0⟩ := keys_in (k := k) (i := 0) (by rcases hk with rfl | rfl <;> decide)
  have he := wsA_at (X := X) (al := al) (cI := cI) (cZ := cZ) (cS := cS) (w := w) hp0
  rw [cellA_ref hk] at he
  have hlt : x.toNatClampNeg < lenK X k := Nat.not_le.mp fun q => hin (Or.inr q)
  refine va_aldq hx hb hE.1 hP p0 2 he rfl hin hd ?_
  rw [if_pos hlt]
  exact (K al D cI cZ cS lo p l e R s m args below meth c H locs cells slots la Z hC hE hce hsl hP hS hl hZ)
theorem aw_getsT {idx : Nat} (h : decode M.2.1 pc = .ok (.getstatic idx, 3) ∧ pc + 3 = pc') (hw : Cond.fieldLink M.1.cls idx RX5 "TENS" "[I" ∈ TT) (K : AW d X M pc' ls (aR 40 0 :: st) w Q) : AW d X M pc ls st w Q := by
  intro al D cI cZ cS lo p l e R s m args below meth c H locs cells slots la Z hC hE hce hsl hP hS hl hZ
  obtain ⟨hx, hb, hml, hown, hts, hlk, hrt, hdf, hdl⟩ := id hC
  obtain ⟨hd, rfl⟩ := h
  exact va_gets hx hb hE.2.2.2.1 hS hown (hts _ hw) (fun _ h => h) hd (K al D cI cZ cS lo p l e R s m args below meth c H locs cells slots la Z hC hE hce hsl hP hS hl hZ)
theorem aw_getsF {idx : Nat} (h : decode M.2.1 pc = .ok (.getstatic idx, 3) ∧ pc + 3 = pc') (hw : Cond.fieldLink M.1.cls idx RX5 "FACTORIALS" "[I" ∈ TT) (K : AW d X M pc' ls (aR 41 0 :: st) w Q) : AW d X M pc ls st w Q := by
  intro al D cI cZ cS lo p l e R s m args below meth c H locs cells slots la Z hC hE hce hsl hP hS hl hZ
  obtain ⟨hx, hb, hml, hown, hts, hlk, hrt, hdf, hdl⟩ := id hC
  obtain ⟨hd, rfl⟩ := h
  exact va_gets hx hb hE.2.2.2.2.1 hS hown (hts _ hw) (fun _ h => h) hd (K al D cI cZ cS lo p l e R s m args below meth c H locs cells slots la Z hC hE hce hsl hP hS hl hZ)
/-! the ends -/
theorem aw_ret {r : Option AV} (hr : RI M pc r) (hq : Q r w) : AW d X M pc ls r.toList w Q := by
  intro al D cI cZ cS lo p l e R s m args below meth c H locs cells slots la Z hC hE hce hsl hP hS hl hZ
  obtain ⟨hx, hb, hml, hown, hts, hlk, hrt, hdf, hdl⟩ := id hC
  exact hZ r w H locs la pc hq hr hP hS
theorem aw_iret {x : Int32} (h : decode M.2.1 pc = .ok (.ireturn, 1)) (hn : M.2.2.2 = some .int) (hq : Q (some (aI x)) w) : AW d X M pc ls [aI x] w Q := aw_ret (r := some (aI x)) ⟨h, _, hn, rfl⟩ hq
theorem aw_zret {x : Int32} (h : decode M.2.1 pc = .ok (.ireturn, 1)) (hn : M.2.2.2 = some .boolean) (hb : narrow .boolean (.int x) = .int x) (hq : Q (some (aI x)) w) : AW d X M pc ls [aI x] w Q := aw_ret (r := some (aI x)) ⟨h, _, hn, hb⟩ hq
theorem aw_vret (h : decode M.2.1 pc = .ok (.return_, 1)) (hn : M.2.2.2 = none) (hq : Q none w) : AW d X M pc ls [] w Q := aw_ret (r := none) ⟨h, hn⟩ hq
theorem aw_lret {x : Int64} (h : decode M.2.1 pc = .ok (.lreturn, 1)) (hn : M.2.2.2 = some .long) (hq : Q (some (aL x)) w) : AW d X M pc ls [aL x] w Q := aw_ret (r := some (aL x)) ⟨h, hn⟩ hq
theorem aw_aret {a b : Nat} {nm : String} (h : decode M.2.1 pc = .ok (.areturn, 1)) (hn : M.2.2.2 = some (.object nm)) (hq : Q (some (aR a b)) w) : AW d X M pc ls [aR a b] w Q := aw_ret (r := some (aR a b)) ⟨h, _, hn, Or.inl ⟨_, rfl⟩⟩ hq
/-! fewer locals; another end; more room -/
theorem aw_loc {ls' : List (Option AV)} (h : ∀ (i : Nat) (a : AV), ls'[i]? = some (some a) → ls[i]? = some (some a)) (K : AW d X M pc ls' st w Q) : AW d X M pc ls st w Q := by
  intro al D cI cZ cS lo p l e R s m args below meth c H locs cells slots la Z hC hE hce hsl hP hS hl hZ
  obtain ⟨hx, hb, hml, hown, hts, hlk, hrt, hdf, hdl⟩ := id hC
  exact K al D cI cZ cS lo p l e R s m args below meth c H locs cells slots la Z hC hE hce hsl hP hS ⟨hl.1, hl.2.1, fun i a hi => hl.2.2 i a (h i a hi)⟩ hZ
theorem aw_post {Q' : Option AV → Wd → Prop} (h : ∀ r w', Q' r w' → Q r w') (K : AW d X M pc ls st w Q') : AW d X M pc ls st w Q := by
  intro al D cI cZ cS lo p l e R s m args below meth c H locs cells slots la Z hC hE hce hsl hP hS hl hZ
  obtain ⟨hx, hb, hml, hown, hts, hlk, hrt, hdf, hdl⟩ := id hC
  exact K al D cI cZ cS lo p l e R s m args below meth c H locs cells slots la Z hC hE hce hsl hP hS hl (fun r w' H' locs' la' pc' hq => hZ r w' H' locs' la' pc' (h r w' hq))
theorem aw_deep {d' : Nat} (h : d' ≤ d) (K : AW d' X M pc ls st w Q) : AW d X M pc ls st w Q := by
  intro al D cI cZ cS lo p l e R s m args below meth c H locs cells slots la Z hC hE hce hsl hP hS hl hZ
  obtain ⟨hx, hb, hml, hown, hts, hlk, hrt, hdf, hdl⟩ := id hC
  exact K al D cI cZ cS lo p l e R s m args below meth c H locs cells slots la Z ⟨hx, hb, hml, hown, hts, hlk, hrt, Nat.le_trans h hdf, Nat.le_trans (Nat.mul_le_mul_left 40 h) hdl⟩ hE hce hsl hP hS hl hZ
end AWR

/-! calls -/
def entA (n : Nat) (as : List AV) : List (Option AV) :=
  let l := as.flatMap fun a => match a with
    | .inr (.inl _) => [some a, none]
    | _ => [some a]
  l ++ List.replicate (n - l.length) none
def catA : AV → Nat
  | .inr (.inl _) => 2
  | _ => 1
theorem catA_eq (al : AM) (a : AV) : (cv al a).category = catA a := by
  match a with
  | .inl _ => rfl
  | .inr (.inl _) => rfl
  | .inr (.inr (some _)) => rfl
  | .inr (.inr none) => rfl
def RmA (d : Nat) : Room := { frames := d, cells := 0, slots := 0, locals := 40 * d }
theorem lv_args_at (al : AM) : ∀ (as : List AV) (i : Nat) (j : Nat) (a : AV), (as.flatMap fun a => match a with
    | .inr (.inl _) => [some a, none]
    | _ => [some a])[j]? = some (some a) → (i + j, cv al a) ∈ lv_args i (as.map (cv al)) := by
  intro as
  induction as with
  | nil => intro i j a h; simp at h
  | cons b bs ih =>
    intro i j a h
    show (i + j, cv al a) ∈ (i, cv al b) :: lv_args (if (cv al b).category = 2 then i + 2 else i + 1) (bs.map (cv al))
    rw [catA_eq]
    match b, h with
    | .inr (.inl x), h =>
      match j, h with
      | 0, h => simp at h; rw [← h]; exact List.mem_cons_self
      | 1, h => simp at h
      | j + 2, h =>
        refine List.mem_cons_of_mem _ ?_
        have h1 := ih (i + 2) j a (by simpa using h)
        rw [show i + (j + 2) = i + 2 + j by omega]
        exact h1
    | .inl x, h =>
      match j, h with
      | 0, h => simp at h; rw [← h]; exact List.mem_cons_self
      | j + 1, h =>
        refine List.mem_cons_of_mem _ ?_
        have h1 := ih (i + 1) j a (by simpa using h)
        rw [show i + (j + 1) = i + 1 + j by omega]
        exact h1
    | .inr (.inr x), h =>
      match j, h with
      | 0, h => simp at h; rw [← h]; exact List.mem_cons_self
      | j + 1, h =>
        refine List.mem_cons_of_mem _ ?_
        have h1 := ih (i + 1) j a (by simpa using h)
        rw [show i + (j + 1) = i + 1 + j by omega]
        cases x <;> exact h1
theorem entA_len (al : AM) : ∀ (as : List AV), (lg_sl (as.map (cv al))).length = (as.flatMap fun a => match a with
    | .inr (.inl _) => [some a, none]
    | _ => [some a]).length := by
  intro as
  induction as with
  | nil => rfl
  | cons b bs ih =>
    simp only [List.map_cons, lg_sl, List.flatMap_cons, List.length_append, catA_eq] at ih ⊢
    rw [ih]
    match b with
    | .inr (.inl x) => rfl
    | .inl x => rfl
    | .inr (.inr (some x)) => rfl
    | .inr (.inr none) => rfl
theorem LA.entry (al : AM) (as : List AV) (n : Nat) (h : (lg_sl (as.map (cv al))).length ≤ n) : LA al ((lg_sl (as.map (cv al)) ++ List.replicate (n - (lg_sl (as.map (cv al))).length) Slot.unset).toArray) n (entA n as) := by
  obtain ⟨h1, h2, h3⟩ := lv_entry (as.map (cv al)) h
  refine ⟨h1, h2, fun i a hi => ?_⟩
  have hm : (i, cv al a) ∈ lv_args 0 (as.map (cv al)) := by
    unfold entA at hi
    dsimp only at hi
    by_cases hlt : i < (as.flatMap fun a => match a with
      | .inr (.inl _) => [some a, none]
      | _ => [some a]).length
    · rw [List.getElem?_append_left hlt] at hi
      have := lv_args_at al as 0 i a hi
      rwa [Nat.zero_add] at this
    · rw [List.getElem?_append_right (by omega)] at hi
      have := List.eq_of_mem_replicate (List.mem_of_getElem? hi)
      cases this
  exact h3 _ hm
/-- what the tables say of a method: C: the class that is asked; n: how many arguments it takes, this aside; ln: how many places they take -/
def MI (N : MD) (C : String) (n ln : Nat) : Prop := N.1.cls = C ∧ Cond.instanceMethod N.1 ∈ TT ∧ Cond.selects C N.1 N.1 ∈ TT ∧ Cond.initialized C ∈ TT ∧ Cond.code N.1 N.2.1 N.2.2.1 N.2.2.2 ∈ TT ∧ (N.1.cls ≠ "java/lang/invoke/MethodHandle" ∧ N.1.cls ≠ "java/lang/invoke/VarHandle" ∧ (parseMethodDescriptor N.1.desc).map (fun d => d.parameters.length) = some n) ∧ N.2.2.1 ≤ 20 ∧ plainName N.1.cls = true ∧ ln ≤ N.2.2.1
def MS (N : MD) (n ln : Nat) : Prop := Cond.static N.1 ∈ TT ∧ Cond.initialized N.1.cls ∈ TT ∧ Cond.code N.1 N.2.1 N.2.2.1 N.2.2.2 ∈ TT ∧ (N.1.cls ≠ "java/lang/invoke/MethodHandle" ∧ N.1.cls ≠ "java/lang/invoke/VarHandle" ∧ (parseMethodDescriptor N.1.desc).map (fun d => d.parameters.length) = some n) ∧ N.2.2.1 ≤ 20 ∧ plainName N.1.cls = true ∧ ln ≤ N.2.2.1
def QA (X : XS) (al : AM) (D : va_G) (cI cZ cS : ClassId) (lo : Nat) (Q : Option AV → Wd → Prop) : Array Value → State → Outcome → State → Prop := fun _ st o t => ∃ r w', o = .returned (r.map (cv al)) ∧ Q r w' ∧ PA X al D cI cZ cS w' t.heap ∧ va_F (fun q => lo ≤ q) st t
theorem EA.moved {X : XS} {al : AM} {D : va_G} {cI cZ cS : ClassId} {lo : Nat} {s U : State} {H : Heap} {locs : List Loc} (h : EA X al D cI cZ cS lo s) (hvm : s.vm.Alike U.vm) (hN : ∀ q ∈ nestsA, va_Nw (.methodLinkNest q.1 q.2.1 q.2.2 RX5) U) (hU : U.heap = H) (hS : va_S (fun q => lo ≤ q) s.heap H locs) : EA X al D cI cZ cS lo U := by
  subst hU
  exact ⟨h.1.moved hvm, h.2.1, ⟨(h.2.2.1.1.kept hS.2.1).moved hvm, (h.2.2.1.2.1.kept hS.2.1).moved hvm, (h.2.2.1.2.2.kept hS.2.1).moved hvm⟩, (h.2.2.2.1.kept hS.2.1).moved hvm, (h.2.2.2.2.1.kept hS.2.1).moved hvm, hN⟩
theorem EA.warm {X : XS} {al : AM} {D : va_G} {cI cZ cS : ClassId} {lo : Nat} {s U : State} {H : Heap} {locs : List Loc} (h : EA X al D cI cZ cS lo s) (hW : s.WarmedH U.vm) (hU : U.heap = H) (hS : va_S (fun q => lo ≤ q) s.heap H locs) : EA X al D cI cZ cS lo U :=
  h.moved hW.alike (fun q hq => va_Nw.warmM hW (h.2.2.2.2.2 q hq)) hU hS
theorem met_aw {d : Nat} {X : XS} {N : MD} {l : Launch} {w : Wd} {Q : Option AV → Wd → Prop} {as : List AV} {al : AM} {D : va_G} {cI cZ cS : ClassId} {lo : Nat} (hp : plainName N.1.cls = true) (hln : (lg_sl (as.map (cv al))).length ≤ N.2.2.1) (C : AW d X N 0 (entA N.2.2.1 as) [] w Q) :
    Met l N.1 (Cond.code N.1 N.2.1 N.2.2.1 N.2.2.2 :: TT) (RmA d) (va_Pc (as.map (cv al)) (fun U => EA X al D cI cZ cS lo U ∧ PA X al D cI cZ cS w U.heap)) (QA X al D cI cZ cS lo Q) 0 0 (fun q => lo ≤ q) := by
  refine Met.ofW (cc := N.2.1) (maxL := N.2.2.1) (ret := N.2.2.2) hp rfl ?_
  intro p e s m args below meth c s₁ B hml hv
  obtain ⟨rfl, hE, hP⟩ := hv
  have hts := atoms_spec (ws := Cond.code N.1 N.2.1 N.2.2.1 N.2.2.2 :: TT) B.pre
  rw [lg_entry_eq]
  refine C al D cI cZ cS lo p l e (headSpec (Cond.code N.1 N.2.1 N.2.2.1 N.2.2.2 :: TT) (RmA d)).room s m ((as.map (cv al)).toArray) below meth c s.heap [] 0 0 _ _ ⟨B.exec, B.bytes, hml, findClass_of_methodNamed B.named, fun w hw => hts w (List.mem_cons_of_mem _ hw), B.notSynchronized, B.returns, Nat.le_refl _, Nat.le_refl _⟩ hE (Nat.zero_le _) (Nat.zero_le _) hP va_S.rf (LA.entry al as N.2.2.1 hln) ?_
  intro r w' H' locs' la' pc' hq hri hP' hS'
  have hlk := B.notSynchronized
  match r, hri, hq with
  | none, ⟨h1, h2⟩, hq => exact W.vret B.exec B.bytes (B.returns.trans h2) (fun t ht _ => ⟨none, w', rfl, hq, by rw [ht]; exact hP', hS'.F ht⟩) hS'.2.2 h1 hlk
  | some (.inl x), ⟨h1, ty, h2, h3⟩, hq => exact W.zret B.exec B.bytes (B.returns.trans h2) h3 (fun t ht _ => ⟨some (aI x), w', rfl, hq, by rw [ht]; exact hP', hS'.F ht⟩) hS'.2.2 h1 hlk
  | some (.inr (.inl x)), ⟨h1, h2⟩, hq => exact W.lret B.exec B.bytes (B.returns.trans h2) (fun t ht _ => ⟨some (aL x), w', rfl, hq, by rw [ht]; exact hP', hS'.F ht⟩) hS'.2.2 h1 hlk
  | some (.inr (.inr (some x))), ⟨h1, rt, h2, h3⟩, hq => exact W.aret B.exec B.bytes (B.returns.trans h2) h3 (Or.inr ⟨_, rfl⟩) (fun t ht _ => ⟨some (.inr (.inr (some x))), w', rfl, hq, by rw [ht]; exact hP', hS'.F ht⟩) hS'.2.2 h1 hlk
  | some (.inr (.inr none)), ⟨h1, rt, h2, h3⟩, hq => exact W.aret B.exec B.bytes (B.returns.trans h2) h3 (Or.inl rfl) (fun t ht _ => ⟨some aN, w', rfl, hq, by rw [ht]; exact hP', hS'.F ht⟩) hS'.2.2 h1 hlk
theorem blindA {X : XS} {al : AM} {D : va_G} {cI cZ cS : ClassId} {lo : Nat} {w : Wd} {vs : List Value} : FrameBlind (va_Pc vs (fun U => EA X al D cI cZ cS lo U ∧ PA X al D cI cZ cS w U.heap)) := fun a U g mk q => ⟨q.1, EA.moved (locs := []) q.2.1 (U := U.calling g mk a) (Vm.Alike.refl U.vm) (fun x hx => va_Nw.same rfl (show U.vm = (U.calling g mk a).vm from rfl) (q.2.1.2.2.2.2.2 x hx)) rfl va_S.rf, q.2.2⟩
theorem lenA_eq (al : AM) (as : List AV) : (lg_sl (as.map (cv al))).length = (as.map catA).sum := by
  rw [entA_len]
  induction as with
  | nil => rfl
  | cons b bs ih =>
    simp only [List.flatMap_cons, List.length_append, List.map_cons, List.sum_cons, ih]
    match b with
    | .inr (.inl x) => rfl
    | .inl x => rfl
    | .inr (.inr (some x)) => rfl
    | .inr (.inr none) => rfl
theorem sumA_eq (al : AM) (st : List AV) : ((st.map (cv al)).map fun v => v.category).sum = (st.map catA).sum := by
  rw [List.map_map]
  congr 1
  apply List.map_congr_left
  intro a _
  exact catA_eq al a
section AWC
variable {d : Nat} {X : XS} {M : MD} {pc pc' : Nat} {ls : List (Option AV)} {st : List AV} {w : Wd} {Q Q' : Option AV → Wd → Prop}

theorem aw_callV {d' idx n ln : Nat} {N : MD} (as : List AV) {k i : Nat} (h : decode M.2.1 pc = .ok (.invokevirtual idx, 3) ∧ pc + 3 = pc') (hw : Cond.methodLink M.1.cls idx N.1 ∈ TT) (hN : MI N (RK k) n ln) (hk : k < 7) (hi : i < cntK k) (hdd : d' + 1 ≤ d) (hn : as.length = n) (hln : ((aR k i :: as).map catA).sum = ln) (hst : (st.map catA).sum ≤ 8) (C : AW d' X N 0 (entA N.2.2.1 (aR k i :: as)) [] w Q') (K : ∀ r w', Q' r w' → AW d X M pc' ls (r.toList ++ st) w' Q) : AW d X M pc ls (as.reverse ++ aR k i :: st) w Q := by
  intro al D cI cZ cS lo p l e R s m args below meth c H locs cells slots la Z hC hE hce hsl hP hS hl hZ
  obtain ⟨hx, hb, hml, hown, hts, hlk, hrt, hdf, hdl⟩ := id hC
  obtain ⟨hd, rfl⟩ := h
  have hroom : (RmA d').frames + 1 ≤ R.frames ∧ 8 + (N.2.2.1 + 11) + (RmA d').locals ≤ R.locals := ⟨Nat.le_trans hdd hdf, by
    show 8 + (N.2.2.1 + 11) + 40 * d' ≤ R.locals
    have h20 : N.2.2.1 ≤ 20 := hN.2.2.2.2.2.2.1
    omega⟩
  obtain ⟨hcls, hin, hse, hini, hco, hdd2, h20, hpl, hll⟩ := hN
  have hG : GoodIn TT (wsV M.1.cls idx (RK k) N.1 (Cond.code N.1 N.2.1 N.2.2.1 N.2.2.2 :: TT)) := fun v hv => by
    have hm : v ∈ TT := by
      rcases List.mem_append.mp hv with h1 | h1
      · simp only [List.mem_cons, List.not_mem_nil, or_false] at h1
        rcases h1 with rfl | rfl | rfl | rfl
        · exact hw
        · exact hin
        · exact hse
        · exact hini
      · rcases List.mem_cons.mp h1 with rfl | h1
        · exact hco
        · exact h1
    exact ⟨hm, (tt_goodIn v hm).2⟩
  obtain ⟨p0, hp0⟩ := keys_in hi
  have he := wsA_at (X := X) (al := al) (cI := cI) (cZ := cZ) (cS := cS) (w := w) hp0
  rw [cellA_obj hk] at he
  have hrun := va_runV (p := p) (l := l) (e := e) (R := R) (below := below) (meth := meth) (locs := locs) (cells := cells) (slots := slots) (g := F0 m pc la (List.map (cv al) (as.reverse ++ aR k i :: st))) (As := as.map (cv al)) (b := al k i) (rest := st.map (cv al)) ⟨hx, hb, hml, hown, hts⟩
    (met_aw (l := l) (as := (aR k i :: as)) (al := al) (D := D) (cI := cI) (cZ := cZ) (cS := cS) (lo := lo) hpl (by rw [lenA_eq, hln]; exact hll) C)
    (cwV n hts hG rfl rfl rfl ⟨hcls, hdd2⟩ hroom)
    ⟨blindA, va_recv hE.1 hP (vw_at k hk) he, fun U hU hW => ⟨rfl, hE.warm hW hU hS, by rw [hU]; exact hP⟩⟩
    rfl (by rw [List.length_map]; exact hn) (hl.1) (by show List.map (cv al) _ = _; rw [List.map_append, List.map_reverse]; rfl) (lv_room (by rw [sumA_eq]; exact hst)) hd ⟨hce, hsl⟩
  intro T hT XX
  obtain ⟨v, st₀, t, T', L, h0, X', hL, e1, e2, ⟨r, w', hv, hq, hP', hF⟩, stp⟩ := hrun T hT XX
  have hvr : v = r.map (cv al) := by cases hv; rfl
  subst hvr
  have hS' : va_S (fun q => lo ≤ q) s.heap t.heap (locs ++ L) := ⟨Nat.le_trans hS.1 (by rw [← h0]; exact hF.1), fun q h1 h2 => by
      rw [hF.2 q (by rw [h0]; exact Nat.lt_of_lt_of_le h1 hS.1) h2, h0]
      exact hS.2.1 q h1 h2, fun q hq => by
      rcases List.mem_append.mp hq with h | h
      · exact hS.2.2 q h
      · exact hL q h⟩
  obtain ⟨t2, a1, b1⟩ := K r w' hq al D cI cZ cS lo p l e R s m args below meth c t.heap (locs ++ L) cells slots la Z hC hE hce hsl hP' hS' hl hZ T' e1 X'
  refine ⟨t2, stp t2 ?_, b1⟩
  have hst2 : (r.map (cv al)).toList ++ st.map (cv al) = (r.toList ++ st).map (cv al) := by
    rw [List.map_append]
    cases r <;> rfl
  rw [hst2]
  exact a1
theorem aw_callS {d' idx n ln : Nat} {N : MD} (as : List AV) (h : decode M.2.1 pc = .ok (.invokestatic idx, 3) ∧ pc + 3 = pc') (hw : Cond.methodLink M.1.cls idx N.1 ∈ TT) (hN : MS N n ln) (hdd : d' + 1 ≤ d) (hn : as.length = n) (hln : (as.map catA).sum = ln) (hst : (st.map catA).sum ≤ 8) (C : AW d' X N 0 (entA N.2.2.1 as) [] w Q') (K : ∀ r w', Q' r w' → AW d X M pc' ls (r.toList ++ st) w' Q) : AW d X M pc ls (as.reverse ++ st) w Q := by
  intro al D cI cZ cS lo p l e R s m args below meth c H locs cells slots la Z hC hE hce hsl hP hS hl hZ
  obtain ⟨hx, hb, hml, hown, hts, hlk, hrt, hdf, hdl⟩ := id hC
  obtain ⟨hd, rfl⟩ := h
  have hroom : (RmA d').frames + 1 ≤ R.frames ∧ 8 + (N.2.2.1 + 11) + (RmA d').locals ≤ R.locals := ⟨Nat.le_trans hdd hdf, by
    show 8 + (N.2.2.1 + 11) + 40 * d' ≤ R.locals
    have h20 : N.2.2.1 ≤ 20 := hN.2.2.2.2.1
    omega⟩
  obtain ⟨hin, hini, hco, hdd2, h20, hpl, hll⟩ := hN
  have hG : GoodIn TT (va_wsS M.1.cls idx N.1 (Cond.code N.1 N.2.1 N.2.2.1 N.2.2.2 :: TT)) := fun v hv => by
    have hm : v ∈ TT := by
      rcases List.mem_append.mp hv with h1 | h1
      · simp only [List.mem_cons, List.not_mem_nil, or_false] at h1
        rcases h1 with rfl | rfl | rfl
        · exact hw
        · exact hin
        · exact hini
      · rcases List.mem_cons.mp h1 with rfl | h1
        · exact hco
        · exact h1
    exact ⟨hm, (tt_goodIn v hm).2⟩
  have hrun := va_runS (p := p) (l := l) (e := e) (R := R) (below := below) (meth := meth) (locs := locs) (cells := cells) (slots := slots) (g := F0 m pc la (List.map (cv al) (as.reverse ++ st))) (As := as.map (cv al)) (rest := st.map (cv al)) ⟨hx, hb, hml, hown, hts⟩
    (met_aw (l := l) (as := as) (al := al) (D := D) (cI := cI) (cZ := cZ) (cS := cS) (lo := lo) hpl (by rw [lenA_eq, hln]; exact hll) C)
    (va_cwS n hts hG rfl rfl rfl hdd2 hroom)
    ⟨blindA, fun U hU hW => ⟨rfl, hE.warm hW hU hS, by rw [hU]; exact hP⟩⟩
    rfl (by rw [List.length_map]; exact hn) (hl.1) (by show List.map (cv al) _ = _; rw [List.map_append, List.map_reverse]) (lv_room (by rw [sumA_eq]; exact hst)) hd ⟨hce, hsl⟩
  intro T hT XX
  obtain ⟨v, st₀, t, T', L, h0, X', hL, e1, e2, ⟨r, w', hv, hq, hP', hF⟩, stp⟩ := hrun T hT XX
  have hvr : v = r.map (cv al) := by cases hv; rfl
  subst hvr
  have hS' : va_S (fun q => lo ≤ q) s.heap t.heap (locs ++ L) := ⟨Nat.le_trans hS.1 (by rw [← h0]; exact hF.1), fun q h1 h2 => by
      rw [hF.2 q (by rw [h0]; exact Nat.lt_of_lt_of_le h1 hS.1) h2, h0]
      exact hS.2.1 q h1 h2, fun q hq => by
      rcases List.mem_append.mp hq with h | h
      · exact hS.2.2 q h
      · exact hL q h⟩
  obtain ⟨t2, a1, b1⟩ := K r w' hq al D cI cZ cS lo p l e R s m args below meth c t.heap (locs ++ L) cells slots la Z hC hE hce hsl hP' hS' hl hZ T' e1 X'
  refine ⟨t2, stp t2 ?_, b1⟩
  have hst2 : (r.map (cv al)).toList ++ st.map (cv al) = (r.toList ++ st).map (cv al) := by
    rw [List.map_append]
    cases r <;> rfl
  rw [hst2]
  exact a1
theorem aw_callN {d' idx n ln : Nat} {N : MD} (as : List AV) (h : decode M.2.1 pc = .ok (.invokestatic idx, 3) ∧ pc + 3 = pc') (hw : (M.1.cls, idx, N.1) ∈ nestsA) (hN : MS N n ln) (hdd : d' + 1 ≤ d) (hn : as.length = n) (hln : (as.map catA).sum = ln) (hst : (st.map catA).sum ≤ 8) (C : AW d' X N 0 (entA N.2.2.1 as) [] w Q') (K : ∀ r w', Q' r w' → AW d X M pc' ls (r.toList ++ st) w' Q) : AW d X M pc ls (as.reverse ++ st) w Q := by
  intro al D cI cZ cS lo p l e R s m args below meth c H locs cells slots la Z hC hE hce hsl hP hS hl hZ
  obtain ⟨hx, hb, hml, hown, hts, hlk, hrt, hdf, hdl⟩ := id hC
  obtain ⟨hd, rfl⟩ := h
  have hroom : (RmA d').frames + 1 ≤ R.frames ∧ 8 + (N.2.2.1 + 11) + (RmA d').locals ≤ R.locals := ⟨Nat.le_trans hdd hdf, by
    show 8 + (N.2.2.1 + 11) + 40 * d' ≤ R.locals
    have h20 : N.2.2.1 ≤ 20 := hN.2.2.2.2.1
    omega⟩
  obtain ⟨hin, hini, hco, hdd2, h20, hpl, hll⟩ := hN
  have hG : GoodIn TT (Cond.code N.1 N.2.1 N.2.2.1 N.2.2.2 :: TT) := fun v hv => by
    have hm : v ∈ TT := by
      rcases List.mem_cons.mp hv with rfl | h1
      · exact hco
      · exact h1
    exact ⟨hm, (tt_goodIn v hm).2⟩
  have hrun := va_runSN (p := p) (l := l) (e := e) (R := R) (below := below) (meth := meth) (locs := locs) (cells := cells) (slots := slots) (host := RX5) (g := F0 m pc la (List.map (cv al) (as.reverse ++ st))) (As := as.map (cv al)) (rest := st.map (cv al)) ⟨hx, hb, hml, hown, hts⟩
    (met_aw (l := l) (as := as) (al := al) (D := D) (cI := cI) (cZ := cZ) (cS := cS) (lo := lo) hpl (by rw [lenA_eq, hln]; exact hll) C)
    ⟨va_cnB n hts hG rfl rfl rfl (hE.2.2.2.2.2 _ hw) (hts _ hini) hdd2 hroom, hts _ hin, trivial⟩
    ⟨blindA, fun U hU hW => ⟨rfl, hE.warm hW hU hS, by rw [hU]; exact hP⟩⟩
    rfl (by rw [List.length_map]; exact hn) (hl.1) (by show List.map (cv al) _ = _; rw [List.map_append, List.map_reverse]) (lv_room (by rw [sumA_eq]; exact hst)) hd ⟨hce, hsl⟩
  intro T hT XX
  obtain ⟨v, st₀, t, T', L, h0, X', hL, e1, e2, ⟨r, w', hv, hq, hP', hF⟩, stp⟩ := hrun T hT XX
  have hvr : v = r.map (cv al) := by cases hv; rfl
  subst hvr
  have hS' : va_S (fun q => lo ≤ q) s.heap t.heap (locs ++ L) := ⟨Nat.le_trans hS.1 (by rw [← h0]; exact hF.1), fun q h1 h2 => by
      rw [hF.2 q (by rw [h0]; exact Nat.lt_of_lt_of_le h1 hS.1) h2, h0]
      exact hS.2.1 q h1 h2, fun q hq => by
      rcases List.mem_append.mp hq with h | h
      · exact hS.2.2 q h
      · exact hL q h⟩
  obtain ⟨t2, a1, b1⟩ := K r w' hq al D cI cZ cS lo p l e R s m args below meth c t.heap (locs ++ L) cells slots la Z hC hE hce hsl hP' hS' hl hZ T' e1 X'
  refine ⟨t2, stp t2 ?_, b1⟩
  have hst2 : (r.map (cv al)).toList ++ st.map (cv al) = (r.toList ++ st).map (cv al) := by
    rw [List.map_append]
    cases r <;> rfl
  rw [hst2]
  exact a1
end AWC
