/-! THE CLAIM OUT OF ONE WALK OF THE LAW'S BODY. Your part is whole_start (and what it stands on); all else here is the same for every law, but numbers. -/
def R_law : String := "OneRingLaw"
def lw_P (b : Addr) (xs : List Int32) (args : Array Value) (s : State) : Prop := args = #[.ref b] ∧ s.IntsAt b xs ∧ xs.length ≤ 2560 ∧ (Jvm.Cond.and given_1 narrow_1).before args s = true
def lw_Q (_ : Array Value) (s : State) (o : Outcome) (t : State) : Prop := o = .returned (some (.int 1)) ∧ Framed s o t [] 600000 7302250
def lw_Z (below : List Frame) (a : Array Value) (s : State) : State → Prop := fun t => ∃ o, t.status = .running ∧ Ended t below o ∧ lw_Q a s o t
/-- the law's own end, with 1 on the stack, nothing written that was there before, its room as the claim has it -/
theorem lw_ret {p : Program} {l : Launch} {e : Env} {s : State} {m : MethodId} {below : List Frame} {meth : Method} {c : Code} {b : Nat} (hx : p.tables.exec = Jvm.exec) (hb : c.code = code) (hr : meth.sig.returnType = ret) (hlocks : meth.locks = false) {pc : Nat} {H : Heap} {ls : Array Slot} (hdg : decode code pc = .ok (.ireturn, 1)) : W p l e room_1 s m #[Value.ref b] below meth c H [] 600000 7302250 (lw_Z below #[Value.ref b] s) (F0 m pc ls [.int 1]) := by
  intro T hT X
  obtain ⟨fs, hret, hrun, hended, hW, hframe⟩ := X.leave (v := some (.int 1)) (hlocks := hlocks) (fun h => by rw [hr] at h; cases h)
  have hmeth' : T.vm.method? m = some meth := X.method'
  refine ⟨T.setFrames fs, ?_, .returned (some (.int 1)), hrun, hended, rfl, ⟨_, rfl⟩, hW, hframe⟩
  jvm_step X.here [X.here.top, hx, hb, hdg, hmeth', hr, ret, narrow_b1]
  (try refine ⟨rfl, ?_⟩); (try refine ⟨rfl, ?_⟩)
  first | (intro acts; rw [hret _ acts rfl rfl rfl]) | rw [hret _ _ rfl rfl rfl]
  exact Steps.refl _
/-- what holds at the law's entry: the machine, the code, the tables' words (any of lw_tbl by 'hts w (by decide +kernel)'), the script of L ints xs at the cell b, what the Statement gives of the start (any of its parts by flat_of_before) -/
def lw_At (p : Program) (s : State) (m : MethodId) (meth : Method) (c : Code) (b L : Nat) (xs : Nat → Int32) : Prop :=
  p.tables.exec = Jvm.exec ∧ c.code = code ∧ meth.sig.returnType = ret ∧ c.maxLocals = 4 ∧ s.vm.findClass R_law = some m.cls ∧ (∀ w ∈ lw_tbl, w.before #[Value.ref b] s = true) ∧ va_X b L xs s s.heap ∧ b < s.heap.size ∧ meth.locks = false ∧ (Jvm.Cond.and given_1 narrow_1).before #[Value.ref b] s = true
theorem vNw_of {w : Cond} {args : Array Value} {s : State} (hw : w.onTables = true) (h : w.before args s = true) : va_Nw w s := va_Nw.of hw h
set_option maxHeartbeats 4000000 in
set_option maxRecDepth 100000 in
theorem whole_start {p : Program} {e : Env} {s : State} {m : MethodId} {below : List Frame} {meth : Method} {c : Code} (l : Launch) (hflags : l.flags = flags0) {b L : Nat} {xs : Nat → Int32} (hL : L ≤ 2560) (C0 : lw_At p s m meth c b L xs) : W p l e room_1 s m #[Value.ref b] below meth c s.heap [] 0 0 (lw_Z below #[Value.ref b] s) (entryFrame m ([Value.ref b] : List Value).toArray 4) := by
  obtain ⟨hx, hb, hr, hml, hown, hts0, hX, hbl, hlocks, hgv⟩ := id C0
  have hts : ∀ w ∈ TT, w.before #[Value.ref b] s = true := fun w hw => hts0 w (List.mem_filter.mp hw).1
  have hgs := flat_of_before _ hgv
  have hAlo : ∀ a : Nat, a < s.heap.size → ¬ (fun q : Nat => s.heap.size ≤ q) a := fun a h => Nat.not_le.mpr h
  obtain ⟨c0, i0, hk0⟩ := u_known (C := RX0) (T := TX0) (N := 3) (n := 3) hts inl_X0 (hts _ tw_0_86)
  obtain ⟨c1, i1, hk1⟩ := u_known (C := RX1) (T := TX1) (N := 4) (n := 4) hts inl_X1 (hts _ tw_0_35)
  obtain ⟨c2, i2, hk2⟩ := u_known (C := RX2) (T := TX2) (N := 10) (n := 10) hts inl_X2 (hts _ tw_0_106)
  obtain ⟨c3, i3, hk3⟩ := u_known (C := RX3) (T := TX3) (N := 4) (n := 4) hts inl_X3 (hts _ tw_0_57)
  obtain ⟨c4, i4, hk4⟩ := u_known (C := RX4) (T := TX4) (N := 2) (n := 2) hts inl_X4 (hts _ tw_0_19)
  obtain ⟨c5, i5, hk5⟩ := u_known (C := RX5) (T := TX5) (N := 13) (n := 13) hts inl_X5 (hts _ tw_0_11)
  obtain ⟨c6, i6, hk6⟩ := u_known (C := RX6) (T := TX6) (N := 21) (n := 21) hts inl_X6 (hts _ tw_2_42)
  obtain ⟨D, hKn⟩ : ∃ D : va_G, ∀ (k : Nat) (q : vw_C), vwCl[k]? = some q → u_Kn s q.1 q.2.1 q.2.2 (D.1 k) (D.2 k) := by
    refine ⟨(fun k => match k with | 0 => c0 | 1 => c1 | 2 => c2 | 3 => c3 | 4 => c4 | 5 => c5 | _ => c6, fun k => match k with | 0 => i0 | 1 => i1 | 2 => i2 | 3 => i3 | 4 => i4 | 5 => i5 | _ => i6), ?_⟩
    intro k q hq
    match k, hq with
    | 0, hq => cases hq; exact hk0
    | 1, hq => cases hq; exact hk1
    | 2, hq => cases hq; exact hk2
    | 3, hq => cases hq; exact hk3
    | 4, hq => cases hq; exact hk4
    | 5, hq => cases hq; exact hk5
    | 6, hq => cases hq; exact hk6
    | k + 7, hq => simp [vwCl] at hq
  obtain ⟨cI, kI, pI, aI1, aI2, aI3⟩ := Cond.arrayClass_spec (hts _ tw_ai)
  obtain ⟨cZ, kZ, pZ, aZ1, aZ2, aZ3⟩ := Cond.arrayClass_spec (hts _ tw_az)
  have hao : va_AO RX3 s := va_AO.of (hts0 (Cond.arrayOver (.object RX3)) (List.mem_append_right _ (show _ ∈ tables_1 by unfold tables_1; exact List.mem_append_left _ (List.mem_of_getElem? (l := tables_1_1) (i := 92) rfl))))
  obtain ⟨pS, cS, kS, aS1, aS2, aS3, aS4, aS5⟩ := Cond.arrayOver_spec hao
  have hK : va_K D vwCl [(cI, .int), (cZ, .boolean), (cS, .object RX3)] s := by
    refine ⟨hKn, fun k q hq => ?_⟩
    match k, hq with
    | 0, hq => cases hq; exact ⟨fun n z => ⟨fun k h => (by cases h), kI, aI2, pI, aI3⟩, aI1⟩
    | 1, hq => cases hq; exact ⟨fun n z => ⟨fun k h => (by cases h), kZ, aZ2, pZ, aZ3⟩, aZ1⟩
    | 2, hq => cases hq; exact ⟨fun n z => ⟨fun k h => (by cases h), kS, aS3, pS, aS4⟩, kS, pS, aS3, aS4, aS1, aS5⟩
    | k + 3, hq => simp at hq
  have hnB : ∀ q ∈ nestsB, va_Nw (.methodLinkNest q.1 q.2.1 q.2.2 RX5) s := List.forall_mem_cons.mpr ⟨va_Nw.of (A := #[Value.ref b]) rfl (hts0 _ (List.mem_append_right _ (show _ ∈ tables_1 by unfold tables_1; exact List.mem_append_left _ (List.mem_of_getElem? (l := tables_1_1) (i := 20) rfl)))), List.forall_mem_cons.mpr ⟨va_Nw.of (A := #[Value.ref b]) rfl (hts0 _ (List.mem_append_right _ (show _ ∈ tables_1 by unfold tables_1; exact List.mem_append_left _ (List.mem_of_getElem? (l := tables_1_1) (i := 36) rfl)))), List.forall_mem_cons.mpr ⟨va_Nw.of (A := #[Value.ref b]) rfl (hts0 _ (List.mem_append_right _ (show _ ∈ tables_1 by unfold tables_1; exact List.mem_append_left _ (List.mem_of_getElem? (l := tables_1_1) (i := 58) rfl)))), List.forall_mem_cons.mpr ⟨va_Nw.of (A := #[Value.ref b]) rfl (hts0 _ (List.mem_append_right _ (show _ ∈ tables_1 by unfold tables_1; exact List.mem_append_left _ (List.mem_of_getElem? (l := tables_1_1) (i := 93) rfl)))), List.forall_mem_cons.mpr ⟨va_Nw.of (A := #[Value.ref b]) rfl (hts0 _ (List.mem_append_right _ (show _ ∈ tables_1 by unfold tables_1; exact List.mem_append_left _ (List.mem_of_getElem? (l := tables_1_1) (i := 107) rfl)))), List.forall_mem_cons.mpr ⟨va_Nw.of (A := #[Value.ref b]) rfl (hts0 _ (List.mem_append_right _ (show _ ∈ tables_1 by unfold tables_1; exact List.mem_append_left _ (List.mem_of_getElem? (l := tables_1_1) (i := 112) rfl)))), fun _ h => absurd h List.not_mem_nil⟩⟩⟩⟩⟩⟩
  have hnA : ∀ q ∈ nestsA, va_Nw (.methodLinkNest q.1 q.2.1 q.2.2 RX5) s := List.forall_mem_cons.mpr ⟨va_Nw.of (A := #[Value.ref b]) rfl (hts0 _ (List.mem_append_right _ (show _ ∈ tables_1 by unfold tables_1; exact List.mem_append_left _ (List.mem_of_getElem? (l := tables_1_1) (i := 228) rfl)))), List.forall_mem_cons.mpr ⟨va_Nw.of (A := #[Value.ref b]) rfl (hts0 _ (List.mem_append_right _ (show _ ∈ tables_1 by unfold tables_1; exact List.mem_append_right _ (List.mem_append_left _ (List.mem_of_getElem? (l := tables_1_2) (i := 43) rfl))))), List.forall_mem_cons.mpr ⟨va_Nw.of (A := #[Value.ref b]) rfl (hts0 _ (List.mem_append_right _ (show _ ∈ tables_1 by unfold tables_1; exact List.mem_append_right _ (List.mem_append_left _ (List.mem_of_getElem? (l := tables_1_2) (i := 48) rfl))))), List.forall_mem_cons.mpr ⟨va_Nw.of (A := #[Value.ref b]) rfl (hts0 _ (List.mem_append_right _ (show _ ∈ tables_1 by unfold tables_1; exact List.mem_append_right _ (List.mem_append_left _ (List.mem_of_getElem? (l := tables_1_2) (i := 135) rfl))))), fun _ h => absurd h List.not_mem_nil⟩⟩⟩⟩
  have hini : (Cond.initialized RX5).before #[Value.ref b] s = true := hts _ tw_0_1
  obtain ⟨t1, ht1, hT1⟩ := va_Tof (N := 7) (f := fun j => .int (tensA j)) (A := fun q => s.heap.size ≤ q) (ty := .int) (tm := .static "OneRing" "TENS" "[I") (by decide) (hgs (Cond.arrayOf (.static "OneRing" "TENS" "[I") .int) (by decide +kernel)) (va_eqt (hgs (Cond.eq (.length (.static "OneRing" "TENS" "[I")) (.int 7)) (by decide +kernel))) (fun j hj => by
    rcases (show j = 0 ∨ j = 1 ∨ j = 2 ∨ j = 3 ∨ j = 4 ∨ j = 5 ∨ j = 6 by omega) with rfl | rfl | rfl | rfl | rfl | rfl | rfl
    · exact va_eqt (hgs (Cond.eq (.elem (.static "OneRing" "TENS" "[I") (.int 0)) (.int 1)) (by decide +kernel))
    · exact va_eqt (hgs (Cond.eq (.elem (.static "OneRing" "TENS" "[I") (.int 1)) (.int 10)) (by decide +kernel))
    · exact va_eqt (hgs (Cond.eq (.elem (.static "OneRing" "TENS" "[I") (.int 2)) (.int 100)) (by decide +kernel))
    · exact va_eqt (hgs (Cond.eq (.elem (.static "OneRing" "TENS" "[I") (.int 3)) (.int 1000)) (by decide +kernel))
    · exact va_eqt (hgs (Cond.eq (.elem (.static "OneRing" "TENS" "[I") (.int 4)) (.int 10000)) (by decide +kernel))
    · exact va_eqt (hgs (Cond.eq (.elem (.static "OneRing" "TENS" "[I") (.int 5)) (.int 100000)) (by decide +kernel))
    · exact va_eqt (hgs (Cond.eq (.elem (.static "OneRing" "TENS" "[I") (.int 6)) (.int 1000000)) (by decide +kernel))) hAlo
  obtain ⟨t2, ht2, hT2⟩ := va_Tof (N := 7) (f := fun j => .int (facsA j)) (A := fun q => s.heap.size ≤ q) (ty := .int) (tm := .static "OneRing" "FACTORIALS" "[I") (by decide) (hgs (Cond.arrayOf (.static "OneRing" "FACTORIALS" "[I") .int) (by decide +kernel)) (va_eqt (hgs (Cond.eq (.length (.static "OneRing" "FACTORIALS" "[I")) (.int 7)) (by decide +kernel))) (fun j hj => by
    rcases (show j = 0 ∨ j = 1 ∨ j = 2 ∨ j = 3 ∨ j = 4 ∨ j = 5 ∨ j = 6 by omega) with rfl | rfl | rfl | rfl | rfl | rfl | rfl
    · exact va_eqt (hgs (Cond.eq (.elem (.static "OneRing" "FACTORIALS" "[I") (.int 0)) (.int 1)) (by decide +kernel))
    · exact va_eqt (hgs (Cond.eq (.elem (.static "OneRing" "FACTORIALS" "[I") (.int 1)) (.int 1)) (by decide +kernel))
    · exact va_eqt (hgs (Cond.eq (.elem (.static "OneRing" "FACTORIALS" "[I") (.int 2)) (.int 2)) (by decide +kernel))
    · exact va_eqt (hgs (Cond.eq (.elem (.static "OneRing" "FACTORIALS" "[I") (.int 3)) (.int 6)) (by decide +kernel))
    · exact va_eqt (hgs (Cond.eq (.elem (.static "OneRing" "FACTORIALS" "[I") (.int 4)) (.int 24)) (by decide +kernel))
    · exact va_eqt (hgs (Cond.eq (.elem (.static "OneRing" "FACTORIALS" "[I") (.int 5)) (.int 120)) (by decide +kernel))
    · exact va_eqt (hgs (Cond.eq (.elem (.static "OneRing" "FACTORIALS" "[I") (.int 6)) (.int 720)) (by decide +kernel))) hAlo
  have hZ1 := va_Zref (hts0 (Cond.laysStatic "OneRing" "TENS" "[I") (List.mem_append_right _ (show _ ∈ tables_1 by unfold tables_1; exact List.mem_append_right _ (List.mem_append_left _ (List.mem_of_getElem? (l := tables_1_2) (i := 169) rfl))))) hini ht1 hAlo
  have hZ2 := va_Zref (hts0 (Cond.laysStatic "OneRing" "FACTORIALS" "[I") (List.mem_append_right _ (show _ ∈ tables_1 by unfold tables_1; exact List.mem_append_right _ (List.mem_append_left _ (List.mem_of_getElem? (l := tables_1_2) (i := 222) rfl))))) hini ht2 hAlo
  have hT3 : va_T .int b L (fun j => .int (xs j)) (fun q => s.heap.size ≤ q) s s.heap := by
    obtain ⟨scr, h1, h2, h3, h4, h5⟩ := hX
    exact ⟨scr, h1, h2, h3, by omega, by rw [h4], h5, Nat.not_le.mpr hbl⟩
  have hE : EA (L, xs) (alF s.heap.size t1 t2 b) D cI cZ cS s.heap.size s := ⟨hK, DA_0, ⟨hT1, hT2, hT3⟩, hZ1, hZ2, hnA⟩
  obtain ⟨r, hrun, hr1⟩ := law_ok (L, xs) hL
  have hAW := A_L_law_18 (X := (L, xs)) fuelZ hrun
  obtain ⟨-, hBW⟩ := runB_ok _ _ _ _ _ _ _ _ _ run0
  rw [lg_entry_eq]
  have hsz := csF_sz
  have hroom : room_1.cells = 600000 ∧ room_1.slots = 7302250 ∧ room_1.frames = 2048 ∧ room_1.locals = 84000 := ⟨rfl, rfl, rfl, rfl⟩
  refine hBW D cI cZ cS s.heap.size b s.heap.size p l e room_1 s m #[Value.ref b] below meth c s.heap [] 0 0 _ (lw_Z below #[Value.ref b] s) ⟨hx, hb, hml, hown, hts, hlocks, fun h => absurd h (by omega), by omega, by omega⟩ ⟨hK, hao, hnB⟩ (Nat.le_refl _) (Nat.le_refl _) (Nat.le_refl _) (by omega) (by omega) ⟨rfl, fun k q h => by simp [wsB] at h⟩ va_S.rf (LA.entry (alB s.heap.size b) [aR 1 0] 4 (by show 1 ≤ 4; omega)) ?_
  intro H' locs' la' pc' hXB hP' hS' hl'
  obtain ⟨-, rfl⟩ : (7 : Nat) = 7 ∧ pc' = 18 := by
    rcases hXB with ⟨h, -⟩ | h
    · omega
    · exact h
  have hl2 : LA (alF s.heap.size t1 t2 b) la' 4 [some (aR 42 0), some (aR 5 0), some (aR 6 0), some (aI 0)] := by
    refine ⟨hl'.1, hl'.2.1, fun i a hi => ?_⟩
    match i, hi with
    | 0, hi => cases hi; exact hl'.2.2 0 _ rfl
    | 1, hi => cases hi; exact hl'.2.2 1 _ rfl
    | 2, hi => cases hi; exact hl'.2.2 2 _ rfl
    | 3, hi => cases hi; exact hl'.2.2 3 _ rfl
    | i + 4, hi => simp at hi
  refine hAW (alF s.heap.size t1 t2 b) D cI cZ cS s.heap.size p l e room_1 s m #[Value.ref b] below meth c H' locs' (csF.length - 0) (szB csF - 0) la' (lw_Z below #[Value.ref b] s) ⟨hx, hb, hml, hown, hts, hlocks, hr, by omega, by omega⟩ hE (by omega) (by omega) (PA_0 hP') hS' hl2 ?_
  intro q w' H2 locs2 la2 pc2 hq hri hP2 hS2
  obtain ⟨rfl, -⟩ := hq
  rw [hr1] at hri ⊢
  refine va_forget (fun x hx2 => hS2.2.2 x hx2) ?_
  refine W.widen (k := 600000) (n := 7302250) (by omega) (by omega) ?_
  exact lw_ret hx hb hr hlocks hri.1
set_option maxHeartbeats 4000000 in
theorem lw_walk (l : Launch) (hflags : l.flags = flags0) (b : Addr) (xs : List Int32) : MetFree l x (headSpec (Jvm.Cond.code x code maxLocals ret :: tables_1) room_1) (lw_P b xs) (fun _ _ _ _ _ => True) lw_Q := by
  refine MetFree.of_bodyS (code := code) (maxLocals := maxLocals) (ret := ret) (by decide) ?_ ?_
  · intro args s m h hn
    obtain ⟨meth, c, h1, h2, h3, h4, h5, h6, -, -⟩ := Cond.code_spec hn (atoms_spec (ws := Jvm.Cond.code x code maxLocals ret :: tables_1) h _ List.mem_cons_self)
    exact ⟨meth, c, h1, h2, h3, h4, h5, h6⟩
  · intro p e s m args below meth c s₁ B hml0 hP _
    obtain ⟨rfl, hx, hbd, hgv⟩ := hP
    obtain ⟨scr, harrAt, hlist, hof, hsmall⟩ := hx
    obtain ⟨hcb, hkn, -, -⟩ := State.arrayAt?_spec harrAt
    have hown : s.vm.findClass R_law = some m.cls := findClass_of_methodNamed B.named
    have hts0 : ∀ c ∈ (Jvm.Cond.code x code maxLocals ret :: tables_1), c.before #[Value.ref b] s = true := atoms_spec (ws := Jvm.Cond.code x code maxLocals ret :: tables_1) B.pre
    have hts : ∀ w ∈ lw_tbl, w.before #[Value.ref b] s = true := k2_hts_sels lw_privs (fun w hw => hts0 w (List.mem_cons_of_mem _ hw)) lw_privs_ok
    have hml : c.maxLocals = 4 := B.maxLocals_eq (hts0 _ List.mem_cons_self)
    have X₀ : Stand p l e room_1 s m #[Value.ref b] below meth c s₁ [] 0 0 := Stand.of_body B
    have hh0 : s₁.heap = s.heap := by rw [B.state]; rfl
    have hsz : scr.slots.size = xs.length := by rw [← Array.length_toList, hlist, List.length_map]
    have hval : ∀ j : Nat, j < xs.length → scr.slots[j]? = some (.int (xs.getD j 0)) := fun j hj => by
      rw [← Array.getElem?_toList, hlist]
      simp [hj]
    have hbl : b < s.heap.size := (Array.getElem?_eq_some_iff.mp hcb).1
    have hX : va_X b xs.length (fun j => xs.getD j 0) s s.heap := ⟨scr, hcb, hof, hkn, hsz, hval⟩
    have K : W p l e room_1 s m #[Value.ref b] below meth c s₁.heap [] 0 0 (lw_Z below #[Value.ref b] s) (entryFrame m ([Value.ref b] : List Value).toArray 4) := by
      rw [hh0]
      exact whole_start l hflags hbd ⟨B.exec, B.bytes, B.returns, hml, hown, hts, hX, hbl, B.notSynchronized, hgv⟩
    obtain ⟨t, a1, o, b1, b2, b3⟩ := K s₁ rfl X₀
    exact ⟨t, o, a1, b1, b2, b3⟩
theorem lw_pre_spec {args : Array Value} {s : State} (h : (Jvm.Cond.and given_1 narrow_1).before args s = true) (hr : rest_1_c.before args s = true) : ∃ (b : Addr) (xs : List Int32), lw_P b xs args s := by
  have hs := flat_of_before _ h
  have hq := flat_of_before _ hr
  have hc : (Cond.count 1).before args s = true := hs _ (by decide +kernel)
  have harr : (Cond.arrayOf (.arg 0) .int).before args s = true := hs _ (by decide +kernel)
  have hle : (Cond.le (.length (.arg 0)) (.int 2560)).before args s = true := hs _ (by decide +kernel)
  have hlen : (Cond.isInt (.length (.arg 0))).before args s = true := hq _ (by decide +kernel)
  have hall : (Cond.all (.arg 0) (.isInt (.elem (.arg 0) (.index 0)))).before args s = true := hq _ (by decide +kernel)
  obtain ⟨b, xs, hb, hx⟩ := State.ints_of_pre rfl harr hlen hall
  have hsm : xs.length < 2 ^ 31 := hx.choose_spec.2.2.2
  have hev : (Term.length (.arg 0)).eval args s none [] s = some (.int xs.length.toInt32) := hx.length_eval hb
  have hv := Cond.le_ints hev (show (Term.int 2560).eval args s none [] s = some (.int 2560) from rfl)
  have hd : xs.length.toInt32 ≤ 2560 := by
    simpa [Cond.before, Cond.holds, hv] using hle
  have hN : xs.length ≤ 2560 := (Int32.ofNat_le_ofNat hsm (by decide)).mp (show Int32.ofNat xs.length ≤ Int32.ofNat 2560 from hd)
  exact ⟨b, xs, Cond.one_arg hc (show args[0]? = some (.ref b) from hb), hx, hN, h⟩
theorem lw_comes (l : Launch) (hflags : l.flags = flags0) : Comes l x (Jvm.Cond.code x code maxLocals ret :: tables_1) room_1 (fun tb e args s => Calls_1 tb e args s ∧ rest_1 tb e args s ∧ Pre_1 tb e args s)
    (fun _ _ args s o t => lw_Q args s o t) := by
  intro p e ha hc hk s m args below hf hfit hheap happ hpre
  obtain ⟨b, xs, hP⟩ := lw_pre_spec hpre.2.2 hpre.2.1
  obtain ⟨k, o, h1, h2, h3, hQ⟩ := lw_walk l hflags b xs p e ha hc hk s m args below hf ((Spec.applies_iff_loose hf).mp happ).1 hP trivial
  exact ⟨k, o, h1, h2, h3, hQ⟩
theorem lw_frame {s t : State} {o : Outcome} {args : Array Value} (h : Framed s o t [] 600000 7302250) :
    Framed s o t (fieldLocs frame_1_writes args s ++ arrayLocs frame_1_arrays args s ++ staticLocs frame_1_statics s) 600000 7302250 := h
theorem lw_limb (L : Cond) (hL : ∀ (args : Array Value) (s t : State), L.after args s (.returned (some (.int 1))) t = true) :
    ArmFor flags0 classFile x code maxLocals ret World_1 tables_1 room_1 Calls_1 rest_1 Pre_1
      (fun tb e a s o t => postC L tb e a s o t ∧ Framed s o t (fieldLocs frame_1_writes a s ++ arrayLocs frame_1_arrays a s ++ staticLocs frame_1_statics s) 600000 7302250) := by
  intro l hflags _ _ p e ha hc hk s m args below hf hfit hheap happ hpre
  obtain ⟨k, o, h1, h2, h3, rfl, hF⟩ := lw_comes l hflags p e ha hc hk s m args below hf hfit hheap happ hpre
  exact ⟨k, _, h1, h2, h3, hL args s _, lw_frame hF⟩
theorem i_vc : Claimed_1_1 ∧ Claimed_1_2 := ⟨lw_limb limb_1_1 (fun args s t => by simp [limb_1_1, Cond.after, Cond.holds, Cond.value]), lw_limb limb_1_2 (fun args s t => Cond.after_iff.mpr (by
  first | (rw [show limb_1_2 = Cond.eq .result (.int 1) from rfl, Cond.eq_ints (x := 1) (y := 1) rfl rfl]; simp; done) | (simp [limb_1_2, Cond.value, Term.eval]; done)))⟩

