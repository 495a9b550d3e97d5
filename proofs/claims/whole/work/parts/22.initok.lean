section BWR
variable {p : Program} {l : Launch} {e : Env} {R : Room} {s : State} {m : MethodId} {args : Array Value} {below : List Frame} {meth : Method} {c : Code} {H : Heap} {locs : List Loc} {cells slots : Nat} {Q : State → Prop} {cc : ByteArray} {pc : Nat} {ls : Array Slot} {rest : List Value} {D : va_G} {cl : List vw_C} {A : Nat → Prop} {ws : va_W} {H0 : Heap} {tys : List (ClassId × FieldType)}
/-- a new object, its address said -/
theorem newE (hexec : p.tables.exec = Jvm.exec) (hb : c.code = cc) {own C : String} {T : u_T} {N ci index : Nat} {Ts : List Cond} (hts : ∀ w ∈ Ts, w.before args s = true) (hin : ∀ w ∈ u_ws C T N, w ∈ Ts) (ty : Nat → FieldType) (hty : ∀ k, k < N → parseFieldDescriptor (T k).2.2.1 = some (ty k)) (hown : s.vm.findClass own = some m.cls) (hcl : (Cond.classLink own index C).before args s = true) (hinst : (Cond.instantiable C N).before args s = true) (hini : (Cond.initialized C).before args s = true)
    (hK : va_K D cl tys s) (hP : va_P D cl ws H) (hS : va_S A H0 H locs) (hc : cl[ci]? = some (C, T, N)) {fs : List Value} (hfs : ∀ j, j < N → defaultValue (ty j) = vp_V fs j) (hcells : cells + 1 ≤ R.cells) (hslots : slots + N ≤ R.slots) (hdg : decode cc pc = .ok (.new index, 3))
    (kk : ∀ H1 : Heap, H1.size = H.size + 1 → va_P D cl (ws ++ [(H.size, .inr (ci, fs))]) H1 → va_S A H0 H1 locs → W p l e R s m args below meth c H1 locs (cells + 1) (slots + N) Q (F0 m (pc + 3) ls (.ref H.size :: rest))) : W p l e R s m args below meth c H locs cells slots Q (F0 m pc ls rest) := by
  have hKn := hK.1 ci _ hc
  refine W.newcK hexec hb hown hcl hinst hini rfl hdg hcells hslots hKn.2.1 rfl fun H1 kC hkC e1 z1 o1 => ?_
  have hk : ∀ (k : Nat) (x : Nat × va_E), ws[k]? = some x → H1[x.1]? = H[x.1]? := fun k x hx => o1 x.1 ((hP k x hx).lt)
  refine kk H1 z1 ((hP.kept hk).app (fun k x hx => ?_)) ⟨Nat.le_trans hS.1 (by omega), fun x h1 h2 => (o1 x (Nat.lt_of_lt_of_le h1 hS.1)).trans (hS.2.1 x h1 h2), hS.2.2⟩
  have hz : k < 1 := (List.getElem?_eq_some_iff.mp hx).1
  rw [show k = 0 by omega] at hx
  cases hx
  exact ⟨_, hc, (u_born ty hts hin hKn hkC e1 hty).to hfs⟩
/-- a new array of ints or booleans, its address and its class said -/
theorem newaE (hexec : p.tables.exec = Jvm.exec) (hb : c.code = cc) {atype : ArrayType} (harr : (Cond.arrayClass (newarray.typeOf atype)).before args s = true) {cI : ClassId} (hcI : s.vm.findClass ("[" ++ (newarray.typeOf atype).toString) = some cI) (hP : va_P D cl ws H) (hS : va_S A H0 H locs)
    {n : Int32} {N' : Nat} {a0 : vp_A} (ha : vp_cell cI a0 = arrV cI N' (fun _ => defaultValue (newarray.typeOf atype))) (hn : ¬ n < 0) (hN : n.toNatClampNeg = N') (hbytes : N' * componentBytes (newarray.typeOf atype) ≤ 536870912) (hcells : cells + 1 ≤ R.cells) (hslots : slots + N' ≤ R.slots) (hdg : decode cc pc = .ok (.newarray atype, 2))
    (kk : ∀ H1 : Heap, H1.size = H.size + 1 → va_P D cl (ws ++ [(H.size, .inl (cI, a0))]) H1 → va_S A H0 H1 locs → W p l e R s m args below meth c H1 locs (cells + 1) (slots + N') Q (F0 m (pc + 2) ls (.ref H.size :: rest))) : W p l e R s m args below meth c H locs cells slots Q (F0 m pc ls (.int n :: rest)) := by
  refine va_newaK hexec hb harr rfl hdg rfl hn hN hbytes hcells hslots rfl fun H1 cA e1 z1 o1 hAr hNm => ?_
  cases hcI.symm.trans hNm
  have hk : ∀ (k : Nat) (x : Nat × va_E), ws[k]? = some x → H1[x.1]? = H[x.1]? := fun k x hx => o1 x.1 ((hP k x hx).lt)
  refine kk H1 z1 ((hP.kept hk).app (fun k x hx => ?_)) ⟨Nat.le_trans hS.1 (by omega), fun x h1 h2 => (o1 x (Nat.lt_of_lt_of_le h1 hS.1)).trans (hS.2.1 x h1 h2), hS.2.2⟩
  have hz : k < 1 := (List.getElem?_eq_some_iff.mp hx).1
  rw [show k = 0 by omega] at hx
  cases hx
  show H1[H.size]? = some (vp_cell _ _)
  rw [ha]
  exact e1
/-- a new array of references, its address and its class said -/
theorem newqE (hexec : p.tables.exec = Jvm.exec) (hb : c.code = cc) {own C : String} {index : Nat} (hown : s.vm.findClass own = some m.cls) (hclink : (Cond.classLink own index C).before args s = true) (hover : va_AO C s) {cS : ClassId} (hcS : s.vm.findClass ("[" ++ (FieldType.object C).toString) = some cS) (hP : va_P D cl ws H) (hS : va_S A H0 H locs)
    {n : Int32} (hn : ¬ n < 0) (hbytes : n.toNatClampNeg * 4 ≤ 536870912) (hcells : cells + 1 ≤ R.cells) (hslots : slots + n.toNatClampNeg ≤ R.slots) (hdg : decode cc pc = .ok (.anewarray index, 3))
    (kk : ∀ H1 : Heap, H1.size = H.size + 1 → va_P D cl (ws ++ [(H.size, .inl (cS, n.toNatClampNeg, .inr (.inr (.inr (.inr (fun _ => none))))))]) H1 → va_S A H0 H1 locs → W p l e R s m args below meth c H1 locs (cells + 1) (slots + n.toNatClampNeg) Q (F0 m (pc + 3) ls (.ref H.size :: rest))) : W p l e R s m args below meth c H locs cells slots Q (F0 m pc ls (.int n :: rest)) := by
  refine W.anew hexec hb hown hclink (va_AO.use hover) rfl hdg rfl hn hbytes hcells hslots fun cA kA comp f1 f2 f3 f4 => ?_
  cases hcS.symm.trans f1
  generalize hH1 : H.push ({ cls := cS, slots := Array.replicate n.toNatClampNeg .null, vm := .none } : Cell) = H1
  have z1 : H1.size = H.size + 1 := by rw [← hH1, Array.size_push]
  have e1 : H1[H.size]? = some (arrV cS n.toNatClampNeg (fun _ => .null)) := by rw [← hH1, Array.getElem?_push_size, ← arrV_new]
  have o1 : ∀ q : Nat, q < H.size → H1[q]? = H[q]? := fun q hq => by rw [← hH1, Array.getElem?_push, if_neg (Nat.ne_of_lt hq)]
  have hk : ∀ (k : Nat) (x : Nat × va_E), ws[k]? = some x → H1[x.1]? = H[x.1]? := fun k x hx => o1 x.1 ((hP k x hx).lt)
  refine kk H1 z1 ((hP.kept hk).app (fun k x hx => ?_)) ⟨Nat.le_trans hS.1 (by omega), fun x h1 h2 => (o1 x (Nat.lt_of_lt_of_le h1 hS.1)).trans (hS.2.1 x h1 h2), hS.2.2⟩
  have hz : k < 1 := (List.getElem?_eq_some_iff.mp hx).1
  rw [show k = 0 by omega] at hx
  cases hx
  show H1[H.size]? = some (vp_cell _ _)
  exact e1
/-- stores, the size of the heap said -/
theorem iastE (hexec : p.tables.exec = Jvm.exec) (hb : c.code = cc) (hK : va_K D cl tys s) (hP : va_P D cl ws H) (hD : va_D A ws) (hS : va_S A H0 H locs) (q0 t0 : Nat) {a : Nat} {cA : ClassId} {n : Nat} {f : Nat → Int32} (ha : ws[q0]? = some (a, .inl (cA, n, .inl f))) (ht : tys[t0]? = some (cA, .int)) {i : Int32} {x : Int32} (hin : vp_in i n) (hdg : decode cc pc = .ok (.iastore, 1))
    (kk : ∀ (H1 : Heap) (locs1 : List Loc), H1.size = H.size → va_P D cl (ws.set q0 (a, .inl (cA, n, .inl (upd f i.toNatClampNeg x)))) H1 → va_S A H0 H1 locs1 → W p l e R s m args below meth c H1 locs1 cells slots Q (F0 m (pc + 1) ls rest)) : W p l e R s m args below meth c H locs cells slots Q (F0 m pc ls (.int x :: .int i :: .ref a :: rest)) := by
  refine W.iast hexec hb (hP q0 _ ha) ((hK.2 t0 _ ht).1 n (fun j => .int (f j))) (fun q => by cases q) (by show ¬ (i < 0 ∨ (arrV _ _ _).slots.size ≤ _); rw [arrV_size]; exact hin) rfl rfl hdg fun H1 e z oq => ?_
  refine kk H1 _ z (hP.set hD ha ?_ oq) (hS.put z oq (hD.2 q0 _ ha))
  show H1[a]? = some (vp_cell _ _)
  rw [e, vp_cell_i, vp_cell_i, arrV_store]
  congr 2
  funext q
  by_cases hq : q = i.toNatClampNeg
  · subst hq; simp [updV, upd]
  · simp [updV, upd, hq]
theorem aastE (hexec : p.tables.exec = Jvm.exec) (hb : c.code = cc) (hK : va_K D cl tys s) (hP : va_P D cl ws H) (hD : va_D A ws) (hS : va_S A H0 H locs) (q0 t0 qk ci : Nat) {a : Nat} {cA : ClassId} {r : vw_C} {n v : Nat} {vs : List Value} {f : Nat → Option Nat} (ha : ws[q0]? = some (a, .inl (cA, n, .inr (.inr (.inr (.inr f)))))) (ht : tys[t0]? = some (cA, .object r.1)) (hv : ws[qk]? = some (v, .inr (ci, vs))) (hc : cl[ci]? = some r) {i : Int32} (hin : vp_in i n) (hdg : decode cc pc = .ok (.aastore, 1))
    (kk : ∀ (H1 : Heap) (locs1 : List Loc), H1.size = H.size → va_P D cl (ws.set q0 (a, .inl (cA, n, .inr (.inr (.inr (.inr (va_up f i.toNatClampNeg (some v)))))))) H1 → va_S A H0 H1 locs1 → W p l e R s m args below meth c H1 locs1 cells slots Q (F0 m (pc + 1) ls rest)) : W p l e R s m args below meth c H locs cells slots Q (F0 m pc ls (.ref v :: .int i :: .ref a :: rest)) := by
  have hlt : i.toNatClampNeg < n := Nat.not_le.mp fun q => hin (Or.inr q)
  have h0 : ¬ i < 0 := fun q => hin (Or.inl q)
  obtain ⟨r', hr', cellV, g1, g2, g3, -⟩ := hP qk _ hv
  have hcls := (hK.1 ci r hc).2
  obtain ⟨kA, comp, k1, k2, k3, -⟩ := (hK.2 t0 _ ht).2
  have hcomp : comp = D.1 ci := Option.some.inj (k3.symm.trans hcls.1)
  subst hcomp
  obtain ⟨kC, hkC, -⟩ := hcls.2
  refine W.aast hexec hb (hP q0 _ ha) (fun q h => by cases h) (fun h => by cases h) k1 k2 rfl hkC ⟨h0, by show _ < (arrV _ _ _).slots.size; rw [arrV_size]; exact hlt⟩ g1 (fun q h => by rw [g3] at h; cases h) (by rw [g2]; exact hkC) (by rw [g2]; exact va_assign hcls) rfl rfl hdg fun H1 e z oq => ?_
  refine kk H1 _ z (hP.set hD ha ?_ oq) (hS.put z oq (hD.2 q0 _ ha))
  show H1[a]? = some (vp_cell _ _)
  rw [e, vp_cell_q, vp_cell_q, arrV_store]
  congr 2
  funext q
  by_cases hq : q = i.toNatClampNeg
  · subst hq; simp [updV, va_up, va_rf]
  · simp [updV, va_up, hq]
theorem putE (hexec : p.tables.exec = Jvm.exec) (hb : c.code = cc) {own C : String} {T : u_T} {N ci index : Nat} {Ts : List Cond} (hts : ∀ w ∈ Ts, w.before args s = true) (hin : ∀ w ∈ u_ws C T N, w ∈ Ts) (ty0 : Nat → FieldType) (hty : ∀ k, k < N → parseFieldDescriptor (T k).2.2.1 = some (ty0 k)) (hnm : ∀ a, a < N → ∀ b, b < N → a ≠ b → (T a).2.1 ≠ (T b).2.1) (hown : s.vm.findClass own = some m.cls) (hK : va_K D cl tys s) (hP : va_P D cl ws H) (hD : va_D A ws) (hS0 : va_S A H0 H locs) (q0 : Nat) {a : Nat} {fs : List Value} (he : ws[q0]? = some (a, .inr (ci, fs))) (hc : cl[ci]? = some (C, T, N)) (k : Nat) (hk : k < N) (hlink : (Cond.fieldLink own index (T k).1 (T k).2.1 (T k).2.2.1).before args s = true) (hin2 : meth.name = "<init>") (hdecl : (T k).1 = own) {v : Value} (hn : narrow (ty0 k) v = v) (hfit : fits (ty0 k) v = true) (hl : k < fs.length)
    (hdg : decode cc pc = .ok (.putfield index, 3)) (kk : ∀ (H1 : Heap) (locs1 : List Loc), H1.size = H.size → va_P D cl (ws.set q0 (a, .inr (ci, fs.set k v))) H1 → va_S A H0 H1 locs1 → W p l e R s m args below meth c H1 locs1 cells slots Q (F0 m (pc + 3) ls rest)) : W p l e R s m args below meth c H locs cells slots Q (F0 m pc ls (v :: .ref a :: rest)) := by
  have hap := va_apart (own := own) hts hin ty0 hty hnm hK hc
  obtain ⟨r, h1, cell, q1, q2, q3, q4⟩ := hP q0 _ he
  have hr : r = (C, T, N) := Option.some.inj (h1.symm.trans hc)
  subst hr
  obtain ⟨hS, hfc, kC, hkC, hkind⟩ := hK.1 ci _ hc
  obtain ⟨cf, kf, fi, f, hi, hsl⟩ := hS k hk
  have hlay := hts _ (hin _ (u_in_lay hk))
  have hst := (u_facts hfc hkC (u_lays hts hin hk) hi).1
  have hd := hty k hk
  unfold u_lay at hlay
  by_cases hfin : (T k).2.2.2 = true
  · rw [if_pos hfin] at hlay
    have hcf : m.cls = cf := by
      obtain ⟨_, _, c', _, _, _, -, -, hf', -, -, -, hown2, -⟩ := Cond.laysFinal_spec hlay
      have e1 : c' = cf := by have := hi.symm.trans hf'; simp at this; exact this.1.symm
      rw [hdecl] at hown2
      rw [← e1]; exact Option.some.inj (hown.symm.trans hown2)
    have h6 := u_fits hfc hkC hkind (Or.inr hlay) hi hd hn hfit
    refine W.putFinK hexec hb hown hlink hi hst hcf hin2 (by rw [q2]; exact h6) q1 q3 (by rw [hsl]; exact k2_hasslot (q4 k hk)) rfl rfl hdg fun H' e1 e2 e3 => ?_
    rw [hsl] at e1 ⊢
    exact kk H' _ e2 (hP.set hD he ⟨_, hc, t_OB.to (V := updV (vp_V fs) k v) ⟨_, e1, q2, q3, t_set q4 hap hk v⟩ (fun j _ => vp_updV_set hl v j)⟩ e3) (hS0.put e2 e3 (hD.2 q0 _ he))
  · rw [if_neg hfin] at hlay
    have h6 := u_store hfc hkC hkind hlay hi hd hn hfit
    refine W.putK hexec hb (f := f) ⟨hown, hlink, ⟨_, _, _, hi⟩, hst⟩ (by rw [q2]; exact h6) q1 q3 (by rw [hsl]; exact k2_hasslot (q4 k hk)) rfl rfl hdg fun H' e1 e2 e3 => ?_
    rw [hsl] at e1 ⊢
    exact kk H' _ e2 (hP.set hD he ⟨_, hc, t_OB.to (V := updV (vp_V fs) k v) ⟨_, e1, q2, q3, t_set q4 hap hk v⟩ (fun j _ => vp_updV_set hl v j)⟩ e3) (hS0.put e2 e3 (hD.2 q0 _ he))
end BWR
theorem dfs_ok {al : AM} {k : Nat} (hk : k < 7) : ∀ j, j < nFl k → defaultValue (tyK k j) = vp_V ((dfs k).map (cv al)) j := by
  intro j hj
  have h1 := List.all_eq_true.mp (okT_all k hk) j (List.mem_range.mpr hj)
  rw [dfA_ok (al := al) h1]
  unfold vp_V dfs
  rw [List.map_map, List.getD_eq_getElem?_getD, List.getElem?_map, List.getElem?_range hj]
  rfl
theorem dfs_len (k : Nat) : (dfs k).length = nFl k := by simp [dfs]
theorem setD {xs : List Int32} {j : Nat} {y : Int32} (h : j < xs.length) : (fun i => (xs.set j y).getD i 0) = upd (fun i => xs.getD i 0) j y := by
  funext i
  show _ = if i = j then y else _
  by_cases hi : i = j
  · subst hi
    simp [List.getD_eq_getElem?_getD, List.getElem?_set_self h]
  · simp [List.getD_eq_getElem?_getD, List.getElem?_set_ne (Ne.symm hi), hi]
theorem inB_lt {x : Int32} {n : Nat} (h : inB x n) : x.toNatClampNeg < n := Nat.not_le.mp fun q => h (Or.inr q)
theorem setQ {xs : List (Option Nat)} {j v base : Nat} (h : j < xs.length) : (fun i => ((xs.set j (some v)).getD i none).map (base + ·)) = va_up (fun i => (xs.getD i none).map (base + ·)) j (some (base + v)) := by
  funext i
  show _ = if i = j then some (base + v) else _
  by_cases hi : i = j
  · subst hi
    simp [List.getD_eq_getElem?_getD, List.getElem?_set_self h]
  · simp [List.getD_eq_getElem?_getD, List.getElem?_set_ne (Ne.symm hi), hi]

set_option maxHeartbeats 8000000 in
set_option maxRecDepth 100000 in
theorem runB_ok : ∀ (n d k pc : Nat) (ls : List (Option AV)) (st : List AV) (cs cs' : List BC) (ls' : List (Option AV)), runB n d k pc ls st cs = some (cs', ls') → (cs.length ≤ cs'.length ∧ szB cs ≤ szB cs') ∧ BW d k pc ls st cs cs' ls' := by
  intro n
  induction n with
  | zero => intro d k pc ls st cs cs' ls' h; cases h
  | succ n ih =>
    intro d k pc ls st cs cs' ls' h
    unfold runB at h
    split at h
    · rename_i hk
      split at h
      · cases h
        refine ⟨⟨Nat.le_refl _, Nat.le_refl _⟩, ?_⟩
        intro D cI cZ cS base b lo p l e R s m args below meth c H locs b0 s0 la Z hC hE hlo hb0 hs0 hmc hms hP hS hl hZ
        obtain ⟨hx, hb, hml, hown, hts, hlk, hnm, hdf, hdl⟩ := id hC
        exact hZ H locs la pc (Or.inr hk) hP hS hl
      · cases h
    · split at h
      · rename_i i hd
        split at h
        · rename_i q hq
          obtain ⟨mono, K⟩ := ih _ _ _ _ _ _ _ _ h
          refine ⟨mono, ?_⟩
          intro D cI cZ cS base b lo p l e R s m args below meth c H locs b0 s0 la Z hC hE hlo hb0 hs0 hmc hms hP hS hl hZ
          obtain ⟨hx, hb, hml, hown, hts, hlk, hnm, hdf, hdl⟩ := id hC
          exact lv_aload_n hx hb hd rfl (hl.at hq) (K D cI cZ cS base b lo p l e R s m args below meth c H locs b0 s0 la Z hC hE hlo hb0 hs0 hmc hms hP hS hl hZ)
        · cases h
      · rename_i i hd
        split at h
        · rename_i x hq
          obtain ⟨mono, K⟩ := ih _ _ _ _ _ _ _ _ h
          refine ⟨mono, ?_⟩
          intro D cI cZ cS base b lo p l e R s m args below meth c H locs b0 s0 la Z hC hE hlo hb0 hs0 hmc hms hP hS hl hZ
          obtain ⟨hx, hb, hml, hown, hts, hlk, hnm, hdf, hdl⟩ := id hC
          exact lv_iload_n hx hb hd rfl (hl.at hq) (K D cI cZ cS base b lo p l e R s m args below meth c H locs b0 s0 la Z hC hE hlo hb0 hs0 hmc hms hP hS hl hZ)
        · cases h
      · rename_i v hd
        obtain ⟨mono, K⟩ := ih _ _ _ _ _ _ _ _ h
        refine ⟨mono, ?_⟩
        intro D cI cZ cS base b lo p l e R s m args below meth c H locs b0 s0 la Z hC hE hlo hb0 hs0 hmc hms hP hS hl hZ
        obtain ⟨hx, hb, hml, hown, hts, hlk, hnm, hdf, hdl⟩ := id hC
        exact lv_iconst hx hb hd rfl (K D cI cZ cS base b lo p l e R s m args below meth c H locs b0 s0 la Z hC hE hlo hb0 hs0 hmc hms hP hS hl hZ)
      · rename_i v hd
        obtain ⟨mono, K⟩ := ih _ _ _ _ _ _ _ _ h
        refine ⟨mono, ?_⟩
        intro D cI cZ cS base b lo p l e R s m args below meth c H locs b0 s0 la Z hC hE hlo hb0 hs0 hmc hms hP hS hl hZ
        obtain ⟨hx, hb, hml, hown, hts, hlk, hnm, hdf, hdl⟩ := id hC
        exact lv_bipush hx hb hd rfl (K D cI cZ cS base b lo p l e R s m args below meth c H locs b0 s0 la Z hC hE hlo hb0 hs0 hmc hms hP hS hl hZ)
      · rename_i v hd
        obtain ⟨mono, K⟩ := ih _ _ _ _ _ _ _ _ h
        refine ⟨mono, ?_⟩
        intro D cI cZ cS base b lo p l e R s m args below meth c H locs b0 s0 la Z hC hE hlo hb0 hs0 hmc hms hP hS hl hZ
        obtain ⟨hx, hb, hml, hown, hts, hlk, hnm, hdf, hdl⟩ := id hC
        exact lv_sipush hx hb hd rfl (K D cI cZ cS base b lo p l e R s m args below meth c H locs b0 s0 la Z hC hE hlo hb0 hs0 hmc hms hP hS hl hZ)
      · rename_i v hd
        obtain ⟨mono, K⟩ := ih _ _ _ _ _ _ _ _ h
        refine ⟨mono, ?_⟩
        intro D cI cZ cS base b lo p l e R s m args below meth c H locs b0 s0 la Z hC hE hlo hb0 hs0 hmc hms hP hS hl hZ
        obtain ⟨hx, hb, hml, hown, hts, hlk, hnm, hdf, hdl⟩ := id hC
        exact lv_lconst hx hb hd rfl (K D cI cZ cS base b lo p l e R s m args below meth c H locs b0 s0 la Z hC hE hlo hb0 hs0 hmc hms hP hS hl hZ)
      · rename_i hd
        split at h
        · rename_i q r
          obtain ⟨mono, K⟩ := ih _ _ _ _ _ _ _ _ h
          refine ⟨mono, ?_⟩
          intro D cI cZ cS base b lo p l e R s m args below meth c H locs b0 s0 la Z hC hE hlo hb0 hs0 hmc hms hP hS hl hZ
          obtain ⟨hx, hb, hml, hown, hts, hlk, hnm, hdf, hdl⟩ := id hC
          exact lv_dup hx hb hd rfl (K D cI cZ cS base b lo p l e R s m args below meth c H locs b0 s0 la Z hC hE hlo hb0 hs0 hmc hms hP hS hl hZ)
        · cases h
      · rename_i hd
        split at h
        · rename_i y x r
          obtain ⟨mono, K⟩ := ih _ _ _ _ _ _ _ _ h
          refine ⟨mono, ?_⟩
          intro D cI cZ cS base b lo p l e R s m args below meth c H locs b0 s0 la Z hC hE hlo hb0 hs0 hmc hms hP hS hl hZ
          obtain ⟨hx, hb, hml, hown, hts, hlk, hnm, hdf, hdl⟩ := id hC
          exact lv_iadd hx hb hd (K D cI cZ cS base b lo p l e R s m args below meth c H locs b0 s0 la Z hC hE hlo hb0 hs0 hmc hms hP hS hl hZ)
        · cases h
      · rename_i i v hd
        split at h
        · rename_i x hq
          split at h
          · rename_i hn
            obtain ⟨mono, K⟩ := ih _ _ _ _ _ _ _ _ h
            refine ⟨mono, ?_⟩
            intro D cI cZ cS base b lo p l e R s m args below meth c H locs b0 s0 la Z hC hE hlo hb0 hs0 hmc hms hP hS hl hZ
            obtain ⟨hx, hb, hml, hown, hts, hlk, hnm, hdf, hdl⟩ := id hC
            have hmem : (i, Value.int x) ∈ ascA (alB base b) ls := ascA_mem.mpr ⟨aI x, hq, rfl⟩
            obtain ⟨k9, hk9⟩ := List.getElem?_of_mem hmem
            exact lv_iinc hx hb hd hl.has hk9 rfl hn.1 rfl (fun la' hl' => K D cI cZ cS base b lo p l e R s m args below meth c H locs b0 s0 la' Z hC hE hlo hb0 hs0 hmc hms hP hS (LA.put (v := aI (x + Int32.ofInt v)) hn.2 hl') hZ)
          · cases h
        · cases h
      · rename_i i hd
        split at h
        · rename_i x r
          split at h
          · rename_i hn
            obtain ⟨mono, K⟩ := ih _ _ _ _ _ _ _ _ h
            refine ⟨mono, ?_⟩
            intro D cI cZ cS base b lo p l e R s m args below meth c H locs b0 s0 la Z hC hE hlo hb0 hs0 hmc hms hP hS hl hZ
            obtain ⟨hx, hb, hml, hown, hts, hlk, hnm, hdf, hdl⟩ := id hC
            exact lv_istore_n hx hb hd rfl hl.has hn.1 rfl (fun la' hl' => K D cI cZ cS base b lo p l e R s m args below meth c H locs b0 s0 la' Z hC hE hlo hb0 hs0 hmc hms hP hS (LA.put (v := aI x) hn.2 hl') hZ)
          · cases h
        · cases h
      · rename_i i hd
        split at h
        · rename_i q r
          split at h
          · rename_i hn
            obtain ⟨mono, K⟩ := ih _ _ _ _ _ _ _ _ h
            refine ⟨mono, ?_⟩
            intro D cI cZ cS base b lo p l e R s m args below meth c H locs b0 s0 la Z hC hE hlo hb0 hs0 hmc hms hP hS hl hZ
            obtain ⟨hx, hb, hml, hown, hts, hlk, hnm, hdf, hdl⟩ := id hC
            exact lv_astore_n hx hb hd rfl hl.has hn.1 rfl (fun la' hl' => K D cI cZ cS base b lo p l e R s m args below meth c H locs b0 s0 la' Z hC hE hlo hb0 hs0 hmc hms hP hS (LA.put (v := aR q.1 q.2) hn.2 hl') hZ)
          · cases h
        · cases h
      · rename_i off hd
        split at h
        · rename_i ho
          obtain ⟨mono, K⟩ := ih _ _ _ _ _ _ _ _ h
          refine ⟨mono, ?_⟩
          intro D cI cZ cS base b lo p l e R s m args below meth c H locs b0 s0 la Z hC hE hlo hb0 hs0 hmc hms hP hS hl hZ
          obtain ⟨hx, hb, hml, hown, hts, hlk, hnm, hdf, hdl⟩ := id hC
          exact lv_goto hx hb hd (Int.toNat_of_nonneg ho).symm (K D cI cZ cS base b lo p l e R s m args below meth c H locs b0 s0 la Z hC hE hlo hb0 hs0 hmc hms hP hS hl hZ)
        · cases h
      · rename_i off hd
        split at h
        · rename_i y x r
          split at h
          · rename_i ho
            split at h
            · rename_i hc
              obtain ⟨mono, K⟩ := ih _ _ _ _ _ _ _ _ h
              refine ⟨mono, ?_⟩
              intro D cI cZ cS base b lo p l e R s m args below meth c H locs b0 s0 la Z hC hE hlo hb0 hs0 hmc hms hP hS hl hZ
              obtain ⟨hx, hb, hml, hown, hts, hlk, hnm, hdf, hdl⟩ := id hC
              exact lv_icmp_ge hx hb hd (Int.toNat_of_nonneg ho).symm (fun _ => (K D cI cZ cS base b lo p l e R s m args below meth c H locs b0 s0 la Z hC hE hlo hb0 hs0 hmc hms hP hS hl hZ)) (fun z => absurd hc z)
            · rename_i hc
              obtain ⟨mono, K⟩ := ih _ _ _ _ _ _ _ _ h
              refine ⟨mono, ?_⟩
              intro D cI cZ cS base b lo p l e R s m args below meth c H locs b0 s0 la Z hC hE hlo hb0 hs0 hmc hms hP hS hl hZ
              obtain ⟨hx, hb, hml, hown, hts, hlk, hnm, hdf, hdl⟩ := id hC
              exact lv_icmp_ge hx hb hd (Int.toNat_of_nonneg ho).symm (fun z => absurd z hc) (fun _ => (K D cI cZ cS base b lo p l e R s m args below meth c H locs b0 s0 la Z hC hE hlo hb0 hs0 hmc hms hP hS hl hZ))
          · cases h
        · cases h
      · rename_i hd
        split at h
        · rename_i q r
          split at h
          · rename_i lq hq
            obtain ⟨mono, K⟩ := ih _ _ _ _ _ _ _ _ h
            refine ⟨mono, ?_⟩
            intro D cI cZ cS base b lo p l e R s m args below meth c H locs b0 s0 la Z hC hE hlo hb0 hs0 hmc hms hP hS hl hZ
            obtain ⟨hx, hb, hml, hown, hts, hlk, hnm, hdf, hdl⟩ := id hC
            have he := wsB_at (base := base) (b := b) (cI := cI) (cZ := cZ) (cS := cS) hq
            exact va_alen hx hb hE.1 hP.2 q 2 he rfl rfl hd (K D cI cZ cS base b lo p l e R s m args below meth c H locs b0 s0 la Z hC hE hlo hb0 hs0 hmc hms hP hS hl hZ)
          · cases h
        · cases h
      · rename_i hd
        split at h
        · rename_i y x q r
          split at h
          · rename_i xs hq
            split at h
            · rename_i hin
              obtain ⟨mono, K⟩ := ih _ _ _ _ _ _ _ _ h
              have hsz := szB_set hq (c := .inr (.inl (false, xs.set x.toNatClampNeg y))) (by simp [szC])
              rw [List.length_set, hsz] at mono
              refine ⟨mono, ?_⟩
              intro D cI cZ cS base b lo p l e R s m args below meth c H locs b0 s0 la Z hC hE hlo hb0 hs0 hmc hms hP hS hl hZ
              obtain ⟨hx, hb, hml, hown, hts, hlk, hnm, hdf, hdl⟩ := id hC
              have he := wsB_at (base := base) (b := b) (cI := cI) (cZ := cZ) (cS := cS) hq
              refine iastE (f := fun j => xs.getD j 0) hx hb hE.1 hP.2 (wsB_D hlo) hS q 0 he rfl hin hd (fun H1 locs1 hz1 hP1 hS1 => ?_)
              have hce : cellB base b cI cZ cS (.inr (.inl (false, xs.set x.toNatClampNeg y))) = .inl (if false = true then cZ else cI, xs.length, .inl (upd (fun j => xs.getD j 0) x.toNatClampNeg y)) := by
                show Sum.inl (_, (xs.set _ _).length, Sum.inl _) = _
                rw [List.length_set, setD (inB_lt hin)]
              rw [← hce, wsB_set] at hP1
              have K1 := K D cI cZ cS base b lo p l e R s m args below meth c H1 locs1 b0 s0 la Z hC hE hlo (by rw [List.length_set]; exact hb0) (by rw [hsz]; exact hs0) hmc hms ⟨by rw [hz1, List.length_set]; exact hP.1, hP1⟩ hS1 hl hZ
              rw [List.length_set, hsz] at K1
              exact K1
            · cases h
          · cases h
        · cases h
      · rename_i hd
        split at h
        · rename_i v x q r
          split at h
          · rename_i lq fs hq hv
            split at h
            · rename_i hin
              obtain ⟨mono, K⟩ := ih _ _ _ _ _ _ _ _ h
              have hsz := szB_set hq (c := .inr (.inr (lq.set x.toNatClampNeg (some v)))) (by simp [szC])
              rw [List.length_set, hsz] at mono
              refine ⟨mono, ?_⟩
              intro D cI cZ cS base b lo p l e R s m args below meth c H locs b0 s0 la Z hC hE hlo hb0 hs0 hmc hms hP hS hl hZ
              obtain ⟨hx, hb, hml, hown, hts, hlk, hnm, hdf, hdl⟩ := id hC
              have he := wsB_at (base := base) (b := b) (cI := cI) (cZ := cZ) (cS := cS) hq
              have hev := wsB_at (base := base) (b := b) (cI := cI) (cZ := cZ) (cS := cS) hv
              refine aastE (f := fun j => (lq.getD j none).map (base + ·)) (r := (RX3, TX3, 4)) hx hb hE.1 hP.2 (wsB_D hlo) hS q 2 v 3 he rfl hev rfl hin hd (fun H1 locs1 hz1 hP1 hS1 => ?_)
              have hce : cellB base b cI cZ cS (.inr (.inr (lq.set x.toNatClampNeg (some v)))) = .inl (cS, lq.length, .inr (.inr (.inr (.inr (va_up (fun j => (lq.getD j none).map (base + ·)) x.toNatClampNeg (some (base + v))))))) := by
                show Sum.inl (_, (lq.set _ _).length, Sum.inr (Sum.inr (Sum.inr (Sum.inr _)))) = _
                rw [List.length_set, setQ (inB_lt hin)]
              rw [← hce, wsB_set] at hP1
              have K1 := K D cI cZ cS base b lo p l e R s m args below meth c H1 locs1 b0 s0 la Z hC hE hlo (by rw [List.length_set]; exact hb0) (by rw [hsz]; exact hs0) hmc hms ⟨by rw [hz1, List.length_set]; exact hP.1, hP1⟩ hS1 hl hZ
              rw [List.length_set, hsz] at K1
              exact K1
            · cases h
          · cases h
        · cases h
      · rename_i i hd
        split at h
        · rename_i q r f hf
          split at h
          · rename_i k2 fs hq
            split at h
            · rename_i hkk
              subst hkk
              split at h
              · rename_i v hv
                obtain ⟨mono, K⟩ := ih _ _ _ _ _ _ _ _ h
                refine ⟨mono, ?_⟩
                intro D cI cZ cS base b lo p l e R s m args below meth c H locs b0 s0 la Z hC hE hlo hb0 hs0 hmc hms hP hS hl hZ
                obtain ⟨hx, hb, hml, hown, hts, hlk, hnm, hdf, hdl⟩ := id hC
                obtain ⟨g1, g2, g3, g4, g5⟩ := fldB_ok _ _ _ hf
                have he := wsB_at (base := base) (b := b) (cI := cI) (cZ := cZ) (cS := cS) hq
                refine va_get hx hb hts (inl_at _ g2) hown hE.1 hP.2 q he (vw_at _ g2) f g3 (hts _ g1) (fun _ h => h) (v := cv (alB base b) v) ?_ hd (K D cI cZ cS base b lo p l e R s m args below meth c H locs b0 s0 la Z hC hE hlo hb0 hs0 hmc hms hP hS hl hZ)
                rw [List.getElem?_map, hv]; rfl
              · cases h
            · cases h
          · cases h
        · cases h
      · rename_i i hd
        split at h
        · rename_i v q r f hf
          split at h
          · rename_i k2 fs hq
            split at h
            · rename_i hkk
              obtain ⟨hkk, hfl, hok⟩ := hkk
              subst hkk
              obtain ⟨mono, K⟩ := ih _ _ _ _ _ _ _ _ h
              have hsz := szB_set hq (c := .inl (k2, fs.set f v)) (by simp [szC])
              rw [List.length_set, hsz] at mono
              refine ⟨mono, ?_⟩
              intro D cI cZ cS base b lo p l e R s m args below meth c H locs b0 s0 la Z hC hE hlo hb0 hs0 hmc hms hP hS hl hZ
              obtain ⟨hx, hb, hml, hown, hts, hlk, hnm, hdf, hdl⟩ := id hC
              obtain ⟨g1, g2, g3, g4, g5⟩ := fldB_ok _ _ _ hf
              have he := wsB_at (base := base) (b := b) (cI := cI) (cZ := cZ) (cS := cS) hq
              obtain ⟨o1, o2⟩ := okV_ok (al := alB base b) hok
              refine putE hx hb hts (inl_at _ g2) (tyK k2) (ty_at _ g2) (nm_at _ g2) hown hE.1 hP.2 (wsB_D hlo) hS q he (vw_at _ g2) f g3 (hts _ g1) (hnm g2) (g5.trans g4.symm) o1 o2 (by rw [List.length_map]; exact hfl) hd (fun H1 locs1 hz1 hP1 hS1 => ?_)
              have hce : cellB base b cI cZ cS (.inl (k2, fs.set f v)) = .inr (k2, (fs.map (cv (alB base b))).set f (cv (alB base b) v)) := by
                show Sum.inr (_, (fs.set f v).map _) = _
                rw [List.map_set]
              rw [← hce, wsB_set] at hP1
              have K1 := K D cI cZ cS base b lo p l e R s m args below meth c H1 locs1 b0 s0 la Z hC hE hlo (by rw [List.length_set]; exact hb0) (by rw [hsz]; exact hs0) hmc hms ⟨by rw [hz1, List.length_set]; exact hP.1, hP1⟩ hS1 hl hZ
              rw [List.length_set, hsz] at K1
              exact K1
            · cases h
          · cases h
        · cases h
      · rename_i hd
        split at h
        · rename_i x r
          split at h
          · rename_i hn
            obtain ⟨mono, K⟩ := ih _ _ _ _ _ _ _ _ h
            have hsc : szC (.inr (.inl (false, List.replicate x.toNatClampNeg 0)) : BC) = x.toNatClampNeg := by simp [szC]
            rw [List.length_append, szB_push, hsc] at mono
            have hm1 : cs.length + 1 ≤ cs'.length := mono.1
            refine ⟨⟨by omega, by omega⟩, ?_⟩
            intro D cI cZ cS base b lo p l e R s m args below meth c H locs b0 s0 la Z hC hE hlo hb0 hs0 hmc hms hP hS hl hZ
            obtain ⟨hx, hb, hml, hown, hts, hlk, hnm, hdf, hdl⟩ := id hC
            refine newaE (atype := .int) hx hb (hts _ tw_ai) (cI := cI) (hE.1.2 0 _ rfl).2 hP.2 hS (a0 := (x.toNatClampNeg, .inl (fun j => (List.replicate x.toNatClampNeg (0 : Int32)).getD j 0))) ?_ hn.1 rfl (Nat.le_trans (Nat.mul_le_mul_right _ hn.2) (by decide)) (by omega) (by omega) hd (fun H1 hz1 hP1 hS1 => ?_)
            · rw [vp_cell_i]
              congr 1
              funext j
              show Value.int _ = Value.int 0
              congr 1
              rw [List.getD_eq_getElem?_getD, List.getElem?_replicate]
              split <;> rfl
            have hce : cellB base b cI cZ cS (.inr (.inl (false, List.replicate x.toNatClampNeg 0)) : BC) = .inl (cI, x.toNatClampNeg, .inl (fun j => (List.replicate x.toNatClampNeg (0 : Int32)).getD j 0)) := by
              show Sum.inl (_, (List.replicate _ _).length, Sum.inl _) = _
              rw [List.length_replicate]; rfl
            rw [← hce] at hP1
            have hl1 : (cs ++ [(.inr (.inl (false, List.replicate x.toNatClampNeg 0)) : BC)]).length = cs.length + 1 := by rw [List.length_append]; rfl
            have hp1 : RB base b D cI cZ cS (cs ++ [(.inr (.inl (false, List.replicate x.toNatClampNeg 0)) : BC)]) H1 := ⟨by rw [hz1, hl1, hP.1]; omega, by rw [wsB_push, ← hP.1]; exact hP1⟩
            have K1 := K D cI cZ cS base b lo p l e R s m args below meth c H1 locs b0 s0 la Z hC hE hlo (by rw [hl1]; omega) (by rw [szB_push]; omega) hmc hms hp1 hS1 hl hZ
            rw [hl1, szB_push, show cs.length + 1 - b0 = cs.length - b0 + 1 by omega, show szB cs + szC (.inr (.inl (false, List.replicate x.toNatClampNeg 0)) : BC) - s0 = szB cs - s0 + x.toNatClampNeg by rw [hsc]; omega] at K1
            rw [hP.1]
            exact K1
          · cases h
        · cases h
      · rename_i hd
        split at h
        · rename_i x r
          split at h
          · rename_i hn
            obtain ⟨mono, K⟩ := ih _ _ _ _ _ _ _ _ h
            have hsc : szC (.inr (.inl (true, List.replicate x.toNatClampNeg 0)) : BC) = x.toNatClampNeg := by simp [szC]
            rw [List.length_append, szB_push, hsc] at mono
            have hm1 : cs.length + 1 ≤ cs'.length := mono.1
            refine ⟨⟨by omega, by omega⟩, ?_⟩
            intro D cI cZ cS base b lo p l e R s m args below meth c H locs b0 s0 la Z hC hE hlo hb0 hs0 hmc hms hP hS hl hZ
            obtain ⟨hx, hb, hml, hown, hts, hlk, hnm, hdf, hdl⟩ := id hC
            refine newaE (atype := .boolean) hx hb (hts _ tw_az) (cI := cZ) (hE.1.2 1 _ rfl).2 hP.2 hS (a0 := (x.toNatClampNeg, .inl (fun j => (List.replicate x.toNatClampNeg (0 : Int32)).getD j 0))) ?_ hn.1 rfl (Nat.le_trans (Nat.mul_le_mul_right _ hn.2) (by decide)) (by omega) (by omega) hd (fun H1 hz1 hP1 hS1 => ?_)
            · rw [vp_cell_i]
              congr 1
              funext j
              show Value.int _ = Value.int 0
              congr 1
              rw [List.getD_eq_getElem?_getD, List.getElem?_replicate]
              split <;> rfl
            have hce : cellB base b cI cZ cS (.inr (.inl (true, List.replicate x.toNatClampNeg 0)) : BC) = .inl (cZ, x.toNatClampNeg, .inl (fun j => (List.replicate x.toNatClampNeg (0 : Int32)).getD j 0)) := by
              show Sum.inl (_, (List.replicate _ _).length, Sum.inl _) = _
              rw [List.length_replicate]; rfl
            rw [← hce] at hP1
            have hl1 : (cs ++ [(.inr (.inl (true, List.replicate x.toNatClampNeg 0)) : BC)]).length = cs.length + 1 := by rw [List.length_append]; rfl
            have hp1 : RB base b D cI cZ cS (cs ++ [(.inr (.inl (true, List.replicate x.toNatClampNeg 0)) : BC)]) H1 := ⟨by rw [hz1, hl1, hP.1]; omega, by rw [wsB_push, ← hP.1]; exact hP1⟩
            have K1 := K D cI cZ cS base b lo p l e R s m args below meth c H1 locs b0 s0 la Z hC hE hlo (by rw [hl1]; omega) (by rw [szB_push]; omega) hmc hms hp1 hS1 hl hZ
            rw [hl1, szB_push, show cs.length + 1 - b0 = cs.length - b0 + 1 by omega, show szB cs + szC (.inr (.inl (true, List.replicate x.toNatClampNeg 0)) : BC) - s0 = szB cs - s0 + x.toNatClampNeg by rw [hsc]; omega] at K1
            rw [hP.1]
            exact K1
          · cases h
        · cases h
      · rename_i i hd
        split at h
        · rename_i x r
          split at h
          · rename_i hn
            obtain ⟨mono, K⟩ := ih _ _ _ _ _ _ _ _ h
            have hsc : szC (.inr (.inr (List.replicate x.toNatClampNeg none)) : BC) = x.toNatClampNeg := by simp [szC]
            rw [List.length_append, szB_push, hsc] at mono
            have hm1 : cs.length + 1 ≤ cs'.length := mono.1
            refine ⟨⟨by omega, by omega⟩, ?_⟩
            intro D cI cZ cS base b lo p l e R s m args below meth c H locs b0 s0 la Z hC hE hlo hb0 hs0 hmc hms hP hS hl hZ
            obtain ⟨hx, hb, hml, hown, hts, hlk, hnm, hdf, hdl⟩ := id hC
            obtain ⟨g1, -⟩ := newB_ok _ _ _ hn.2.2
            obtain ⟨-, -, -, -, -, hcS⟩ := (hE.1.2 2 _ rfl).2
            refine newqE (C := RX3) hx hb hown (hts _ g1) hE.2.1 (cS := cS) hcS hP.2 hS hn.1 (Nat.le_trans (Nat.mul_le_mul_right 4 hn.2.1) (by decide)) (by omega) (by omega) hd (fun H1 hz1 hP1 hS1 => ?_)
            have hce : cellB base b cI cZ cS (.inr (.inr (List.replicate x.toNatClampNeg none)) : BC) = .inl (cS, x.toNatClampNeg, .inr (.inr (.inr (.inr (fun _ => none))))) := by
              have hfun : (fun j => ((List.replicate x.toNatClampNeg (none : Option Nat)).getD j none).map (base + ·)) = fun _ => none := by
                funext j
                rw [List.getD_eq_getElem?_getD, List.getElem?_replicate]
                split <;> rfl
              show Sum.inl (_, (List.replicate _ _).length, Sum.inr (Sum.inr (Sum.inr (Sum.inr (fun j => ((List.replicate x.toNatClampNeg (none : Option Nat)).getD j none).map (base + ·)))))) = _
              rw [List.length_replicate, hfun]
            rw [← hce] at hP1
            have hl1 : (cs ++ [(.inr (.inr (List.replicate x.toNatClampNeg none)) : BC)]).length = cs.length + 1 := by rw [List.length_append]; rfl
            have hp1 : RB base b D cI cZ cS (cs ++ [(.inr (.inr (List.replicate x.toNatClampNeg none)) : BC)]) H1 := ⟨by rw [hz1, hl1, hP.1]; omega, by rw [wsB_push, ← hP.1]; exact hP1⟩
            have K1 := K D cI cZ cS base b lo p l e R s m args below meth c H1 locs b0 s0 la Z hC hE hlo (by rw [hl1]; omega) (by rw [szB_push]; omega) hmc hms hp1 hS1 hl hZ
            rw [hl1, szB_push, show cs.length + 1 - b0 = cs.length - b0 + 1 by omega, show szB cs + szC (.inr (.inr (List.replicate x.toNatClampNeg none)) : BC) - s0 = szB cs - s0 + x.toNatClampNeg by rw [hsc]; omega] at K1
            rw [hP.1]
            exact K1
          · cases h
        · cases h
      · rename_i i hd
        split at h
        · rename_i k2 hn
          obtain ⟨mono, K⟩ := ih _ _ _ _ _ _ _ _ h
          have hsc : szC (.inl (k2, dfs k2) : BC) = nFl k2 := dfs_len k2
          rw [List.length_append, szB_push, hsc] at mono
          have hm1 : cs.length + 1 ≤ cs'.length := mono.1
          refine ⟨⟨by omega, by omega⟩, ?_⟩
          intro D cI cZ cS base b lo p l e R s m args below meth c H locs b0 s0 la Z hC hE hlo hb0 hs0 hmc hms hP hS hl hZ
          obtain ⟨hx, hb, hml, hown, hts, hlk, hnm, hdf, hdl⟩ := id hC
          obtain ⟨g1, g2, g3, g4⟩ := newB_ok _ _ _ hn
          refine newE hx hb hts (inl_at _ g2) (tyK k2) (ty_at _ g2) hown (hts _ g1) (hts _ g3) (hts _ g4) hE.1 hP.2 hS (vw_at _ g2) (dfs_ok (al := alB base b) g2) (by omega) (by omega) hd (fun H1 hz1 hP1 hS1 => ?_)
          have hl1 : (cs ++ [(.inl (k2, dfs k2) : BC)]).length = cs.length + 1 := by rw [List.length_append]; rfl
          have hp1 : RB base b D cI cZ cS (cs ++ [(.inl (k2, dfs k2) : BC)]) H1 := ⟨by rw [hz1, hl1, hP.1]; omega, by rw [wsB_push, ← hP.1]; exact hP1⟩
          have K1 := K D cI cZ cS base b lo p l e R s m args below meth c H1 locs b0 s0 la Z hC hE hlo (by rw [hl1]; omega) (by rw [szB_push]; omega) hmc hms hp1 hS1 hl hZ
          rw [hl1, szB_push, show cs.length + 1 - b0 = cs.length - b0 + 1 by omega, show szB cs + szC (.inl (k2, dfs k2) : BC) - s0 = szB cs - s0 + nFl k2 by rw [hsc]; omega] at K1
          rw [hP.1]
          exact K1
        · cases h
      · rename_i i hd
        split at h
        · rename_i q r d2
          split at h
          · rename_i hsum
            split at h
            · rename_i ob hob
              obtain ⟨mono, K⟩ := ih _ _ _ _ _ _ _ _ h
              refine ⟨mono, ?_⟩
              intro D cI cZ cS base b lo p l e R s m args below meth c H locs b0 s0 la Z hC hE hlo hb0 hs0 hmc hms hP hS hl hZ
              obtain ⟨hx, hb, hml, hown, hts, hlk, hnm, hdf, hdl⟩ := id hC
              exact W.objInit hx hb hown (hts _ (objB_ok _ _ _ hob)) (hts _ tw_oi) (hts _ tw_oc) rfl (hl.1.trans hml.symm) rfl hd (by omega) (by
                show 2 * 0 + ((List.map (cv (alB base b)) r).map fun v => v.category).sum + 12 ≤ R.locals
                rw [sumA_eq]; omega) (K D cI cZ cS base b lo p l e R s m args below meth c H locs b0 s0 la Z hC hE hlo hb0 hs0 hmc hms hP hS hl hZ)
            · split at h
              · rename_i k2 hcal
                split at h
                · rename_i w hw
                  obtain ⟨cs1, ls1⟩ := w
                  obtain ⟨mono1, C1⟩ := ih _ _ _ _ _ _ _ _ hw
                  obtain ⟨mono, K⟩ := ih _ _ _ _ _ _ _ _ h
                  dsimp only at mono
                  refine ⟨⟨Nat.le_trans mono1.1 mono.1, Nat.le_trans mono1.2 mono.2⟩, ?_⟩
                  intro D cI cZ cS base b lo p l e R s m args below meth c H locs b0 s0 la Z hC hE hlo hb0 hs0 hmc hms hP hS hl hZ
                  obtain ⟨hx, hb, hml, hown, hts, hlk, hnm, hdf, hdl⟩ := id hC
                  obtain ⟨g1, g2⟩ := calB_ok _ _ _ hcal
                  obtain ⟨h1, h2, h3, h4, h5, h6, h7, h8, h9, h10⟩ := inB_ok _ g2
                  have hroom : (RmB d2 (cs1.length - cs.length) (szB cs1 - szB cs)).frames + 1 ≤ R.frames ∧ 8 + (nlB k2 + 11) + (RmB d2 (cs1.length - cs.length) (szB cs1 - szB cs)).locals ≤ R.locals := ⟨hdf, by
                    show 8 + (nlB k2 + 11) + 40 * (d2 + 1) ≤ R.locals
                    omega⟩
                  have hG : GoodIn TT (Cond.code (yB k2) (cdB k2) (nlB k2) none :: TT) := fun v hv => by
                    have hm : v ∈ TT := by
                      rcases List.mem_cons.mp hv with rfl | z
                      · exact h3
                      · exact z
                    exact ⟨hm, (tt_goodIn v hm).2⟩
                  have hrun := va_runI (p := p) (l := l) (e := e) (R := R) (below := below) (meth := meth) (locs := locs) (cells := cs.length - b0) (slots := szB cs - s0) (g := F0 m pc la (List.map (cv (alB base b)) (aR 0 q :: r))) (As := []) (b := base + q) (rest := r.map (cv (alB base b))) ⟨hx, hb, hml, hown, hts⟩
                    (met_bw (l := l) (b := b) (D := D) (cI := cI) (cZ := cZ) (cS := cS) g2 hlo mono1 C1) (cwI 0 hts hG rfl rfl rfl (hts _ h2) (hts _ g1) (hts _ h1) h4 h7 hroom)
                    ⟨blindB, fun U hU hW => ⟨rfl, hE.warm hW, by rw [hU]; exact hP⟩⟩
                    rfl rfl hl.1 rfl (lv_room (by rw [sumA_eq]; exact hsum)) hd ⟨by omega, by omega⟩
                  intro T hT XX
                  obtain ⟨v, st₀, t, T', L, h0, X', hL, e1, e2, ⟨hv, hP', hF⟩, stp⟩ := hrun T hT XX
                  have hvr : v = none := by cases hv; rfl
                  subst hvr
                  have hS' : va_S (fun q => lo ≤ q) s.heap t.heap (locs ++ L) := ⟨Nat.le_trans hS.1 (by rw [← h0]; exact hF.1), fun q h1 h2 => by
                      rw [hF.2 q (by rw [h0]; exact Nat.lt_of_lt_of_le h1 hS.1) h2, h0]
                      exact hS.2.1 q h1 h2, fun q hq => by
                      rcases List.mem_append.mp hq with h | h
                      · exact hS.2.2 q h
                      · exact hL q h⟩
                  have K1 := K D cI cZ cS base b lo p l e R s m args below meth c t.heap (locs ++ L) b0 s0 la Z hC hE hlo (Nat.le_trans hb0 mono1.1) (Nat.le_trans hs0 mono1.2) hmc hms hP' hS' hl hZ
                  dsimp only at K1
                  rw [show cs.length - b0 + (cs1.length - cs.length) = cs1.length - b0 by omega, show szB cs - s0 + (szB cs1 - szB cs) = szB cs1 - s0 by omega] at X'
                  obtain ⟨t2, a1, b1⟩ := K1 T' e1 X'
                  exact ⟨t2, stp t2 a1, b1⟩
                · cases h
              · split at h
                · rename_i k2 hcal
                  split at h
                  · rename_i w hw
                    obtain ⟨cs1, ls1⟩ := w
                    obtain ⟨mono1, C1⟩ := ih _ _ _ _ _ _ _ _ hw
                    obtain ⟨mono, K⟩ := ih _ _ _ _ _ _ _ _ h
                    dsimp only at mono
                    refine ⟨⟨Nat.le_trans mono1.1 mono.1, Nat.le_trans mono1.2 mono.2⟩, ?_⟩
                    intro D cI cZ cS base b lo p l e R s m args below meth c H locs b0 s0 la Z hC hE hlo hb0 hs0 hmc hms hP hS hl hZ
                    obtain ⟨hx, hb, hml, hown, hts, hlk, hnm, hdf, hdl⟩ := id hC
                    obtain ⟨g1, g2⟩ := nesB_ok _ _ _ hcal
                    obtain ⟨h1, h2, h3, h4, h5, h6, h7, h8, h9, h10⟩ := inB_ok _ g2
                    have hroom : (RmB d2 (cs1.length - cs.length) (szB cs1 - szB cs)).frames + 1 ≤ R.frames ∧ 8 + (nlB k2 + 11) + (RmB d2 (cs1.length - cs.length) (szB cs1 - szB cs)).locals ≤ R.locals := ⟨hdf, by
                      show 8 + (nlB k2 + 11) + 40 * (d2 + 1) ≤ R.locals
                      omega⟩
                    have hG : GoodIn TT (Cond.code (yB k2) (cdB k2) (nlB k2) none :: TT) := fun v hv => by
                      have hm : v ∈ TT := by
                        rcases List.mem_cons.mp hv with rfl | z
                        · exact h3
                        · exact z
                      exact ⟨hm, (tt_goodIn v hm).2⟩
                    have hrun := va_runIN (p := p) (l := l) (e := e) (R := R) (below := below) (meth := meth) (locs := locs) (cells := cs.length - b0) (slots := szB cs - s0) (host := RX5) (g := F0 m pc la (List.map (cv (alB base b)) (aR 0 q :: r))) (As := []) (b := base + q) (rest := r.map (cv (alB base b))) ⟨hx, hb, hml, hown, hts⟩
                      (met_bw (l := l) (b := b) (D := D) (cI := cI) (cZ := cZ) (cS := cS) g2 hlo mono1 C1) ⟨va_cnB 0 hts hG rfl rfl rfl (hE.2.2 _ g1) (hts _ h2) h7 hroom, h4, hts _ h1⟩
                      ⟨blindB, fun U hU hW => ⟨rfl, hE.warm hW, by rw [hU]; exact hP⟩⟩
                      rfl rfl hl.1 rfl (lv_room (by rw [sumA_eq]; exact hsum)) hd ⟨by omega, by omega⟩
                    intro T hT XX
                    obtain ⟨v, st₀, t, T', L, h0, X', hL, e1, e2, ⟨hv, hP', hF⟩, stp⟩ := hrun T hT XX
                    have hvr : v = none := by cases hv; rfl
                    subst hvr
                    have hS' : va_S (fun q => lo ≤ q) s.heap t.heap (locs ++ L) := ⟨Nat.le_trans hS.1 (by rw [← h0]; exact hF.1), fun q h1 h2 => by
                        rw [hF.2 q (by rw [h0]; exact Nat.lt_of_lt_of_le h1 hS.1) h2, h0]
                        exact hS.2.1 q h1 h2, fun q hq => by
                        rcases List.mem_append.mp hq with h | h
                        · exact hS.2.2 q h
                        · exact hL q h⟩
                    have K1 := K D cI cZ cS base b lo p l e R s m args below meth c t.heap (locs ++ L) b0 s0 la Z hC hE hlo (Nat.le_trans hb0 mono1.1) (Nat.le_trans hs0 mono1.2) hmc hms hP' hS' hl hZ
                    dsimp only at K1
                    rw [show cs.length - b0 + (cs1.length - cs.length) = cs1.length - b0 by omega, show szB cs - s0 + (szB cs1 - szB cs) = szB cs1 - s0 by omega] at X'
                    obtain ⟨t2, a1, b1⟩ := K1 T' e1 X'
                    exact ⟨t2, stp t2 a1, b1⟩
                  · cases h
                · cases h
          · cases h
        · cases h
      · rename_i hd
        split at h
        · split at h
          · rename_i hk7
            cases h
            refine ⟨⟨Nat.le_refl _, Nat.le_refl _⟩, ?_⟩
            intro D cI cZ cS base b lo p l e R s m args below meth c H locs b0 s0 la Z hC hE hlo hb0 hs0 hmc hms hP hS hl hZ
            obtain ⟨hx, hb, hml, hown, hts, hlk, hnm, hdf, hdl⟩ := id hC
            exact hZ H locs la pc (Or.inl ⟨hk7, hd⟩) hP hS hl
          · cases h
        · cases h
      · cases h
