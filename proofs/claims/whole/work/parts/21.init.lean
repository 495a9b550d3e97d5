/-! the constructors: a world is a list of cells, one behind another from one address on; a small machine runs them, and the kernel runs that -/
abbrev BC : Type := (Nat × List AV) ⊕ (Bool × List Int32) ⊕ List (Option Nat)
def alB (base b : Nat) : AM := fun k q => if k = 0 then base + q else b
def cellB (base b : Nat) (cI cZ cS : ClassId) : BC → va_E
  | .inl (k, fs) => .inr (k, fs.map (cv (alB base b)))
  | .inr (.inl (z, xs)) => .inl (if z = true then cZ else cI, xs.length, .inl (fun j => xs.getD j 0))
  | .inr (.inr l) => .inl (cS, l.length, .inr (.inr (.inr (.inr (fun j => (l.getD j none).map (base + ·))))))
def szC : BC → Nat
  | .inl q => q.2.length
  | .inr (.inl q) => q.2.length
  | .inr (.inr l) => l.length
def szB (cs : List BC) : Nat := (cs.map szC).sum
def wsB (base b : Nat) (cI cZ cS : ClassId) (cs : List BC) : va_W := cs.mapIdx fun q c => (base + q, cellB base b cI cZ cS c)
def RB (base b : Nat) (D : va_G) (cI cZ cS : ClassId) (cs : List BC) (H : Heap) : Prop := H.size = base + cs.length ∧ va_P D vwCl (wsB base b cI cZ cS cs) H
def yB : Nat → MethodName
  | 0 => yX0_init | 1 => yX1_init | 2 => yX2_init | 3 => yX3_init | 4 => yX4_init | 5 => yX5_init | _ => yX6_init
def cdB : Nat → ByteArray
  | 0 => cX0_init | 1 => cX1_init | 2 => cX2_init | 3 => cX3_init | 4 => cX4_init | 5 => cX5_init | 6 => cX6_init | _ => cL_law
def nlB : Nat → Nat
  | 0 => 2 | 5 => 2 | 6 => 2 | 7 => 4 | _ => 1
def RKB : Nat → String
  | 7 => RL
  | k => RK k
def fldB : Nat → Nat → Option Nat
  | 0, 11 => some 0
  | 0, 17 => some 1
  | 0, 21 => some 2
  | 1, 9 => some 0
  | 1, 15 => some 1
  | 1, 18 => some 2
  | 1, 22 => some 3
  | 2, 12 => some 0
  | 2, 18 => some 1
  | 2, 22 => some 2
  | 2, 25 => some 3
  | 2, 29 => some 4
  | 2, 32 => some 5
  | 2, 35 => some 6
  | 2, 38 => some 7
  | 2, 41 => some 8
  | 2, 44 => some 9
  | 3, 9 => some 0
  | 3, 15 => some 1
  | 3, 19 => some 2
  | 3, 22 => some 3
  | 4, 9 => some 0
  | 4, 15 => some 1
  | 5, 10 => some 0
  | 5, 19 => some 1
  | 5, 26 => some 2
  | 5, 30 => some 3
  | 5, 36 => some 4
  | 5, 43 => some 5
  | 5, 47 => some 6
  | 5, 51 => some 7
  | 5, 55 => some 8
  | 5, 59 => some 9
  | 5, 62 => some 10
  | 5, 65 => some 11
  | 5, 69 => some 12
  | 6, 7 => some 2
  | 6, 13 => some 3
  | 6, 16 => some 4
  | 6, 19 => some 5
  | 6, 22 => some 6
  | 6, 25 => some 7
  | 6, 28 => some 8
  | 6, 31 => some 12
  | 6, 34 => some 13
  | 6, 37 => some 15
  | 6, 40 => some 16
  | 6, 43 => some 17
  | 6, 46 => some 19
  | 6, 50 => some 20
  | 6, 53 => some 1
  | _, _ => none
theorem fldB_ok : ∀ k i f, fldB k i = some f → Cond.fieldLink (RKB k) i (TK k f).1 (TK k f).2.1 (TK k f).2.2.1 ∈ TT ∧ k < 7 ∧ f < nFl k ∧ RKB k = RK k ∧ (TK k f).1 = RK k := by
  intro k i v h
  unfold fldB at h
  split at h
  · cases h; exact ⟨tw_0_94, by decide, by decide, rfl, rfl⟩
  · cases h; exact ⟨tw_0_95, by decide, by decide, rfl, rfl⟩
  · cases h; exact ⟨tw_0_96, by decide, by decide, rfl, rfl⟩
  · cases h; exact ⟨tw_0_40, by decide, by decide, rfl, rfl⟩
  · cases h; exact ⟨tw_0_41, by decide, by decide, rfl, rfl⟩
  · cases h; exact ⟨tw_0_42, by decide, by decide, rfl, rfl⟩
  · cases h; exact ⟨tw_0_45, by decide, by decide, rfl, rfl⟩
  · cases h; exact ⟨tw_0_113, by decide, by decide, rfl, rfl⟩
  · cases h; exact ⟨tw_0_114, by decide, by decide, rfl, rfl⟩
  · cases h; exact ⟨tw_0_115, by decide, by decide, rfl, rfl⟩
  · cases h; exact ⟨tw_0_117, by decide, by decide, rfl, rfl⟩
  · cases h; exact ⟨tw_0_118, by decide, by decide, rfl, rfl⟩
  · cases h; exact ⟨tw_0_120, by decide, by decide, rfl, rfl⟩
  · cases h; exact ⟨tw_0_122, by decide, by decide, rfl, rfl⟩
  · cases h; exact ⟨tw_0_124, by decide, by decide, rfl, rfl⟩
  · cases h; exact ⟨tw_0_126, by decide, by decide, rfl, rfl⟩
  · cases h; exact ⟨tw_0_128, by decide, by decide, rfl, rfl⟩
  · cases h; exact ⟨tw_0_62, by decide, by decide, rfl, rfl⟩
  · cases h; exact ⟨tw_0_64, by decide, by decide, rfl, rfl⟩
  · cases h; exact ⟨tw_0_68, by decide, by decide, rfl, rfl⟩
  · cases h; exact ⟨tw_0_72, by decide, by decide, rfl, rfl⟩
  · cases h; exact ⟨tw_0_24, by decide, by decide, rfl, rfl⟩
  · cases h; exact ⟨tw_0_25, by decide, by decide, rfl, rfl⟩
  · cases h; exact ⟨tw_0_151, by decide, by decide, rfl, rfl⟩
  · cases h; exact ⟨tw_0_152, by decide, by decide, rfl, rfl⟩
  · cases h; exact ⟨tw_0_153, by decide, by decide, rfl, rfl⟩
  · cases h; exact ⟨tw_0_154, by decide, by decide, rfl, rfl⟩
  · cases h; exact ⟨tw_0_155, by decide, by decide, rfl, rfl⟩
  · cases h; exact ⟨tw_0_156, by decide, by decide, rfl, rfl⟩
  · cases h; exact ⟨tw_0_157, by decide, by decide, rfl, rfl⟩
  · cases h; exact ⟨tw_0_158, by decide, by decide, rfl, rfl⟩
  · cases h; exact ⟨tw_0_159, by decide, by decide, rfl, rfl⟩
  · cases h; exact ⟨tw_0_160, by decide, by decide, rfl, rfl⟩
  · cases h; exact ⟨tw_0_161, by decide, by decide, rfl, rfl⟩
  · cases h; exact ⟨tw_0_162, by decide, by decide, rfl, rfl⟩
  · cases h; exact ⟨tw_0_163, by decide, by decide, rfl, rfl⟩
  · cases h; exact ⟨tw_2_49, by decide, by decide, rfl, rfl⟩
  · cases h; exact ⟨tw_2_50, by decide, by decide, rfl, rfl⟩
  · cases h; exact ⟨tw_2_51, by decide, by decide, rfl, rfl⟩
  · cases h; exact ⟨tw_2_52, by decide, by decide, rfl, rfl⟩
  · cases h; exact ⟨tw_2_53, by decide, by decide, rfl, rfl⟩
  · cases h; exact ⟨tw_2_54, by decide, by decide, rfl, rfl⟩
  · cases h; exact ⟨tw_2_55, by decide, by decide, rfl, rfl⟩
  · cases h; exact ⟨tw_2_59, by decide, by decide, rfl, rfl⟩
  · cases h; exact ⟨tw_2_60, by decide, by decide, rfl, rfl⟩
  · cases h; exact ⟨tw_2_62, by decide, by decide, rfl, rfl⟩
  · cases h; exact ⟨tw_2_63, by decide, by decide, rfl, rfl⟩
  · cases h; exact ⟨tw_2_64, by decide, by decide, rfl, rfl⟩
  · cases h; exact ⟨tw_2_66, by decide, by decide, rfl, rfl⟩
  · cases h; exact ⟨tw_2_67, by decide, by decide, rfl, rfl⟩
  · cases h; exact ⟨tw_2_48, by decide, by decide, rfl, rfl⟩
  · cases h
def newB : Nat → Nat → Option Nat
  | 0, 9 => some 3
  | 2, 9 => some 3
  | 5, 7 => some 4
  | 5, 16 => some 1
  | 5, 23 => some 3
  | 5, 33 => some 0
  | 5, 40 => some 2
  | 7, 7 => some 5
  | 7, 10 => some 6
  | _, _ => none
theorem newB_ok : ∀ k i k2, newB k i = some k2 → Cond.classLink (RKB k) i (RK k2) ∈ TT ∧ k2 < 7 ∧ Cond.instantiable (RK k2) (nFl k2) ∈ TT ∧ Cond.initialized (RK k2) ∈ TT := by
  intro k i v h
  unfold newB at h
  split at h
  · cases h; exact ⟨tw_0_91, by decide, tw_0_57, tw_0_4⟩
  · cases h; exact ⟨tw_0_111, by decide, tw_0_57, tw_0_4⟩
  · cases h; exact ⟨tw_0_18, by decide, tw_0_19, tw_0_2⟩
  · cases h; exact ⟨tw_0_34, by decide, tw_0_35, tw_0_3⟩
  · cases h; exact ⟨tw_0_56, by decide, tw_0_57, tw_0_4⟩
  · cases h; exact ⟨tw_0_85, by decide, tw_0_86, tw_0_5⟩
  · cases h; exact ⟨tw_0_105, by decide, tw_0_106, tw_0_6⟩
  · cases h; exact ⟨tw_0_10, by decide, tw_0_11, tw_0_1⟩
  · cases h; exact ⟨tw_2_41, by decide, tw_2_42, tw_0_7⟩
  · cases h
def objB : Nat → Nat → Option Nat
  | 5, 1 => some 99
  | 4, 3 => some 99
  | 1, 3 => some 99
  | 3, 3 => some 99
  | 0, 3 => some 99
  | 2, 3 => some 99
  | 6, 1 => some 99
  | _, _ => none
theorem objB_ok : ∀ k i v, objB k i = some v → Cond.methodLink (RKB k) i Lib.objectInit ∈ TT := by
  intro k i v h
  unfold objB at h
  split at h
  · cases h; exact tw_0_15
  · cases h; exact tw_0_23
  · cases h; exact tw_0_39
  · cases h; exact tw_0_61
  · cases h; exact tw_0_90
  · cases h; exact tw_0_110
  · cases h; exact tw_2_46
  · cases h
def calB : Nat → Nat → Option Nat
  | 7, 9 => some 5
  | 5, 35 => some 0
  | 7, 12 => some 6
  | _, _ => none
theorem calB_ok : ∀ k i k2, calB k i = some k2 → Cond.methodLink (RKB k) i (yB k2) ∈ TT ∧ k2 < 7 := by
  intro k i v h
  unfold calB at h
  split at h
  · cases h; exact ⟨tw_0_12, by decide⟩
  · cases h; exact ⟨tw_0_87, by decide⟩
  · cases h; exact ⟨tw_2_43, by decide⟩
  · cases h
def nestsB : List (String × Nat × MethodName) := [(RKB 5, 9, yB 4), (RKB 5, 18, yB 1), (RKB 5, 25, yB 3), (RKB 0, 24, yB 3), (RKB 5, 42, yB 2), (RKB 2, 11, yB 3)]
def nesB : Nat → Nat → Option Nat
  | 5, 9 => some 4
  | 5, 18 => some 1
  | 5, 25 => some 3
  | 0, 24 => some 3
  | 5, 42 => some 2
  | 2, 11 => some 3
  | _, _ => none
theorem nesB_ok : ∀ k i k2, nesB k i = some k2 → (RKB k, i, yB k2) ∈ nestsB ∧ k2 < 7 := by
  intro k i v h
  unfold nesB at h
  split at h
  · cases h; exact ⟨by unfold nestsB; simp only [List.mem_cons, true_or, or_true], by decide⟩
  · cases h; exact ⟨by unfold nestsB; simp only [List.mem_cons, true_or, or_true], by decide⟩
  · cases h; exact ⟨by unfold nestsB; simp only [List.mem_cons, true_or, or_true], by decide⟩
  · cases h; exact ⟨by unfold nestsB; simp only [List.mem_cons, true_or, or_true], by decide⟩
  · cases h; exact ⟨by unfold nestsB; simp only [List.mem_cons, true_or, or_true], by decide⟩
  · cases h; exact ⟨by unfold nestsB; simp only [List.mem_cons, true_or, or_true], by decide⟩
  · cases h
theorem inB_ok : ∀ k, k < 7 → Cond.instanceMethod (yB k) ∈ TT ∧ Cond.initialized (yB k).cls ∈ TT ∧ Cond.code (yB k) (cdB k) (nlB k) none ∈ TT ∧ (yB k).name = "<init>" ∧ (yB k).cls = RK k ∧ RKB k = RK k ∧ ((yB k).cls ≠ "java/lang/invoke/MethodHandle" ∧ (yB k).cls ≠ "java/lang/invoke/VarHandle" ∧ (parseMethodDescriptor (yB k).desc).map (fun d => d.parameters.length) = some 0) ∧ nlB k ≤ 20 ∧ 1 ≤ nlB k ∧ plainName (yB k).cls = true
  | 0, _ => ⟨tw_0_88, tw_0_5, tw_0_89, rfl, rfl, rfl, ⟨by decide +kernel, by decide +kernel, by decide +kernel⟩, by decide, by decide, by decide +kernel⟩
  | 1, _ => ⟨tw_0_37, tw_0_3, tw_0_38, rfl, rfl, rfl, ⟨by decide +kernel, by decide +kernel, by decide +kernel⟩, by decide, by decide, by decide +kernel⟩
  | 2, _ => ⟨tw_0_108, tw_0_6, tw_0_109, rfl, rfl, rfl, ⟨by decide +kernel, by decide +kernel, by decide +kernel⟩, by decide, by decide, by decide +kernel⟩
  | 3, _ => ⟨tw_0_59, tw_0_4, tw_0_60, rfl, rfl, rfl, ⟨by decide +kernel, by decide +kernel, by decide +kernel⟩, by decide, by decide, by decide +kernel⟩
  | 4, _ => ⟨tw_0_21, tw_0_2, tw_0_22, rfl, rfl, rfl, ⟨by decide +kernel, by decide +kernel, by decide +kernel⟩, by decide, by decide, by decide +kernel⟩
  | 5, _ => ⟨tw_0_13, tw_0_1, tw_0_14, rfl, rfl, rfl, ⟨by decide +kernel, by decide +kernel, by decide +kernel⟩, by decide, by decide, by decide +kernel⟩
  | 6, _ => ⟨tw_2_44, tw_0_7, tw_2_45, rfl, rfl, rfl, ⟨by decide +kernel, by decide +kernel, by decide +kernel⟩, by decide, by decide, by decide +kernel⟩
  | n + 7, h => absurd h (by omega)
theorem tw_oi : Cond.instanceMethod Lib.objectInit ∈ TT := tw_0_16
theorem tw_oc : Cond.code Lib.objectInit ⟨#[0xb1]⟩ 1 none ∈ TT := tw_0_17
theorem tw_ai : Cond.arrayClass .int ∈ TT := tw_0_33
theorem tw_az : Cond.arrayClass .boolean ∈ TT := tw_0_191
def dfA : FieldType → AV
  | .int => aI 0
  | .long => aL 0
  | _ => aN
def okT : FieldType → Bool
  | .int => true | .long => true | .object _ => true | .array _ => true
  | _ => false
theorem okT_all : ∀ k, k < 7 → (List.range (nFl k)).all (fun f => okT (tyK k f)) = true
  | 0, _ => by decide +kernel | 1, _ => by decide +kernel | 2, _ => by decide +kernel | 3, _ => by decide +kernel | 4, _ => by decide +kernel | 5, _ => by decide +kernel | 6, _ => by decide +kernel
  | n + 7, h => absurd h (by omega)
theorem dfA_ok {al : AM} {t : FieldType} (h : okT t = true) : defaultValue t = cv al (dfA t) := by
  cases t <;> first | rfl | cases h
def okV : FieldType → AV → Bool
  | .int, .inl _ => true
  | .long, .inr (.inl _) => true
  | .object _, .inr (.inr (some _)) => true
  | .array _, .inr (.inr (some _)) => true
  | _, _ => false
theorem okV_ok {al : AM} {t : FieldType} {v : AV} (h : okV t v = true) : narrow t (cv al v) = cv al v ∧ fits t (cv al v) = true := by
  match t, v, h with
  | .int, .inl _, _ => exact ⟨rfl, rfl⟩
  | .long, .inr (.inl _), _ => exact ⟨rfl, rfl⟩
  | .object _, .inr (.inr (some _)), _ => exact ⟨rfl, rfl⟩
  | .array _, .inr (.inr (some _)), _ => exact ⟨rfl, rfl⟩
def dfs (k : Nat) : List AV := (List.range (nFl k)).map fun f => dfA (tyK k f)
/-- the machine: so much fuel, so many calls deep, in the constructor of class k (7: the law, up to its loop) -/
def runB : Nat → Nat → Nat → Nat → List (Option AV) → List AV → List BC → Option (List BC × List (Option AV))
  | 0, _, _, _, _, _, _ => none
  | n + 1, d, k, pc, ls, st, cs =>
    if k = 7 ∧ pc = 18 then (match st with
      | [] => some (cs, ls)
      | _ => none)
    else match decode (cdB k) pc with
    | .ok (.aload_n i, 1) => (match ls[(i : Nat)]? with
      | some (some (.inr (.inr (some q)))) => runB n d k (pc + 1) ls (aR q.1 q.2 :: st) cs
      | _ => none)
    | .ok (.iload_n i, 1) => (match ls[(i : Nat)]? with
      | some (some (.inl x)) => runB n d k (pc + 1) ls (aI x :: st) cs
      | _ => none)
    | .ok (.iconst v, 1) => runB n d k (pc + 1) ls (aI (Int32.ofInt v) :: st) cs
    | .ok (.bipush v, 2) => runB n d k (pc + 2) ls (aI (Int8.ofInt v).toInt32 :: st) cs
    | .ok (.sipush v, 3) => runB n d k (pc + 3) ls (aI (Int16.ofInt v).toInt32 :: st) cs
    | .ok (.lconst v, 1) => runB n d k (pc + 1) ls (aL (Int64.ofNat (v : Nat)) :: st) cs
    | .ok (.dup, 1) => (match st with
      | .inr (.inr (some q)) :: r => runB n d k (pc + 1) ls (aR q.1 q.2 :: aR q.1 q.2 :: r) cs
      | _ => none)
    | .ok (.iadd, 1) => (match st with
      | .inl y :: .inl x :: r => runB n d k (pc + 1) ls (aI (x + y) :: r) cs
      | _ => none)
    | .ok (.iinc i v, 3) => (match ls[i]? with
      | some (some (.inl x)) => if i < nlB k ∧ nlL ls i = true then runB n d k (pc + 3) (ls.set i (some (aI (x + Int32.ofInt v)))) st cs else none
      | _ => none)
    | .ok (.istore_n i, 1) => (match st with
      | .inl x :: r => if (i : Nat) < nlB k ∧ nlL ls (i : Nat) = true then runB n d k (pc + 1) (ls.set (i : Nat) (some (aI x))) r cs else none
      | _ => none)
    | .ok (.astore_n i, 1) => (match st with
      | .inr (.inr (some q)) :: r => if (i : Nat) < nlB k ∧ nlL ls (i : Nat) = true then runB n d k (pc + 1) (ls.set (i : Nat) (some (aR q.1 q.2))) r cs else none
      | _ => none)
    | .ok (.goto off, 3) => if 0 ≤ (pc : Int) + off then runB n d k ((pc : Int) + off).toNat ls st cs else none
    | .ok (.if_icmp .ge off, 3) => (match st with
      | .inl y :: .inl x :: r => if 0 ≤ (pc : Int) + off then (if y ≤ x then runB n d k ((pc : Int) + off).toNat ls r cs else runB n d k (pc + 3) ls r cs) else none
      | _ => none)
    | .ok (.arraylength, 1) => (match st with
      | .inr (.inr (some (0, q))) :: r => (match cs[q]? with
        | some (.inr (.inr l)) => runB n d k (pc + 1) ls (aI (Int32.ofNat l.length) :: r) cs
        | _ => none)
      | _ => none)
    | .ok (.iastore, 1) => (match st with
      | .inl y :: .inl x :: .inr (.inr (some (0, q))) :: r => (match cs[q]? with
        | some (.inr (.inl (false, xs))) => if inB x xs.length then runB n d k (pc + 1) ls r (cs.set q (.inr (.inl (false, xs.set x.toNatClampNeg y)))) else none
        | _ => none)
      | _ => none)
    | .ok (.aastore, 1) => (match st with
      | .inr (.inr (some (0, v))) :: .inl x :: .inr (.inr (some (0, q))) :: r => (match cs[q]?, cs[v]? with
        | some (.inr (.inr l)), some (.inl (3, fs)) => if inB x l.length then runB n d k (pc + 1) ls r (cs.set q (.inr (.inr (l.set x.toNatClampNeg (some v))))) else none
        | _, _ => none)
      | _ => none)
    | .ok (.getfield i, 3) => (match st, fldB k i with
      | .inr (.inr (some (0, q))) :: r, some f => (match cs[q]? with
        | some (.inl (k2, fs)) => if k2 = k then (match fs[f]? with
          | some v => runB n d k (pc + 3) ls (v :: r) cs
          | none => none) else none
        | _ => none)
      | _, _ => none)
    | .ok (.putfield i, 3) => (match st, fldB k i with
      | v :: .inr (.inr (some (0, q))) :: r, some f => (match cs[q]? with
        | some (.inl (k2, fs)) => if k2 = k ∧ f < fs.length ∧ okV (tyK k f) v = true then runB n d k (pc + 3) ls r (cs.set q (.inl (k, fs.set f v))) else none
        | _ => none)
      | _, _ => none)
    | .ok (.newarray .int, 2) => (match st with
      | .inl x :: r => if ¬ x < 0 ∧ x.toNatClampNeg ≤ 10000 then runB n d k (pc + 2) ls (aR 0 cs.length :: r) (cs ++ [.inr (.inl (false, List.replicate x.toNatClampNeg 0))]) else none
      | _ => none)
    | .ok (.newarray .boolean, 2) => (match st with
      | .inl x :: r => if ¬ x < 0 ∧ x.toNatClampNeg ≤ 10000 then runB n d k (pc + 2) ls (aR 0 cs.length :: r) (cs ++ [.inr (.inl (true, List.replicate x.toNatClampNeg 0))]) else none
      | _ => none)
    | .ok (.anewarray i, 3) => (match st with
      | .inl x :: r => if ¬ x < 0 ∧ x.toNatClampNeg ≤ 10000 ∧ newB k i = some 3 then runB n d k (pc + 3) ls (aR 0 cs.length :: r) (cs ++ [.inr (.inr (List.replicate x.toNatClampNeg none))]) else none
      | _ => none)
    | .ok (.new i, 3) => (match newB k i with
      | some k2 => runB n d k (pc + 3) ls (aR 0 cs.length :: st) (cs ++ [.inl (k2, dfs k2)])
      | none => none)
    | .ok (.invokespecial i, 3) => (match st, d with
      | .inr (.inr (some (0, q))) :: r, d2 + 1 =>
        if (r.map catA).sum ≤ 8 then
        (match objB k i with
        | some _ => runB n (d2 + 1) k (pc + 3) ls r cs
        | none => (match calB k i with
          | some k2 => (match runB n d2 k2 0 (entA (nlB k2) [aR 0 q]) [] cs with
            | some w => runB n (d2 + 1) k (pc + 3) ls r w.1
            | none => none)
          | none => (match nesB k i with
            | some k2 => (match runB n d2 k2 0 (entA (nlB k2) [aR 0 q]) [] cs with
              | some w => runB n (d2 + 1) k (pc + 3) ls r w.1
              | none => none)
            | none => none)))
        else none
      | _, _ => none)
    | .ok (.return_, 1) => (match st with
      | [] => if k < 7 then some (cs, ls) else none
      | _ => none)
    | _ => none

theorem wsB_at {base b : Nat} {cI cZ cS : ClassId} {cs : List BC} {q : Nat} {c : BC} (h : cs[q]? = some c) : (wsB base b cI cZ cS cs)[q]? = some (base + q, cellB base b cI cZ cS c) := by
  rw [wsB, List.getElem?_mapIdx, h]; rfl
theorem wsB_set {base b : Nat} {cI cZ cS : ClassId} {cs : List BC} {q : Nat} {c : BC} : (wsB base b cI cZ cS cs).set q (base + q, cellB base b cI cZ cS c) = wsB base b cI cZ cS (cs.set q c) := by
  apply List.ext_getElem?
  intro i
  by_cases hi : i = q
  · subst hi
    by_cases hl : i < cs.length
    · rw [List.getElem?_set_self (by rw [wsB, List.length_mapIdx]; exact hl), wsB_at (c := c) (by rw [List.getElem?_set_self hl])]
    · rw [List.getElem?_eq_none (by rw [List.length_set, wsB, List.length_mapIdx]; omega), List.getElem?_eq_none (by rw [wsB, List.length_mapIdx, List.length_set]; omega)]
  · rw [List.getElem?_set_ne (Ne.symm hi), wsB, wsB, List.getElem?_mapIdx, List.getElem?_mapIdx, List.getElem?_set_ne (Ne.symm hi)]
theorem wsB_push {base b : Nat} {cI cZ cS : ClassId} {cs : List BC} {c : BC} : wsB base b cI cZ cS (cs ++ [c]) = wsB base b cI cZ cS cs ++ [(base + cs.length, cellB base b cI cZ cS c)] := by
  rw [wsB, wsB, List.mapIdx_concat]
theorem wsB_D {base b lo : Nat} {cI cZ cS : ClassId} {cs : List BC} (h : lo ≤ base) : va_D (fun q => lo ≤ q) (wsB base b cI cZ cS cs) := by
  have key : ∀ (k : Nat) (q : Nat × va_E), (wsB base b cI cZ cS cs)[k]? = some q → q.1 = base + k := by
    intro k q hk
    rw [wsB, List.getElem?_mapIdx] at hk
    cases hc : cs[k]? with
    | none => rw [hc] at hk; cases hk
    | some c => rw [hc] at hk; cases hk; rfl
  refine ⟨fun i j x y hi hj hxy => ?_, fun k q hk => ?_⟩
  · rw [key i x hi, key j y hj] at hxy; omega
  · rw [key k q hk]; exact Nat.le_trans h (Nat.le_add_right _ _)
theorem szB_push {cs : List BC} {c : BC} : szB (cs ++ [c]) = szB cs + szC c := by simp [szB]
theorem szB_set {cs : List BC} {q : Nat} {c c0 : BC} (h : cs[q]? = some c0) (hs : szC c = szC c0) : szB (cs.set q c) = szB cs := by
  unfold szB
  rw [List.map_set, hs]
  have h1 : (cs.map szC)[q]? = some (szC c0) := by rw [List.getElem?_map, h]; rfl
  have hl := (List.getElem?_eq_some_iff.mp h1)
  obtain ⟨hl1, hl2⟩ := hl
  rw [← hl2, List.set_getElem_self]
def XB (k pc : Nat) : Prop := (k < 7 ∧ decode (cdB k) pc = .ok (.return_, 1)) ∨ (k = 7 ∧ pc = 18)
def CB (d k : Nat) (p : Program) (R : Room) (s : State) (m : MethodId) (args : Array Value) (meth : Method) (c : Code) : Prop :=
  p.tables.exec = Jvm.exec ∧ c.code = cdB k ∧ c.maxLocals = nlB k ∧ s.vm.findClass (RKB k) = some m.cls ∧ (∀ w ∈ TT, w.before args s = true) ∧ meth.locks = false ∧ (k < 7 → meth.name = "<init>") ∧ d + 1 ≤ R.frames ∧ 40 * (d + 1) ≤ R.locals
def EB (D : va_G) (cI cZ cS : ClassId) (s : State) : Prop := va_K D vwCl [(cI, .int), (cZ, .boolean), (cS, .object RX3)] s ∧ va_AO RX3 s ∧ ∀ q ∈ nestsB, va_Nw (.methodLinkNest q.1 q.2.1 q.2.2 RX5) s
def BW (d k pc : Nat) (ls : List (Option AV)) (st : List AV) (cs cs' : List BC) (ls' : List (Option AV)) : Prop :=
  ∀ (D : va_G) (cI cZ cS : ClassId) (base b lo : Nat) (p : Program) (l : Launch) (e : Env) (R : Room) (s : State) (m : MethodId) (args : Array Value) (below : List Frame) (meth : Method) (c : Code) (H : Heap) (locs : List Loc) (b0 s0 : Nat) (la : Array Slot) (Z : State → Prop),
    CB d k p R s m args meth c → EB D cI cZ cS s → lo ≤ base → b0 ≤ cs.length → s0 ≤ szB cs → cs'.length - b0 ≤ R.cells → szB cs' - s0 ≤ R.slots → RB base b D cI cZ cS cs H → va_S (fun q => lo ≤ q) s.heap H locs → LA (alB base b) la (nlB k) ls →
    (∀ (H' : Heap) (locs' : List Loc) (la' : Array Slot) (pc' : Nat), XB k pc' → RB base b D cI cZ cS cs' H' → va_S (fun q => lo ≤ q) s.heap H' locs' → LA (alB base b) la' (nlB k) ls' → W p l e R s m args below meth c H' locs' (cs'.length - b0) (szB cs' - s0) Z (F0 m pc' la' [])) →
    W p l e R s m args below meth c H locs (cs.length - b0) (szB cs - s0) Z (F0 m pc la (st.map (cv (alB base b))))
theorem EB.warm {D : va_G} {cI cZ cS : ClassId} {s U : State} (h : EB D cI cZ cS s) (hW : s.WarmedH U.vm) : EB D cI cZ cS U := ⟨h.1.moved hW.alike, h.2.1.moved hW.alike, fun q hq => va_Nw.warmM hW (h.2.2 q hq)⟩
def QB (base b lo : Nat) (D : va_G) (cI cZ cS : ClassId) (cs : List BC) : Array Value → State → Outcome → State → Prop := fun _ st o t => o = .returned none ∧ RB base b D cI cZ cS cs t.heap ∧ va_F (fun q => lo ≤ q) st t
def RmB (d mc ms : Nat) : Room := { frames := d + 1, cells := mc, slots := ms, locals := 40 * (d + 1) }
theorem met_bw {d k : Nat} {l : Launch} {q base b lo : Nat} {D : va_G} {cI cZ cS : ClassId} {cs cs' : List BC} {ls' : List (Option AV)} (hk : k < 7) (hlo : lo ≤ base) (hmono : cs.length ≤ cs'.length ∧ szB cs ≤ szB cs') (C : BW d k 0 (entA (nlB k) [aR 0 q]) [] cs cs' ls') :
    Met l (yB k) (Cond.code (yB k) (cdB k) (nlB k) none :: TT) (RmB d (cs'.length - cs.length) (szB cs' - szB cs)) (va_Pc [.ref (base + q)] (fun U => EB D cI cZ cS U ∧ RB base b D cI cZ cS cs U.heap)) (QB base b lo D cI cZ cS cs') (cs'.length - cs.length) (szB cs' - szB cs) (fun q => lo ≤ q) := by
  obtain ⟨h1, h2, h3, h4, h5, h6, h7, h8, h9, h10⟩ := inB_ok k hk
  refine Met.ofW (cc := cdB k) (maxL := nlB k) (ret := none) h10 rfl ?_
  intro p e s m args below meth c s₁ B hml hv
  obtain ⟨rfl, hE, hP⟩ := hv
  have hts := atoms_spec (ws := Cond.code (yB k) (cdB k) (nlB k) none :: TT) B.pre
  have hlk := B.notSynchronized
  rw [lg_entry_eq]
  have hcl : s.vm.findClass (RKB k) = some m.cls := by rw [h6, ← h5]; exact findClass_of_methodNamed B.named
  have hnm : meth.name = "<init>" := (name_of_methodNamed B.named B.method).1.trans h4
  have K := C D cI cZ cS base b lo p l e (headSpec (Cond.code (yB k) (cdB k) (nlB k) none :: TT) (RmB d (cs'.length - cs.length) (szB cs' - szB cs))).room s m ([Value.ref (base + q)].toArray) below meth c s.heap [] cs.length (szB cs) _ (MQ below (QB base b lo D cI cZ cS cs') ([Value.ref (base + q)].toArray) s (cs'.length - cs.length) (szB cs' - szB cs) (fun q => lo ≤ q))
    ⟨B.exec, B.bytes, hml, hcl, fun w hw => hts w (List.mem_cons_of_mem _ hw), hlk, fun _ => hnm, Nat.le_refl _, Nat.le_refl _⟩ hE hlo (Nat.le_refl _) (Nat.le_refl _) (Nat.le_refl _) (Nat.le_refl _) hP va_S.rf (LA.entry (alB base b) [aR 0 q] (nlB k) (by show 1 ≤ nlB k; exact h9)) (fun H' locs' la' pc' hX hP' hS' hl' => by
      rcases hX with ⟨-, hX⟩ | ⟨h, -⟩
      · exact W.vret B.exec B.bytes B.returns (fun t ht _ => ⟨rfl, by rw [ht]; exact hP', hS'.F ht⟩) hS'.2.2 hX hlk
      · omega)
  rw [Nat.sub_self, Nat.sub_self] at K
  exact K
theorem blindB {base b : Nat} {D : va_G} {cI cZ cS : ClassId} {cs : List BC} {vs : List Value} : FrameBlind (va_Pc vs (fun U => EB D cI cZ cS U ∧ RB base b D cI cZ cS cs U.heap)) := fun a U g mk q => ⟨q.1, ⟨q.2.1.1.moved (U := U.calling g mk a) (Vm.Alike.refl U.vm), q.2.1.2.1.moved (U := U.calling g mk a) (Vm.Alike.refl U.vm), fun x hx => va_Nw.same rfl (show U.vm = (U.calling g mk a).vm from rfl) (q.2.1.2.2 x hx)⟩, q.2.2⟩

