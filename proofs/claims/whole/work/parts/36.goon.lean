/-! the recursion is a fold over the nodes -/
def CX (P : Pa) (B : Nat) (s0 : Sd) (am : Nat → Nat) (w : Wd) : Prop := XP P w ∧ XS1 2 s0 w ∧ okS P.1 B s0 ∧ ∀ d, d ≤ 6 → w.1 13 0 d = nI (am d) ∧ am d < 64
theorem CX.off {P : Pa} {B : Nat} {s0 : Sd} {am : Nat → Nat} {w w' : Wd} (h : CX P B s0 am w) (ho : Off [(2, 0), (14, 0)] w w') : CX P B s0 am w' := by
  obtain ⟨h1, h2, h3, h4⟩ := h
  refine ⟨h1.off ho (by simp) (by simp) (by simp), h2.off ho (by simp) (by simp), h3, fun d hd => ?_⟩
  rw [ho.1 13 0 (by simp)]
  exact h4 d hd
theorem allows_n {P : Pa} {B : Nat} {s0 : Sd} {am : Nat → Nat} {w : Wd} (h : CX P B s0 am w) {d c : Nat} (hd : d ≤ 6) (hc : c ≤ 5) : D_X2_allows w (nI d) (nI c) = some (if (am d).testBit c = true then 1 else 0) := by
  obtain ⟨g1, g2⟩ := h.2.2.2 d hd
  have e : rdZ w 13 0 d = nI (am d) := g1
  unfold D_X2_allows
  rw [at_n rfl (by decide) (show d < lenZ 13 by show d < 7; omega), sb, e, bit_n _ g2 c (by omega)]
  by_cases hb : (am d).testBit c = true
  · rw [if_pos hb, if_neg (by decide +kernel), if_pos hb]
  · rw [if_neg hb, if_pos (by decide +kernel), if_neg hb]
def fN (lim : Nat) (R : RS) (l : List ND) : RS := l.foldl (recF lim) R
/-- what one child of a node brings -/
def childS (P : Pa) (al : Nat → Nat → Bool) (lim f d : Nat) (s : Sd) (q v i : Nat) : List ND := if al (d + 1) (P.2.2 i 0) = true then (match wedS P s i with
    | some s' => nodesS P al lim f (d + 1) s' (q ||| 2 ^ i) (10 * v + i + 1)
    | none => []) else []
/-- how a node stands: from the start's state, with a row's weddings behind it -/
def stN (s0 : Sd) (c h q : Nat) : Sd := (h, c, s0.2.2.1 ||| q, s0.2.2.2)
theorem goOn_loop {P : Pa} {B : Nat} {s0 : Sd} {am : Nat → Nat} {lim f d c h q v : Nat} {self : Wd → Int32 → Int32 → Int32 → Int32 → Int32 → Option Wd} (hP : okP P) (hB : 10 ≤ B ∧ B < 2 ^ 28) (hlim : lim ≤ 6) (hd : d < lim) (hc : c ≤ 5) (hh : h ≤ B) (hq : q < 2 ^ P.1)
    (hself : ∀ (R : RS) (w : Wd) (i b : Nat), i < P.1 → b ≤ B → CX P B s0 am w → okR R → XR R w → w.1 2 0 3 = nI lim → ∃ w', self w (nI (d + 1)) (nI (P.2.2 i 0)) (nI b) (nI (q ||| 2 ^ i)) (nI (10 * v + i + 1)) = some w' ∧ okR (fN lim R (nodesS P (fun d c => (am d).testBit c) lim f (d + 1) (stN s0 (P.2.2 i 0) b (q ||| 2 ^ i)) (q ||| 2 ^ i) (10 * v + i + 1))) ∧ XR (fN lim R (nodesS P (fun d c => (am d).testBit c) lim f (d + 1) (stN s0 (P.2.2 i 0) b (q ||| 2 ^ i)) (q ||| 2 ^ i) (10 * v + i + 1))) w' ∧ Off [(2, 0), (14, 0)] w w' ∧ w'.1 2 0 3 = nI lim) :
    ∀ (n j N : Nat) (R : RS) (w : Wd), P.1 - j < n → n ≤ N → j ≤ P.1 → CX P B s0 am w → okR R → XR R w → w.1 2 0 3 = nI lim →
      ∃ w', D_X2_goOn_29 self N (nI d) (nI c) (nI h) (nI q) (nI v) (nI j) w = some w' ∧ okR (fN lim R ((List.range' j (P.1 - j)).flatMap (childS P (fun d c => (am d).testBit c) lim f d (stN s0 c h q) q v))) ∧ XR (fN lim R ((List.range' j (P.1 - j)).flatMap (childS P (fun d c => (am d).testBit c) lim f d (stN s0 c h q) q v))) w' ∧ Off [(2, 0), (14, 0)] w w' ∧ w'.1 2 0 3 = nI lim := by
  have h6 := hP.1
  intro n
  induction n with
  | zero => intro j N R w z; omega
  | succ n ih =>
    intro j N R w hn hN hj hX hR hr hl
    obtain ⟨N, rfl⟩ : ∃ M, N = M + 1 := ⟨N - 1, by omega⟩
    unfold D_X2_goOn_29
    rw [hX.1.1]
    by_cases hjn : j = P.1
    · subst hjn
      rw [if_pos ((nI_leI (by omega) (by omega)).mpr (Nat.le_refl _)), Nat.sub_self]
      exact ⟨w, rfl, hR, hr, Off.rf, hl⟩
    · have hj2 : j < P.1 := by omega
      obtain ⟨f0, -⟩ := hP.2.2 j hj2
      rw [if_neg (by rw [nI_leI (by omega) (by omega)]; omega), show P.1 - j = (P.1 - (j + 1)) + 1 by omega, List.range'_succ, List.flatMap_cons]
      rw [n0, fig_n hP hX.1 hj2 (by decide), sb, hX.2.1.2.2.1, or64 _ (pow_le64 h6 hX.2.2.1.2.2.1) _ (pow_le64 h6 hq), bit_n _ (or64_lt (pow_le64 h6 hX.2.2.1.2.2.1) (pow_le64 h6 hq)) j (by omega)]
      have next : ∀ (l : List ND) (w1 : Wd), okR (fN lim R l) → XR (fN lim R l) w1 → Off [(2, 0), (14, 0)] w w1 → w1.1 2 0 3 = nI lim → ∃ w', D_X2_goOn_29 self N (nI d) (nI c) (nI h) (nI q) (nI v) (nI (j + 1)) w1 = some w' ∧ okR (fN lim R (l ++ (List.range' (j + 1) (P.1 - (j + 1))).flatMap (childS P (fun d c => (am d).testBit c) lim f d (stN s0 c h q) q v))) ∧ XR (fN lim R (l ++ (List.range' (j + 1) (P.1 - (j + 1))).flatMap (childS P (fun d c => (am d).testBit c) lim f d (stN s0 c h q) q v))) w' ∧ Off [(2, 0), (14, 0)] w w' ∧ w'.1 2 0 3 = nI lim := by
        intro l w1 g1 g2 g3 g4
        obtain ⟨w', e1, e2, e3, e4, e5⟩ := ih (j + 1) N (fN lim R l) w1 (by omega) (by omega) (by omega) (hX.off g3) g1 g2 g4
        refine ⟨w', e1, ?_, ?_, g3.tr e4, e5⟩
        · unfold fN at e2 ⊢; rw [List.foldl_append]; exact e2
        · unfold fN at e3 ⊢; rw [List.foldl_append]; exact e3
      have skip : childS P (fun d c => (am d).testBit c) lim f d (stN s0 c h q) q v j = [] → ∃ w', D_X2_goOn_29 self N (nI d) (nI c) (nI h) (nI q) (nI v) (nI (j + 1)) w = some w' ∧ okR (fN lim R (childS P (fun d c => (am d).testBit c) lim f d (stN s0 c h q) q v j ++ (List.range' (j + 1) (P.1 - (j + 1))).flatMap (childS P (fun d c => (am d).testBit c) lim f d (stN s0 c h q) q v))) ∧ XR (fN lim R (childS P (fun d c => (am d).testBit c) lim f d (stN s0 c h q) q v j ++ (List.range' (j + 1) (P.1 - (j + 1))).flatMap (childS P (fun d c => (am d).testBit c) lim f d (stN s0 c h q) q v))) w' ∧ Off [(2, 0), (14, 0)] w w' ∧ w'.1 2 0 3 = nI lim := fun z => by
        rw [z]; exact next [] w hR hr Off.rf hl
      have hst : (stN s0 c h q).2.2.1 = s0.2.2.1 ||| q := rfl
      by_cases hb : (s0.2.2.1 ||| q).testBit j = true
      · rw [if_pos hb, if_neg (by decide +kernel)]
        unfold D_X2_goOn_70
        rw [if_pos (show nI 0 = 0 from rfl), ltd, n1, nI_add]
        refine skip ?_
        have hw : wedS P (stN s0 c h q) j = none := by
          unfold wedS begS
          rw [if_neg (fun z => z.2 hb)]; rfl
        unfold childS; rw [hw]; split <;> rfl
      · rw [if_neg hb, if_pos (by decide +kernel)]
        unfold D_X2_goOn_70
        rw [if_neg (by decide +kernel), n1, nI_add, allows_n hX (by omega) f0, sb]
        by_cases hal : (am (d + 1)).testBit (P.2.2 j 0) = true
        · have hwl := wayN_le hX.2.2.1.2.2.2 c (P.2.2 j 0)
          rw [if_pos hal, if_neg (by decide +kernel), hours_n (by decide) hX.2.1 hX.2.2.1 hc f0, sb, begin_n hP hX.1 hj2 (by omega), sb]
          cases hbg : begW P j h (wayN s0.2.2.2 c (P.2.2 j 0)) with
          | none =>
            rw [show enc none = (-9) from rfl, if_pos rfl, ltd, nI_add]
            refine skip ?_
            have hw : wedS P (stN s0 c h q) j = none := by
              unfold wedS begS
              rw [if_pos ⟨hj2, hb⟩]
              show (begW P j h (wayN s0.2.2.2 c (P.2.2 j 0))).map _ = none
              rw [hbg]; rfl
            unfold childS; rw [hw]; split <;> rfl
          | some b =>
            obtain ⟨b1, b2, b3⟩ := begW_le hP hj2 hbg
            have hfb : freeW P j b ≤ B := by unfold freeW thickW; split <;> omega
            have hqi := orb_lt hq hj2
            rw [show enc (some b) = nI b from rfl, if_neg (nI_ne9 (by omega)), free_n hP hX.1 hj2, sb, ← n1, orb_n _ (pow_le64 h6 hq) j (by omega), n10, pk_mul, nI_add, n1, nI_add, nI_add, show v * 10 + j + 1 = 10 * v + j + 1 by omega]
            obtain ⟨w1, e1, e2, e3, e4, e5⟩ := hself R w j (freeW P j b) hj2 hfb hX hR hr hl
            rw [e1, sb, ltd]
            have hw : wedS P (stN s0 c h q) j = some (stN s0 (P.2.2 j 0) (freeW P j b) (q ||| 2 ^ j)) := by
              rw [wedS_of (s := stN s0 c h q) hj2 hb hbg]
              unfold stN
              rw [Nat.or_assoc]
            have hch : childS P (fun d c => (am d).testBit c) lim f d (stN s0 c h q) q v j = nodesS P (fun d c => (am d).testBit c) lim f (d + 1) (stN s0 (P.2.2 j 0) (freeW P j b) (q ||| 2 ^ j)) (q ||| 2 ^ j) (10 * v + j + 1) := by
              unfold childS; rw [if_pos hal, hw]
            rw [hch]
            exact next _ w1 e2 e3 e4 e5
        · rw [if_neg hal, if_pos (by decide +kernel), ltd, nI_add]
          refine skip ?_
          unfold childS; rw [if_neg hal]
theorem goOn_n {P : Pa} {B : Nat} {s0 : Sd} {am : Nat → Nat} {lim : Nat} (hP : okP P) (hB : 10 ≤ B ∧ B < 2 ^ 28) (hlim : lim ≤ 6) :
    ∀ (f d c h q v : Nat) (R : RS) (w : Wd), lim - d < f → d ≤ lim → c ≤ 5 → h ≤ B → q < 2 ^ P.1 → CX P B s0 am w → okR R → XR R w → w.1 2 0 3 = nI lim →
      ∃ w', D_X2_goOn f w (nI d) (nI c) (nI h) (nI q) (nI v) = some w' ∧ okR (fN lim R (nodesS P (fun d c => (am d).testBit c) lim f d (stN s0 c h q) q v)) ∧ XR (fN lim R (nodesS P (fun d c => (am d).testBit c) lim f d (stN s0 c h q) q v)) w' ∧ Off [(2, 0), (14, 0)] w w' ∧ w'.1 2 0 3 = nI lim := by
  have h6 := hP.1
  intro f
  induction f with
  | zero => intro d c h q v R w z; omega
  | succ f ih =>
    intro d c h q v R w hf hd hc hh hq hX hR hr hl
    have hN : okN (d, h, q, v) := ⟨by show d ≤ 6; omega, by show h < 2 ^ 30; omega, pow_le64 h6 hq⟩
    obtain ⟨w1, e1, e2, e3, e4⟩ := record_n (a := (d, h, q, v)) hR hN hlim hl hr
    have hR1 := recF_ok (lim := lim) hR hN
    unfold D_X2_goOn D_X2_goOn_b nodesS
    rw [e1, sb, e4]
    by_cases hdl : d = lim
    · subst hdl
      rw [if_pos ((nI_leI (by omega) (by omega)).mpr (Nat.le_refl _)), if_neg (by omega)]
      exact ⟨w1, rfl, hR1, e2, e3, e4⟩
    · have hdl2 : d < lim := by omega
      rw [if_neg (by rw [nI_leI (by omega) (by omega)]; omega), if_pos (by rw [n6, nI_ltI (by omega) (by omega)]; omega), if_pos hdl2]
      obtain ⟨w2, g1, g2, g3, g4, g5⟩ := goOn_loop (f := f) (self := D_X2_goOn f) (v := v) hP hB hlim hdl2 hc hh hq (fun R w i b hi hb hX hR hr hl => ih (d + 1) (P.2.2 i 0) b (q ||| 2 ^ i) (10 * v + i + 1) R w (by omega) (by omega) (hP.2.2 i hi).1 hb (orb_lt hq hi) hX hR hr hl) 7 0 fuelZ (recF lim R (d, h, q, v)) w1 (by omega) (by decide) (by omega) (hX.off e3) hR1 e2 e4
      rw [Nat.sub_zero] at g2 g3
      exact ⟨w2, g1, g2, g3, e3.tr g4, g5⟩
