def D_X6_mostOn_211 (k51 : Int32 → Int32 → Int32 → Int32 → Int32 → Wd → Option (Int32 × Wd)) (k61 : Int32 → Int32 → Int32 → Int32 → Int32 → Int32 → Wd → Option (Int32 × Wd)) (x1 : Int32) (x3 : Int32) (x4 : Int32) (x5 : Int32) (x6 : Int32) (x7 : Int32) (w : Wd) : Option (Int32 × Wd) := (D_X6_has x6 x7).bind fun q12 => if q12 = 0 then (lt (x7 + 1) fun x7_14 => k61 x1 x3 x4 x5 x6 x7_14 w) else (if inB (((6 : Int32) * x6) + x7) 384 then if (w.1 28 0 (Int32.toNatClampNeg (((6 : Int32) * x6) + x7))) = ((-9)) then (lt (x7 + 1) fun x7_17 => k61 x1 x3 x4 x5 x6 x7_17 w) else ((D_X6_ones x6).bind fun q18 => if q18 ≤ x5 then (lt (x7 + 1) fun x7_20 => k61 x1 x3 x4 x5 x6 x7_20 w) else ((D_X6_ones x6).bind fun q21 => lt (x7 + 1) fun x7_22 => k61 x1 x3 x4 q21 x6 x7_22 w)) else none)
set_option maxHeartbeats 4000000 in
set_option maxRecDepth 100000 in
theorem A_X6_mostOn_211 {X : XS} {k51 : Int32 → Int32 → Int32 → Int32 → Int32 → Wd → Option (Int32 × Wd)} {k61 : Int32 → Int32 → Int32 → Int32 → Int32 → Int32 → Wd → Option (Int32 × Wd)} (hk51 : ∀ {x1 : Int32} {x3 : Int32} {x4 : Int32} {x5 : Int32} {x6 : Int32} {w : Wd} {r : Int32 × Wd}, k51 x1 x3 x4 x5 x6 w = some r → AW 3 X mX6_mostOn 51 [some (aR 6 0), some (aI x1), none, some (aI x3), some (aI x4), some (aI x5), some (aI x6), none, none] [] w (PI r.1 r.2)) (hk61 : ∀ {x1 : Int32} {x3 : Int32} {x4 : Int32} {x5 : Int32} {x6 : Int32} {x7 : Int32} {w : Wd} {r : Int32 × Wd}, k61 x1 x3 x4 x5 x6 x7 w = some r → AW 3 X mX6_mostOn 61 [some (aR 6 0), some (aI x1), none, some (aI x3), some (aI x4), some (aI x5), some (aI x6), some (aI x7), none] [] w (PI r.1 r.2)) {x1 : Int32} {x3 : Int32} {x4 : Int32} {x5 : Int32} {x6 : Int32} {x7 : Int32} {w : Wd} {r : Int32 × Wd} (h : D_X6_mostOn_211 k51 k61 x1 x3 x4 x5 x6 x7 w = some r) : AW 3 X mX6_mostOn 211 [some (aR 6 0), some (aI x1), none, some (aI x3), some (aI x4), some (aI x5), some (aI x6), some (aI x7), none] [] w (PI r.1 r.2) := by
  unfold D_X6_mostOn_211 at h
  obtain ⟨q12, hq12, h⟩ := bd h
  refine aw_iload eX6_mostOn_211 rfl (aw_iload eX6_mostOn_213 rfl (aw_callSI (N := mX6_has) [aI x6, aI x7] eX6_mostOn_215 tw_2_151 msX6_has (by decide) rfl rfl (Nat.le_of_ble_eq_true rfl) (A_X6_has hq12) (aw_if_eq eX6_mostOn_218 (fun c13 => ?_) (fun c13 => ?_))))
  · have h := ip c13 h
    refine aw_iconst eX6_mostOn_243 k_iconst_0 (aw_istoreY rfl eX6_mostOn_244 (by decide) rfl (ls' := [some (aR 6 0), some (aI x1), none, some (aI x3), some (aI x4), some (aI x5), some (aI x6), some (aI x7), some (aI 0)]) rfl (aw_iload eX6_mostOn_246 rfl (aw_if_eq eX6_mostOn_248 (K2 := fun z => absurd (by decide) z) (K1 := fun _ => ?_))))
    obtain ⟨x7_14, ex7_14, h⟩ := lt_e h
    refine aw_iload eX6_mostOn_269 rfl (aw_istoreY rfl eX6_mostOn_271 (by decide) rfl (ls' := [some (aR 6 0), some (aI x1), none, some (aI x3), some (aI x4), some (aI x5), some (aI x6), some (aI x7), some (aI 0)]) rfl (aw_iincY (iinc_k k_iconst_1 ex7_14) eX6_mostOn_273 rfl (by decide) rfl (ls' := [some (aR 6 0), some (aI x1), none, some (aI x3), some (aI x4), some (aI x5), some (aI x6), some (aI x7_14), some (aI 0)]) rfl (aw_goto eX6_mostOn_276 ?_)))
    exact aw_sub (ls' := [some (aR 6 0), some (aI x1), none, some (aI x3), some (aI x4), some (aI x5), some (aI x6), some (aI x7_14), none]) ⟨rfl, ⟨rfl, ⟨rfl, ⟨rfl, ⟨rfl, ⟨rfl, ⟨rfl, trivial⟩⟩⟩⟩⟩⟩⟩ (hk61 h)
  · have h := iq c13 h
    obtain ⟨hc15, h⟩ := ck h
    refine aw_aload_n eX6_mostOn_221 rfl (aw_getf (k := 6) (f := 13) eX6_mostOn_222 tw_2_60 ⟨by decide, by decide⟩ (by decide) (v := aR 28 0) rfl (aw_bipush eX6_mostOn_225 k_bipush_6 (aw_iload eX6_mostOn_227 rfl (aw_imul eX6_mostOn_229 (aw_iload eX6_mostOn_230 rfl (aw_iadd eX6_mostOn_232 (aw_ialdK (n := 384) eX6_mostOn_233 rfl (by decide) hc15 (j := (Int32.toNatClampNeg (((6 : Int32) * x6) + x7))) rfl (aw_bipush eX6_mostOn_234 k_bipush_m9 (aw_icmp_eq eX6_mostOn_236 (fun c16 => ?_) (fun c16 => ?_))))))))))
    · have h := ip c16 h
      refine aw_iconst eX6_mostOn_243 k_iconst_0 (aw_istoreY rfl eX6_mostOn_244 (by decide) rfl (ls' := [some (aR 6 0), some (aI x1), none, some (aI x3), some (aI x4), some (aI x5), some (aI x6), some (aI x7), some (aI 0)]) rfl (aw_iload eX6_mostOn_246 rfl (aw_if_eq eX6_mostOn_248 (K2 := fun z => absurd (by decide) z) (K1 := fun _ => ?_))))
      obtain ⟨x7_17, ex7_17, h⟩ := lt_e h
      refine aw_iload eX6_mostOn_269 rfl (aw_istoreY rfl eX6_mostOn_271 (by decide) rfl (ls' := [some (aR 6 0), some (aI x1), none, some (aI x3), some (aI x4), some (aI x5), some (aI x6), some (aI x7), some (aI 0)]) rfl (aw_iincY (iinc_k k_iconst_1 ex7_17) eX6_mostOn_273 rfl (by decide) rfl (ls' := [some (aR 6 0), some (aI x1), none, some (aI x3), some (aI x4), some (aI x5), some (aI x6), some (aI x7_17), some (aI 0)]) rfl (aw_goto eX6_mostOn_276 ?_)))
      exact aw_sub (ls' := [some (aR 6 0), some (aI x1), none, some (aI x3), some (aI x4), some (aI x5), some (aI x6), some (aI x7_17), none]) ⟨rfl, ⟨rfl, ⟨rfl, ⟨rfl, ⟨rfl, ⟨rfl, ⟨rfl, trivial⟩⟩⟩⟩⟩⟩⟩ (hk61 h)
    · have h := iq c16 h
      refine aw_iconst eX6_mostOn_239 k_iconst_1 (aw_goto eX6_mostOn_240 (aw_istoreY rfl eX6_mostOn_244 (by decide) rfl (ls' := [some (aR 6 0), some (aI x1), none, some (aI x3), some (aI x4), some (aI x5), some (aI x6), some (aI x7), some (aI 1)]) rfl (aw_iload eX6_mostOn_246 rfl (aw_if_eq eX6_mostOn_248 (K1 := fun z => absurd z (by decide)) (K2 := fun _ => ?_)))))
      obtain ⟨q18, hq18, h⟩ := bd h
      refine aw_iload eX6_mostOn_251 rfl (aw_callSI (N := mX6_ones) [aI x6] eX6_mostOn_253 tw_2_227 msX6_ones (by decide) rfl rfl (Nat.le_of_ble_eq_true rfl) (A_X6_ones hq18) (aw_iload eX6_mostOn_256 rfl (aw_icmp_le eX6_mostOn_258 (fun c19 => ?_) (fun c19 => ?_))))
      · have h := ip c19 h
        obtain ⟨x7_20, ex7_20, h⟩ := lt_e h
        refine aw_iload eX6_mostOn_269 rfl (aw_istoreY rfl eX6_mostOn_271 (by decide) rfl (ls' := [some (aR 6 0), some (aI x1), none, some (aI x3), some (aI x4), some (aI x5), some (aI x6), some (aI x7), some (aI 1)]) rfl (aw_iincY (iinc_k k_iconst_1 ex7_20) eX6_mostOn_273 rfl (by decide) rfl (ls' := [some (aR 6 0), some (aI x1), none, some (aI x3), some (aI x4), some (aI x5), some (aI x6), some (aI x7_20), some (aI 1)]) rfl (aw_goto eX6_mostOn_276 ?_)))
        exact aw_sub (ls' := [some (aR 6 0), some (aI x1), none, some (aI x3), some (aI x4), some (aI x5), some (aI x6), some (aI x7_20), none]) ⟨rfl, ⟨rfl, ⟨rfl, ⟨rfl, ⟨rfl, ⟨rfl, ⟨rfl, trivial⟩⟩⟩⟩⟩⟩⟩ (hk61 h)
      · have h := iq c19 h
        obtain ⟨q21, hq21, h⟩ := bd h
        obtain ⟨x7_22, ex7_22, h⟩ := lt_e h
        refine aw_iload eX6_mostOn_261 rfl (aw_callSI (N := mX6_ones) [aI x6] eX6_mostOn_263 tw_2_227 msX6_ones (by decide) rfl rfl (Nat.le_of_ble_eq_true rfl) (A_X6_ones hq21) (aw_goto eX6_mostOn_266 (aw_istoreY rfl eX6_mostOn_271 (by decide) rfl (ls' := [some (aR 6 0), some (aI x1), none, some (aI x3), some (aI x4), some (aI q21), some (aI x6), some (aI x7), some (aI 1)]) rfl (aw_iincY (iinc_k k_iconst_1 ex7_22) eX6_mostOn_273 rfl (by decide) rfl (ls' := [some (aR 6 0), some (aI x1), none, some (aI x3), some (aI x4), some (aI q21), some (aI x6), some (aI x7_22), some (aI 1)]) rfl (aw_goto eX6_mostOn_276 ?_)))))
        exact aw_sub (ls' := [some (aR 6 0), some (aI x1), none, some (aI x3), some (aI x4), some (aI q21), some (aI x6), some (aI x7_22), none]) ⟨rfl, ⟨rfl, ⟨rfl, ⟨rfl, ⟨rfl, ⟨rfl, ⟨rfl, trivial⟩⟩⟩⟩⟩⟩⟩ (hk61 h)
def D_X6_mostOn_132 (k51 : Int32 → Int32 → Int32 → Int32 → Int32 → Wd → Option (Int32 × Wd)) (k61 : Int32 → Int32 → Int32 → Int32 → Int32 → Int32 → Wd → Option (Int32 × Wd)) : Nat → Int32 → Int32 → Int32 → Int32 → Int32 → Int32 → Int32 → Wd → Option (Int32 × Wd)
  | 0, _, _, _, _, _, _, _, _ => none
  | n + 1, x1, x3, x4, x5, x6, x7, x8, w => if (w.1 6 0 0) ≤ x8 then (D_X6_mostOn_211 k51 k61 x1 x3 x4 x5 x6 x7 w) else ((D_X6_has x6 x8).bind fun q25 => if q25 = 0 then (lt (x8 + 1) fun x8_27 => D_X6_mostOn_132 k51 k61 n x1 x3 x4 x5 x6 x7 x8_27 w) else (if inB (((6 : Int32) * x6) + x8) 384 then if (w.1 28 0 (Int32.toNatClampNeg (((6 : Int32) * x6) + x8))) = ((-9)) then (lt (x8 + 1) fun x8_30 => D_X6_mostOn_132 k51 k61 n x1 x3 x4 x5 x6 x7 x8_30 w) else (if inB x8 6 then if inB (((6 : Int32) * x6) + x8) 384 then (D_X6_begins w x1 x7 (w.1 20 0 (Int32.toNatClampNeg x8)) (w.1 28 0 (Int32.toNatClampNeg (((6 : Int32) * x6) + x8))) 0).bind fun q33 => (D_X6_noteEarlier w x6 x7 q33).bind fun q34 => lt (x8 + 1) fun x8_35 => D_X6_mostOn_132 k51 k61 n x1 x3 x4 x5 x6 x7 x8_35 q34 else none else none) else none))
set_option maxHeartbeats 4000000 in
set_option maxRecDepth 100000 in
theorem A_X6_mostOn_132 {X : XS} {k51 : Int32 → Int32 → Int32 → Int32 → Int32 → Wd → Option (Int32 × Wd)} {k61 : Int32 → Int32 → Int32 → Int32 → Int32 → Int32 → Wd → Option (Int32 × Wd)} (hk51 : ∀ {x1 : Int32} {x3 : Int32} {x4 : Int32} {x5 : Int32} {x6 : Int32} {w : Wd} {r : Int32 × Wd}, k51 x1 x3 x4 x5 x6 w = some r → AW 3 X mX6_mostOn 51 [some (aR 6 0), some (aI x1), none, some (aI x3), some (aI x4), some (aI x5), some (aI x6), none, none] [] w (PI r.1 r.2)) (hk61 : ∀ {x1 : Int32} {x3 : Int32} {x4 : Int32} {x5 : Int32} {x6 : Int32} {x7 : Int32} {w : Wd} {r : Int32 × Wd}, k61 x1 x3 x4 x5 x6 x7 w = some r → AW 3 X mX6_mostOn 61 [some (aR 6 0), some (aI x1), none, some (aI x3), some (aI x4), some (aI x5), some (aI x6), some (aI x7), none] [] w (PI r.1 r.2)) : ∀ (nn : Nat) {x1 : Int32} {x3 : Int32} {x4 : Int32} {x5 : Int32} {x6 : Int32} {x7 : Int32} {x8 : Int32} {w : Wd} {r : Int32 × Wd}, D_X6_mostOn_132 k51 k61 nn x1 x3 x4 x5 x6 x7 x8 w = some r → AW 3 X mX6_mostOn 132 [some (aR 6 0), some (aI x1), none, some (aI x3), some (aI x4), some (aI x5), some (aI x6), some (aI x7), some (aI x8)] [] w (PI r.1 r.2) := by
  intro nn
  induction nn with
  | zero => intros; rename_i h; cases h
  | succ n ih =>
    intro x1 x3 x4 x5 x6 x7 x8 w r h
    rw [D_X6_mostOn_132] at h
    refine aw_iload eX6_mostOn_132 rfl (aw_aload_n eX6_mostOn_134 rfl (aw_getf (k := 6) (f := 0) eX6_mostOn_135 tw_2_47 ⟨by decide, by decide⟩ (by decide) (v := aI (w.1 6 0 0)) rfl (aw_icmp_ge eX6_mostOn_138 (fun c24 => ?_) (fun c24 => ?_))))
    · have h := ip c24 h
      exact aw_sub (ls' := [some (aR 6 0), some (aI x1), none, some (aI x3), some (aI x4), some (aI x5), some (aI x6), some (aI x7), none]) ⟨rfl, ⟨rfl, ⟨rfl, ⟨rfl, ⟨rfl, ⟨rfl, ⟨rfl, trivial⟩⟩⟩⟩⟩⟩⟩ (A_X6_mostOn_211 (fun h => hk51 h) (fun h => hk61 h) h)
    · have h := iq c24 h
      obtain ⟨q25, hq25, h⟩ := bd h
      refine aw_iload eX6_mostOn_141 rfl (aw_iload eX6_mostOn_143 rfl (aw_callSI (N := mX6_has) [aI x6, aI x8] eX6_mostOn_145 tw_2_151 msX6_has (by decide) rfl rfl (Nat.le_of_ble_eq_true rfl) (A_X6_has hq25) (aw_if_eq eX6_mostOn_148 (fun c26 => ?_) (fun c26 => ?_))))
      · have h := ip c26 h
        obtain ⟨x8_27, ex8_27, h⟩ := lt_e h
        refine aw_iincY (iinc_k k_iconst_1 ex8_27) eX6_mostOn_205 rfl (by decide) rfl (ls' := [some (aR 6 0), some (aI x1), none, some (aI x3), some (aI x4), some (aI x5), some (aI x6), some (aI x7), some (aI x8_27)]) rfl (aw_goto eX6_mostOn_208 ?_)
        exact ih h
      · have h := iq c26 h
        obtain ⟨hc28, h⟩ := ck h
        refine aw_aload_n eX6_mostOn_151 rfl (aw_getf (k := 6) (f := 13) eX6_mostOn_152 tw_2_60 ⟨by decide, by decide⟩ (by decide) (v := aR 28 0) rfl (aw_bipush eX6_mostOn_155 k_bipush_6 (aw_iload eX6_mostOn_157 rfl (aw_imul eX6_mostOn_159 (aw_iload eX6_mostOn_160 rfl (aw_iadd eX6_mostOn_162 (aw_ialdK (n := 384) eX6_mostOn_163 rfl (by decide) hc28 (j := (Int32.toNatClampNeg (((6 : Int32) * x6) + x8))) rfl (aw_bipush eX6_mostOn_164 k_bipush_m9 (aw_icmp_eq eX6_mostOn_166 (fun c29 => ?_) (fun c29 => ?_))))))))))
        · have h := ip c29 h
          obtain ⟨x8_30, ex8_30, h⟩ := lt_e h
          refine aw_iincY (iinc_k k_iconst_1 ex8_30) eX6_mostOn_205 rfl (by decide) rfl (ls' := [some (aR 6 0), some (aI x1), none, some (aI x3), some (aI x4), some (aI x5), some (aI x6), some (aI x7), some (aI x8_30)]) rfl (aw_goto eX6_mostOn_208 ?_)
          exact ih h
        · have h := iq c29 h
          obtain ⟨hc31, h⟩ := ck h
          obtain ⟨hc32, h⟩ := ck h
          obtain ⟨q33, hq33, h⟩ := bd h
          obtain ⟨q34, hq34, h⟩ := bd h
          obtain ⟨x8_35, ex8_35, h⟩ := lt_e h
          refine aw_aload_n eX6_mostOn_169 rfl (aw_iload eX6_mostOn_170 rfl (aw_iload eX6_mostOn_172 rfl (aw_aload_n eX6_mostOn_174 rfl (aw_iload_n eX6_mostOn_175 rfl (aw_iload eX6_mostOn_176 rfl (aw_aload_n eX6_mostOn_178 rfl (aw_getf (k := 6) (f := 2) eX6_mostOn_179 tw_2_49 ⟨by decide, by decide⟩ (by decide) (v := aR 20 0) rfl (aw_iload eX6_mostOn_182 rfl (aw_ialdK (n := 6) eX6_mostOn_184 rfl (by decide) hc31 (j := (Int32.toNatClampNeg x8)) rfl (aw_aload_n eX6_mostOn_185 rfl (aw_getf (k := 6) (f := 13) eX6_mostOn_186 tw_2_60 ⟨by decide, by decide⟩ (by decide) (v := aR 28 0) rfl (aw_bipush eX6_mostOn_189 k_bipush_6 (aw_iload eX6_mostOn_191 rfl (aw_imul eX6_mostOn_193 (aw_iload eX6_mostOn_194 rfl (aw_iadd eX6_mostOn_196 (aw_ialdK (n := 384) eX6_mostOn_197 rfl (by decide) hc32 (j := (Int32.toNatClampNeg (((6 : Int32) * x6) + x8))) rfl (aw_iconst eX6_mostOn_198 k_iconst_0 (aw_callVI (N := mX6_begins) [aI x1, aI x7, aI (w.1 20 0 (Int32.toNatClampNeg x8)), aI (w.1 28 0 (Int32.toNatClampNeg (((6 : Int32) * x6) + x8))), aI 0] eX6_mostOn_199 tw_2_154 miX6_begins (by decide) (by decide) (by decide) rfl rfl (Nat.le_of_ble_eq_true rfl) (A_X6_begins hq33) (aw_callVV (N := mX6_noteEarlier) [aI x6, aI x7, aI q33] eX6_mostOn_202 tw_2_223 miX6_noteEarlier (by decide) (by decide) (by decide) rfl rfl (Nat.le_of_ble_eq_true rfl) (A_X6_noteEarlier hq34) (aw_iincY (iinc_k k_iconst_1 ex8_35) eX6_mostOn_205 rfl (by decide) rfl (ls' := [some (aR 6 0), some (aI x1), none, some (aI x3), some (aI x4), some (aI x5), some (aI x6), some (aI x7), some (aI x8_35)]) rfl (aw_goto eX6_mostOn_208 ?_))))))))))))))))))))))
          exact ih h
def D_X6_mostOn_61 (k51 : Int32 → Int32 → Int32 → Int32 → Int32 → Wd → Option (Int32 × Wd)) : Nat → Int32 → Int32 → Int32 → Int32 → Int32 → Int32 → Wd → Option (Int32 × Wd)
  | 0, _, _, _, _, _, _, _ => none
  | n + 1, x1, x3, x4, x5, x6, x7, w => if (w.1 6 0 0) ≤ x7 then (lt (x6 + 1) fun x6_7 => k51 x1 x3 x4 x5 x6_7 w) else (if (x6 &&& (x4 ^^^ ((-1)))) = 0 then ((D_X6_has (x4 &&& (x6 ^^^ ((-1)))) x7).bind fun q10 => if q10 = 0 then (D_X6_mostOn_211 k51 (fun y0 y1 y2 y3 y4 y5 wy => D_X6_mostOn_61 k51 n y0 y1 y2 y3 y4 y5 wy) x1 x3 x4 x5 x6 x7 w) else (if x6 = 0 then (if inB (x3 + (1 : Int32)) 16 then if inB x3 16 then (D_X6_begins w x1 x7 (w.1 25 0 (Int32.toNatClampNeg (x3 + (1 : Int32)))) (w.1 25 0 (Int32.toNatClampNeg x3)) 0).bind fun q38 => (D_X6_noteEarlier w 0 x7 q38).bind fun q39 => D_X6_mostOn_132 k51 (fun y0 y1 y2 y3 y4 y5 wy => D_X6_mostOn_61 k51 n y0 y1 y2 y3 y4 y5 wy) fuelZ x1 x3 x4 x5 x6 x7 0 q39 else none else none) else (D_X6_mostOn_132 k51 (fun y0 y1 y2 y3 y4 y5 wy => D_X6_mostOn_61 k51 n y0 y1 y2 y3 y4 y5 wy) fuelZ x1 x3 x4 x5 x6 x7 0 w))) else (lt (x6 + 1) fun x6_9 => k51 x1 x3 x4 x5 x6_9 w))
set_option maxHeartbeats 4000000 in
set_option maxRecDepth 100000 in
theorem A_X6_mostOn_61 {X : XS} {k51 : Int32 → Int32 → Int32 → Int32 → Int32 → Wd → Option (Int32 × Wd)} (hk51 : ∀ {x1 : Int32} {x3 : Int32} {x4 : Int32} {x5 : Int32} {x6 : Int32} {w : Wd} {r : Int32 × Wd}, k51 x1 x3 x4 x5 x6 w = some r → AW 3 X mX6_mostOn 51 [some (aR 6 0), some (aI x1), none, some (aI x3), some (aI x4), some (aI x5), some (aI x6), none, none] [] w (PI r.1 r.2)) : ∀ (nn : Nat) {x1 : Int32} {x3 : Int32} {x4 : Int32} {x5 : Int32} {x6 : Int32} {x7 : Int32} {w : Wd} {r : Int32 × Wd}, D_X6_mostOn_61 k51 nn x1 x3 x4 x5 x6 x7 w = some r → AW 3 X mX6_mostOn 61 [some (aR 6 0), some (aI x1), none, some (aI x3), some (aI x4), some (aI x5), some (aI x6), some (aI x7), none] [] w (PI r.1 r.2) := by
  intro nn
  induction nn with
  | zero => intros; rename_i h; cases h
  | succ n ih =>
    intro x1 x3 x4 x5 x6 x7 w r h
    rw [D_X6_mostOn_61] at h
    refine aw_iload eX6_mostOn_61 rfl (aw_aload_n eX6_mostOn_63 rfl (aw_getf (k := 6) (f := 0) eX6_mostOn_64 tw_2_47 ⟨by decide, by decide⟩ (by decide) (v := aI (w.1 6 0 0)) rfl (aw_icmp_ge eX6_mostOn_67 (fun c6 => ?_) (fun c6 => ?_))))
    · have h := ip c6 h
      obtain ⟨x6_7, ex6_7, h⟩ := lt_e h
      refine aw_iincY (iinc_k k_iconst_1 ex6_7) eX6_mostOn_279 rfl (by decide) rfl (ls' := [some (aR 6 0), some (aI x1), none, some (aI x3), some (aI x4), some (aI x5), some (aI x6_7), some (aI x7), none]) rfl (aw_goto eX6_mostOn_282 ?_)
      exact aw_sub (ls' := [some (aR 6 0), some (aI x1), none, some (aI x3), some (aI x4), some (aI x5), some (aI x6_7), none, none]) ⟨rfl, ⟨rfl, ⟨rfl, ⟨rfl, ⟨rfl, ⟨rfl, trivial⟩⟩⟩⟩⟩⟩ (hk51 h)
    · have h := iq c6 h
      refine aw_iload eX6_mostOn_70 rfl (aw_iload eX6_mostOn_72 rfl (aw_iconst eX6_mostOn_74 k_iconst_m1 (aw_ixor eX6_mostOn_75 (aw_iand eX6_mostOn_76 (aw_if_ne eX6_mostOn_77 (fun c8 => ?_) (fun c8 => ?_))))))
      · have h := iq c8 h
        obtain ⟨x6_9, ex6_9, h⟩ := lt_e h
        refine aw_iincY (iinc_k k_iconst_1 ex6_9) eX6_mostOn_279 rfl (by decide) rfl (ls' := [some (aR 6 0), some (aI x1), none, some (aI x3), some (aI x4), some (aI x5), some (aI x6_9), some (aI x7), none]) rfl (aw_goto eX6_mostOn_282 ?_)
        exact aw_sub (ls' := [some (aR 6 0), some (aI x1), none, some (aI x3), some (aI x4), some (aI x5), some (aI x6_9), none, none]) ⟨rfl, ⟨rfl, ⟨rfl, ⟨rfl, ⟨rfl, ⟨rfl, trivial⟩⟩⟩⟩⟩⟩ (hk51 h)
      · have h := ip c8 h
        obtain ⟨q10, hq10, h⟩ := bd h
        refine aw_iload eX6_mostOn_80 rfl (aw_iload eX6_mostOn_82 rfl (aw_iconst eX6_mostOn_84 k_iconst_m1 (aw_ixor eX6_mostOn_85 (aw_iand eX6_mostOn_86 (aw_iload eX6_mostOn_87 rfl (aw_callSI (N := mX6_has) [aI (x4 &&& (x6 ^^^ ((-1)))), aI x7] eX6_mostOn_89 tw_2_151 msX6_has (by decide) rfl rfl (Nat.le_of_ble_eq_true rfl) (A_X6_has hq10) (aw_if_eq eX6_mostOn_92 (fun c11 => ?_) (fun c11 => ?_))))))))
        · have h := ip c11 h
          exact A_X6_mostOn_211 (fun h => hk51 h) (fun h => ih h) h
        · have h := iq c11 h
          refine aw_iload eX6_mostOn_95 rfl (aw_if_ne eX6_mostOn_97 (fun c23 => ?_) (fun c23 => ?_))
          · have h := iq c23 h
            refine aw_iconst eX6_mostOn_129 k_iconst_0 (aw_istoreY rfl eX6_mostOn_130 (by decide) rfl (ls' := [some (aR 6 0), some (aI x1), none, some (aI x3), some (aI x4), some (aI x5), some (aI x6), some (aI x7), some (aI 0)]) rfl ?_)
            exact A_X6_mostOn_132 (fun h => hk51 h) (fun h => ih h) fuelZ h
          · have h := ip c23 h
            obtain ⟨hc36, h⟩ := ck h
            obtain ⟨hc37, h⟩ := ck h
            obtain ⟨q38, hq38, h⟩ := bd h
            obtain ⟨q39, hq39, h⟩ := bd h
            refine aw_aload_n eX6_mostOn_100 rfl (aw_iconst eX6_mostOn_101 k_iconst_0 (aw_iload eX6_mostOn_102 rfl (aw_aload_n eX6_mostOn_104 rfl (aw_iload_n eX6_mostOn_105 rfl (aw_iload eX6_mostOn_106 rfl (aw_aload_n eX6_mostOn_108 rfl (aw_getf (k := 6) (f := 7) eX6_mostOn_109 tw_2_54 ⟨by decide, by decide⟩ (by decide) (v := aR 25 0) rfl (aw_iload_n eX6_mostOn_112 rfl (aw_iconst eX6_mostOn_113 k_iconst_1 (aw_iadd eX6_mostOn_114 (aw_ialdK (n := 16) eX6_mostOn_115 rfl (by decide) hc36 (j := (Int32.toNatClampNeg (x3 + (1 : Int32)))) rfl (aw_aload_n eX6_mostOn_116 rfl (aw_getf (k := 6) (f := 7) eX6_mostOn_117 tw_2_54 ⟨by decide, by decide⟩ (by decide) (v := aR 25 0) rfl (aw_iload_n eX6_mostOn_120 rfl (aw_ialdK (n := 16) eX6_mostOn_121 rfl (by decide) hc37 (j := (Int32.toNatClampNeg x3)) rfl (aw_iconst eX6_mostOn_122 k_iconst_0 (aw_callVI (N := mX6_begins) [aI x1, aI x7, aI (w.1 25 0 (Int32.toNatClampNeg (x3 + (1 : Int32)))), aI (w.1 25 0 (Int32.toNatClampNeg x3)), aI 0] eX6_mostOn_123 tw_2_154 miX6_begins (by decide) (by decide) (by decide) rfl rfl (Nat.le_of_ble_eq_true rfl) (A_X6_begins hq38) (aw_callVV (N := mX6_noteEarlier) [aI 0, aI x7, aI q38] eX6_mostOn_126 tw_2_223 miX6_noteEarlier (by decide) (by decide) (by decide) rfl rfl (Nat.le_of_ble_eq_true rfl) (A_X6_noteEarlier hq39) (aw_iconst eX6_mostOn_129 k_iconst_0 (aw_istoreY rfl eX6_mostOn_130 (by decide) rfl (ls' := [some (aR 6 0), some (aI x1), none, some (aI x3), some (aI x4), some (aI x5), some (aI x6), some (aI x7), some (aI 0)]) rfl ?_))))))))))))))))))))
            exact A_X6_mostOn_132 (fun h => hk51 h) (fun h => ih h) fuelZ h
def D_X6_mostOn_51 : Nat → Int32 → Int32 → Int32 → Int32 → Int32 → Wd → Option (Int32 × Wd)
  | 0, _, _, _, _, _, _ => none
  | n + 1, x1, x3, x4, x5, x6, w => if x4 < x6 then (some (x5, w)) else (D_X6_mostOn_61 (fun y0 y1 y2 y3 y4 wy => D_X6_mostOn_51 n y0 y1 y2 y3 y4 wy) fuelZ x1 x3 x4 x5 x6 0 w)
set_option maxHeartbeats 4000000 in
set_option maxRecDepth 100000 in
theorem A_X6_mostOn_51 {X : XS} : ∀ (nn : Nat) {x1 : Int32} {x3 : Int32} {x4 : Int32} {x5 : Int32} {x6 : Int32} {w : Wd} {r : Int32 × Wd}, D_X6_mostOn_51 nn x1 x3 x4 x5 x6 w = some r → AW 3 X mX6_mostOn 51 [some (aR 6 0), some (aI x1), none, some (aI x3), some (aI x4), some (aI x5), some (aI x6), none, none] [] w (PI r.1 r.2) := by
  intro nn
  induction nn with
  | zero => intros; rename_i h; cases h
  | succ n ih =>
    intro x1 x3 x4 x5 x6 w r h
    rw [D_X6_mostOn_51] at h
    refine aw_iload eX6_mostOn_51 rfl (aw_iload eX6_mostOn_53 rfl (aw_icmp_gt eX6_mostOn_55 (fun c5 => ?_) (fun c5 => ?_)))
    · have h := ip c5 h
      exact aw_iload eX6_mostOn_285 rfl (aw_iret eX6_mostOn_287 rfl (pI_i h))
    · have h := iq c5 h
      refine aw_iconst eX6_mostOn_58 k_iconst_0 (aw_istoreY rfl eX6_mostOn_59 (by decide) rfl (ls' := [some (aR 6 0), some (aI x1), none, some (aI x3), some (aI x4), some (aI x5), some (aI x6), some (aI 0), none]) rfl ?_)
      exact A_X6_mostOn_61 (fun h => ih h) fuelZ h
def D_X6_mostOn_25 : Nat → Int32 → Int32 → Int32 → Int32 → Int32 → Wd → Option (Int32 × Wd)
  | 0, _, _, _, _, _, _ => none
  | n + 1, x1, x3, x4, x5, x6, w => if 384 ≤ x6 then (D_X6_mostOn_51 fuelZ x1 x3 x4 x5 0 w) else (if inB x6 384 then lt (wS w 28 0 (Int32.toNatClampNeg x6) ((-9))) fun w41 => lt (x6 + 1) fun x6_42 => D_X6_mostOn_25 n x1 x3 x4 x5 x6_42 w41 else none)
set_option maxHeartbeats 4000000 in
set_option maxRecDepth 100000 in
theorem A_X6_mostOn_25 {X : XS} : ∀ (nn : Nat) {x1 : Int32} {x3 : Int32} {x4 : Int32} {x5 : Int32} {x6 : Int32} {w : Wd} {r : Int32 × Wd}, D_X6_mostOn_25 nn x1 x3 x4 x5 x6 w = some r → AW 3 X mX6_mostOn 25 [some (aR 6 0), some (aI x1), none, some (aI x3), some (aI x4), some (aI x5), some (aI x6), none, none] [] w (PI r.1 r.2) := by
  intro nn
  induction nn with
  | zero => intros; rename_i h; cases h
  | succ n ih =>
    intro x1 x3 x4 x5 x6 w r h
    rw [D_X6_mostOn_25] at h
    refine aw_iload eX6_mostOn_25 rfl (aw_sipush eX6_mostOn_27 k_sipush_384 (aw_icmp_ge eX6_mostOn_30 (fun c4 => ?_) (fun c4 => ?_)))
    · have h := ip c4 h
      refine aw_iconst eX6_mostOn_48 k_iconst_0 (aw_istoreY rfl eX6_mostOn_49 (by decide) rfl (ls' := [some (aR 6 0), some (aI x1), none, some (aI x3), some (aI x4), some (aI x5), some (aI 0), none, none]) rfl ?_)
      exact A_X6_mostOn_51 fuelZ h
    · have h := iq c4 h
      obtain ⟨hc40, h⟩ := ck h
      obtain ⟨w41, ew41, h⟩ := lt_e h
      obtain ⟨x6_42, ex6_42, h⟩ := lt_e h
      refine aw_aload_n eX6_mostOn_33 rfl (aw_getf (k := 6) (f := 13) eX6_mostOn_34 tw_2_60 ⟨by decide, by decide⟩ (by decide) (v := aR 28 0) rfl (aw_iload eX6_mostOn_37 rfl (aw_bipush eX6_mostOn_39 k_bipush_m9 (aw_iastK (n := 384) eX6_mostOn_41 rfl (by decide) hc40 (j := (Int32.toNatClampNeg x6)) rfl (aw_wn ew41 (aw_iincY (iinc_k k_iconst_1 ex6_42) eX6_mostOn_42 rfl (by decide) rfl (ls' := [some (aR 6 0), some (aI x1), none, some (aI x3), some (aI x4), some (aI x5), some (aI x6_42), none, none]) rfl (aw_goto eX6_mostOn_45 ?_)))))))
      exact ih h
def D_X6_mostOn (w : Wd) (x1 : Int32) (x2 : Int32) : Option (Int32 × Wd) := lt ((8 : Int32) * x1) fun x3_1 => if inB (x3_1 + (2 : Int32)) 16 then lt (x2 &&& ((w.1 25 0 (Int32.toNatClampNeg (x3_1 + (2 : Int32)))) ^^^ ((-1)))) fun x4_3 => D_X6_mostOn_25 fuelZ x1 x3_1 x4_3 0 0 w else none
set_option maxHeartbeats 4000000 in
set_option maxRecDepth 100000 in
theorem A_X6_mostOn {X : XS} {w : Wd} {x1 : Int32} {x2 : Int32} {r : Int32 × Wd} (h : D_X6_mostOn w x1 x2 = some r) : AW 3 X mX6_mostOn 0 (entA 9 [aR 6 0, aI x1, aI x2]) [] w (PI r.1 r.2) := by
  show AW _ _ _ _ [some (aR 6 0), some (aI x1), some (aI x2), none, none, none, none, none, none] _ _ _
  unfold D_X6_mostOn at h
  obtain ⟨x3_1, ex3_1, h⟩ := lt_e h
  obtain ⟨hc2, h⟩ := ck h
  obtain ⟨x4_3, ex4_3, h⟩ := lt_e h
  refine aw_bipush eX6_mostOn_0 k_bipush_8 (aw_iload_n eX6_mostOn_2 rfl (aw_imul eX6_mostOn_3 (aw_istore_nY ex3_1 eX6_mostOn_4 (by decide) rfl (ls' := [some (aR 6 0), some (aI x1), some (aI x2), some (aI x3_1), none, none, none, none, none]) rfl (aw_iload_n eX6_mostOn_5 rfl (aw_aload_n eX6_mostOn_6 rfl (aw_getf (k := 6) (f := 7) eX6_mostOn_7 tw_2_54 ⟨by decide, by decide⟩ (by decide) (v := aR 25 0) rfl (aw_iload_n eX6_mostOn_10 rfl (aw_iconst eX6_mostOn_11 k_iconst_2 (aw_iadd eX6_mostOn_12 (aw_ialdK (n := 16) eX6_mostOn_13 rfl (by decide) hc2 (j := (Int32.toNatClampNeg (x3_1 + (2 : Int32)))) rfl (aw_iconst eX6_mostOn_14 k_iconst_m1 (aw_ixor eX6_mostOn_15 (aw_iand eX6_mostOn_16 (aw_istoreY ex4_3 eX6_mostOn_17 (by decide) rfl (ls' := [some (aR 6 0), some (aI x1), some (aI x2), some (aI x3_1), some (aI x4_3), none, none, none, none]) rfl (aw_iconst eX6_mostOn_19 k_iconst_0 (aw_istoreY rfl eX6_mostOn_20 (by decide) rfl (ls' := [some (aR 6 0), some (aI x1), some (aI x2), some (aI x3_1), some (aI x4_3), some (aI 0), none, none, none]) rfl (aw_iconst eX6_mostOn_22 k_iconst_0 (aw_istoreY rfl eX6_mostOn_23 (by decide) rfl (ls' := [some (aR 6 0), some (aI x1), some (aI x2), some (aI x3_1), some (aI x4_3), some (aI 0), some (aI 0), none, none]) rfl ?_))))))))))))))))))
  exact aw_sub (ls' := [some (aR 6 0), some (aI x1), none, some (aI x3_1), some (aI x4_3), some (aI 0), some (aI 0), none, none]) ⟨rfl, ⟨rfl, ⟨rfl, ⟨rfl, ⟨rfl, ⟨rfl, trivial⟩⟩⟩⟩⟩⟩ (A_X6_mostOn_25 fuelZ h)
def D_X6_endOf_39 (w : Wd) (k5 : Int32 → Int32 → Int32 → Option (Int32)) (x1 : Int32) (x2 : Int32) (x3 : Int32) (s0 : Int32) : Option (Int32) := if s0 = 0 then (lt (x3 + 1) fun x3_6 => k5 x1 x2 x3_6) else (if x2 = ((-9)) then (if inB x3 384 then lt (w.1 28 0 (Int32.toNatClampNeg x3)) fun x2_9 => lt (x3 + 1) fun x3_10 => k5 x1 x2_9 x3_10 else none) else (if inB x3 384 then if x2 ≤ (w.1 28 0 (Int32.toNatClampNeg x3)) then (lt (x3 + 1) fun x3_13 => k5 x1 x2 x3_13) else (if inB x3 384 then lt (w.1 28 0 (Int32.toNatClampNeg x3)) fun x2_15 => lt (x3 + 1) fun x3_16 => k5 x1 x2_15 x3_16 else none) else none))
set_option maxHeartbeats 4000000 in
set_option maxRecDepth 100000 in
theorem A_X6_endOf_39 {X : XS} {w : Wd} {k5 : Int32 → Int32 → Int32 → Option (Int32)} (hk5 : ∀ {x1 : Int32} {x2 : Int32} {x3 : Int32} {r : Int32}, k5 x1 x2 x3 = some r → AW 1 X mX6_endOf 5 [some (aR 6 0), some (aI x1), some (aI x2), some (aI x3), none] [] w (PI r w)) {x1 : Int32} {x2 : Int32} {x3 : Int32} {s0 : Int32} {r : Int32} (h : D_X6_endOf_39 w k5 x1 x2 x3 s0 = some r) : AW 1 X mX6_endOf 39 [some (aR 6 0), some (aI x1), some (aI x2), some (aI x3), none] [aI s0] w (PI r w) := by
  unfold D_X6_endOf_39 at h
  refine aw_istoreY rfl eX6_endOf_39 (by decide) rfl (ls' := [some (aR 6 0), some (aI x1), some (aI x2), some (aI x3), some (aI s0)]) rfl (aw_iload eX6_endOf_41 rfl (aw_if_eq eX6_endOf_43 (fun c5 => ?_) (fun c5 => ?_)))
  · have h := ip c5 h
    obtain ⟨x3_6, ex3_6, h⟩ := lt_e h
    refine aw_iload_n eX6_endOf_71 rfl (aw_istore_nY rfl eX6_endOf_72 (by decide) rfl (ls' := [some (aR 6 0), some (aI x1), some (aI x2), some (aI x3), some (aI s0)]) rfl (aw_iincY (iinc_k k_iconst_1 ex3_6) eX6_endOf_73 rfl (by decide) rfl (ls' := [some (aR 6 0), some (aI x1), some (aI x2), some (aI x3_6), some (aI s0)]) rfl (aw_goto eX6_endOf_76 ?_)))
    exact aw_sub (ls' := [some (aR 6 0), some (aI x1), some (aI x2), some (aI x3_6), none]) ⟨rfl, ⟨rfl, ⟨rfl, ⟨rfl, trivial⟩⟩⟩⟩ (hk5 h)
  · have h := iq c5 h
    refine aw_iload_n eX6_endOf_46 rfl (aw_bipush eX6_endOf_47 k_bipush_m9 (aw_icmp_eq eX6_endOf_49 (fun c7 => ?_) (fun c7 => ?_)))
    · have h := ip c7 h
      obtain ⟨hc8, h⟩ := ck h
      obtain ⟨x2_9, ex2_9, h⟩ := lt_e h
      obtain ⟨x3_10, ex3_10, h⟩ := lt_e h
      refine aw_aload_n eX6_endOf_62 rfl (aw_getf (k := 6) (f := 13) eX6_endOf_63 tw_2_60 ⟨by decide, by decide⟩ (by decide) (v := aR 28 0) rfl (aw_iload_n eX6_endOf_66 rfl (aw_ialdK (n := 384) eX6_endOf_67 rfl (by decide) hc8 (j := (Int32.toNatClampNeg x3)) rfl (aw_goto eX6_endOf_68 (aw_istore_nY ex2_9 eX6_endOf_72 (by decide) rfl (ls' := [some (aR 6 0), some (aI x1), some (aI x2_9), some (aI x3), some (aI s0)]) rfl (aw_iincY (iinc_k k_iconst_1 ex3_10) eX6_endOf_73 rfl (by decide) rfl (ls' := [some (aR 6 0), some (aI x1), some (aI x2_9), some (aI x3_10), some (aI s0)]) rfl (aw_goto eX6_endOf_76 ?_)))))))
      exact aw_sub (ls' := [some (aR 6 0), some (aI x1), some (aI x2_9), some (aI x3_10), none]) ⟨rfl, ⟨rfl, ⟨rfl, ⟨rfl, trivial⟩⟩⟩⟩ (hk5 h)
    · have h := iq c7 h
      obtain ⟨hc11, h⟩ := ck h
      refine aw_aload_n eX6_endOf_52 rfl (aw_getf (k := 6) (f := 13) eX6_endOf_53 tw_2_60 ⟨by decide, by decide⟩ (by decide) (v := aR 28 0) rfl (aw_iload_n eX6_endOf_56 rfl (aw_ialdK (n := 384) eX6_endOf_57 rfl (by decide) hc11 (j := (Int32.toNatClampNeg x3)) rfl (aw_iload_n eX6_endOf_58 rfl (aw_icmp_ge eX6_endOf_59 (fun c12 => ?_) (fun c12 => ?_))))))
      · have h := ip c12 h
        obtain ⟨x3_13, ex3_13, h⟩ := lt_e h
        refine aw_iload_n eX6_endOf_71 rfl (aw_istore_nY rfl eX6_endOf_72 (by decide) rfl (ls' := [some (aR 6 0), some (aI x1), some (aI x2), some (aI x3), some (aI s0)]) rfl (aw_iincY (iinc_k k_iconst_1 ex3_13) eX6_endOf_73 rfl (by decide) rfl (ls' := [some (aR 6 0), some (aI x1), some (aI x2), some (aI x3_13), some (aI s0)]) rfl (aw_goto eX6_endOf_76 ?_)))
        exact aw_sub (ls' := [some (aR 6 0), some (aI x1), some (aI x2), some (aI x3_13), none]) ⟨rfl, ⟨rfl, ⟨rfl, ⟨rfl, trivial⟩⟩⟩⟩ (hk5 h)
      · have h := iq c12 h
        obtain ⟨hc14, h⟩ := ck h
        obtain ⟨x2_15, ex2_15, h⟩ := lt_e h
        obtain ⟨x3_16, ex3_16, h⟩ := lt_e h
        refine aw_aload_n eX6_endOf_62 rfl (aw_getf (k := 6) (f := 13) eX6_endOf_63 tw_2_60 ⟨by decide, by decide⟩ (by decide) (v := aR 28 0) rfl (aw_iload_n eX6_endOf_66 rfl (aw_ialdK (n := 384) eX6_endOf_67 rfl (by decide) hc14 (j := (Int32.toNatClampNeg x3)) rfl (aw_goto eX6_endOf_68 (aw_istore_nY ex2_15 eX6_endOf_72 (by decide) rfl (ls' := [some (aR 6 0), some (aI x1), some (aI x2_15), some (aI x3), some (aI s0)]) rfl (aw_iincY (iinc_k k_iconst_1 ex3_16) eX6_endOf_73 rfl (by decide) rfl (ls' := [some (aR 6 0), some (aI x1), some (aI x2_15), some (aI x3_16), some (aI s0)]) rfl (aw_goto eX6_endOf_76 ?_)))))))
        exact aw_sub (ls' := [some (aR 6 0), some (aI x1), some (aI x2_15), some (aI x3_16), none]) ⟨rfl, ⟨rfl, ⟨rfl, ⟨rfl, trivial⟩⟩⟩⟩ (hk5 h)
def D_X6_endOf_5 (w : Wd) : Nat → Int32 → Int32 → Int32 → Option (Int32)
  | 0, _, _, _ => none
  | n + 1, x1, x2, x3 => if 384 ≤ x3 then (if x1 = 0 then (some (w.1 25 0 0)) else (some (x2))) else (if inB x3 384 then if (w.1 28 0 (Int32.toNatClampNeg x3)) = ((-9)) then (D_X6_endOf_39 w (fun y0 y1 y2 => D_X6_endOf_5 w n y0 y1 y2) x1 x2 x3 0) else ((D_X6_ones (x3 / (6 : Int32))).bind fun q17 => if q17 = x1 then (D_X6_endOf_39 w (fun y0 y1 y2 => D_X6_endOf_5 w n y0 y1 y2) x1 x2 x3 1) else (D_X6_endOf_39 w (fun y0 y1 y2 => D_X6_endOf_5 w n y0 y1 y2) x1 x2 x3 0)) else none)
set_option maxHeartbeats 4000000 in
set_option maxRecDepth 100000 in
theorem A_X6_endOf_5 {X : XS} {w : Wd} : ∀ (nn : Nat) {x1 : Int32} {x2 : Int32} {x3 : Int32} {r : Int32}, D_X6_endOf_5 w nn x1 x2 x3 = some r → AW 1 X mX6_endOf 5 [some (aR 6 0), some (aI x1), some (aI x2), some (aI x3), none] [] w (PI r w) := by
  intro nn
  induction nn with
  | zero => intros; rename_i h; cases h
  | succ n ih =>
    intro x1 x2 x3 r h
    rw [D_X6_endOf_5] at h
    refine aw_iload_n eX6_endOf_5 rfl (aw_sipush eX6_endOf_6 k_sipush_384 (aw_icmp_ge eX6_endOf_9 (fun c1 => ?_) (fun c1 => ?_)))
    · have h := ip c1 h
      refine aw_iload_n eX6_endOf_79 rfl (aw_if_ne eX6_endOf_80 (fun c2 => ?_) (fun c2 => ?_))
      · have h := iq c2 h
        exact aw_iload_n eX6_endOf_92 rfl (aw_iret eX6_endOf_93 rfl (pI_p h))
      · have h := ip c2 h
        exact aw_aload_n eX6_endOf_83 rfl (aw_getf (k := 6) (f := 7) eX6_endOf_84 tw_2_54 ⟨by decide, by decide⟩ (by decide) (v := aR 25 0) rfl (aw_iconst eX6_endOf_87 k_iconst_0 (aw_ialdK (n := 16) eX6_endOf_88 rfl (by decide) (by decide) (j := 0) (by decide) (aw_goto eX6_endOf_89 (aw_iret eX6_endOf_93 rfl (pI_p h))))))
    · have h := iq c1 h
      obtain ⟨hc3, h⟩ := ck h
      refine aw_aload_n eX6_endOf_12 rfl (aw_getf (k := 6) (f := 13) eX6_endOf_13 tw_2_60 ⟨by decide, by decide⟩ (by decide) (v := aR 28 0) rfl (aw_iload_n eX6_endOf_16 rfl (aw_ialdK (n := 384) eX6_endOf_17 rfl (by decide) hc3 (j := (Int32.toNatClampNeg x3)) rfl (aw_bipush eX6_endOf_18 k_bipush_m9 (aw_icmp_eq eX6_endOf_20 (fun c4 => ?_) (fun c4 => ?_))))))
      · have h := ip c4 h
        refine aw_iconst eX6_endOf_38 k_iconst_0 ?_
        exact A_X6_endOf_39 (fun h => ih h) h
      · have h := iq c4 h
        obtain ⟨q17, hq17, h⟩ := bd h
        refine aw_iload_n eX6_endOf_23 rfl (aw_bipush eX6_endOf_24 k_bipush_6 (aw_idiv eX6_endOf_26 (by decide) (aw_callSI (N := mX6_ones) [aI (x3 / (6 : Int32))] eX6_endOf_27 tw_2_227 msX6_ones (by decide) rfl rfl (Nat.le_of_ble_eq_true rfl) (A_X6_ones hq17) (aw_iload_n eX6_endOf_30 rfl (aw_icmp_ne eX6_endOf_31 (fun c18 => ?_) (fun c18 => ?_))))))
        · have h := iq c18 h
          refine aw_iconst eX6_endOf_38 k_iconst_0 ?_
          exact A_X6_endOf_39 (fun h => ih h) h
        · have h := ip c18 h
          refine aw_iconst eX6_endOf_34 k_iconst_1 (aw_goto eX6_endOf_35 ?_)
          exact A_X6_endOf_39 (fun h => ih h) h
def D_X6_endOf (w : Wd) (x1 : Int32) : Option (Int32) := D_X6_endOf_5 w fuelZ x1 ((-9)) 0
set_option maxHeartbeats 4000000 in
set_option maxRecDepth 100000 in
theorem A_X6_endOf {X : XS} {w : Wd} {x1 : Int32} {r : Int32} (h : D_X6_endOf w x1 = some r) : AW 1 X mX6_endOf 0 (entA 5 [aR 6 0, aI x1]) [] w (PI r w) := by
  show AW _ _ _ _ [some (aR 6 0), some (aI x1), none, none, none] _ _ _
  unfold D_X6_endOf at h
  refine aw_bipush eX6_endOf_0 k_bipush_m9 (aw_istore_nY rfl eX6_endOf_2 (by decide) rfl (ls' := [some (aR 6 0), some (aI x1), some (aI ((-9))), none, none]) rfl (aw_iconst eX6_endOf_3 k_iconst_0 (aw_istore_nY rfl eX6_endOf_4 (by decide) rfl (ls' := [some (aR 6 0), some (aI x1), some (aI ((-9))), some (aI 0), none]) rfl ?_)))
  exact A_X6_endOf_5 fuelZ h
def D_X6_layTrial_2 : Nat → Int32 → Wd → Option (Wd)
  | 0, _, _ => none
  | n + 1, x1, w => if 8 ≤ x1 then (some w) else (if inB x1 16 then if inB ((8 : Int32) + x1) 16 then lt (wS w 25 0 (Int32.toNatClampNeg ((8 : Int32) + x1)) (w.1 25 0 (Int32.toNatClampNeg x1))) fun w4 => lt (x1 + 1) fun x1_5 => D_X6_layTrial_2 n x1_5 w4 else none else none)
set_option maxHeartbeats 4000000 in
set_option maxRecDepth 100000 in
theorem A_X6_layTrial_2 {X : XS} : ∀ (nn : Nat) {x1 : Int32} {w : Wd} {r : Wd}, D_X6_layTrial_2 nn x1 w = some r → AW 0 X mX6_layTrial 2 [some (aR 6 0), some (aI x1)] [] w (PV r) := by
  intro nn
  induction nn with
  | zero => intros; rename_i h; cases h
  | succ n ih =>
    intro x1 w r h
    rw [D_X6_layTrial_2] at h
    refine aw_iload_n eX6_layTrial_2 rfl (aw_bipush eX6_layTrial_3 k_bipush_8 (aw_icmp_ge eX6_layTrial_5 (fun c1 => ?_) (fun c1 => ?_)))
    · have h := ip c1 h
      exact aw_vret eX6_layTrial_29 rfl (pV_i h)
    · have h := iq c1 h
      obtain ⟨hc2, h⟩ := ck h
      obtain ⟨hc3, h⟩ := ck h
      obtain ⟨w4, ew4, h⟩ := lt_e h
      obtain ⟨x1_5, ex1_5, h⟩ := lt_e h
      refine aw_aload_n eX6_layTrial_8 rfl (aw_getf (k := 6) (f := 7) eX6_layTrial_9 tw_2_54 ⟨by decide, by decide⟩ (by decide) (v := aR 25 0) rfl (aw_bipush eX6_layTrial_12 k_bipush_8 (aw_iload_n eX6_layTrial_14 rfl (aw_iadd eX6_layTrial_15 (aw_aload_n eX6_layTrial_16 rfl (aw_getf (k := 6) (f := 7) eX6_layTrial_17 tw_2_54 ⟨by decide, by decide⟩ (by decide) (v := aR 25 0) rfl (aw_iload_n eX6_layTrial_20 rfl (aw_ialdK (n := 16) eX6_layTrial_21 rfl (by decide) hc2 (j := (Int32.toNatClampNeg x1)) rfl (aw_iastK (n := 16) eX6_layTrial_22 rfl (by decide) hc3 (j := (Int32.toNatClampNeg ((8 : Int32) + x1))) rfl (aw_wn ew4 (aw_iincY (iinc_k k_iconst_1 ex1_5) eX6_layTrial_23 rfl (by decide) rfl (ls' := [some (aR 6 0), some (aI x1_5)]) rfl (aw_goto eX6_layTrial_26 ?_))))))))))))
      exact ih h
def D_X6_layTrial (w : Wd) : Option (Wd) := D_X6_layTrial_2 fuelZ 0 w
set_option maxHeartbeats 4000000 in
set_option maxRecDepth 100000 in
theorem A_X6_layTrial {X : XS} {w : Wd} {r : Wd} (h : D_X6_layTrial w = some r) : AW 0 X mX6_layTrial 0 (entA 2 [aR 6 0]) [] w (PV r) := by
  show AW _ _ _ _ [some (aR 6 0), none] _ _ _
  unfold D_X6_layTrial at h
  refine aw_iconst eX6_layTrial_0 k_iconst_0 (aw_istore_nY rfl eX6_layTrial_1 (by decide) rfl (ls' := [some (aR 6 0), some (aI 0)]) rfl ?_)
  exact A_X6_layTrial_2 fuelZ h
def D_X6_goesOn_8 : Nat → Int32 → Int32 → Int32 → Int32 → Wd → Option (Int32 × Wd)
  | 0, _, _, _, _, _ => none
  | n + 1, x1, x2, x3, x4, w => if x4 ≤ 0 then ((D_X6_wedOn w 1 x2).bind fun q3 => if q3.1 = 0 then (some (0, q3.2)) else ((D_X6_every q3.2).bind fun q5 => (D_X6_mostOn q3.2 1 q5).bind fun q6 => if q6.1 = x3 then (some (1, q6.2)) else (some (0, q6.2)))) else (if ¬ x4 = 0 then lt (((x1 / x4) - (x1 / x4) / (10 : Int32) * (10 : Int32)) - (1 : Int32)) fun x5_9 => if x5_9 < 0 then (lt (x4 / (10 : Int32)) fun x4_11 => D_X6_goesOn_8 n x1 x2 x3 x4_11 w) else ((D_X6_wedOn w 1 x5_9).bind fun q12 => lt (x4 / (10 : Int32)) fun x4_13 => D_X6_goesOn_8 n x1 x2 x3 x4_13 q12.2) else none)
set_option maxHeartbeats 4000000 in
set_option maxRecDepth 100000 in
theorem A_X6_goesOn_8 {X : XS} : ∀ (nn : Nat) {x1 : Int32} {x2 : Int32} {x3 : Int32} {x4 : Int32} {w : Wd} {r : Int32 × Wd}, D_X6_goesOn_8 nn x1 x2 x3 x4 w = some r → AW 4 X mX6_goesOn 8 [some (aR 6 0), some (aI x1), some (aI x2), some (aI x3), some (aI x4), none] [] w (PI r.1 r.2) := by
  intro nn
  induction nn with
  | zero => intros; rename_i h; cases h
  | succ n ih =>
    intro x1 x2 x3 x4 w r h
    rw [D_X6_goesOn_8] at h
    refine aw_iload eX6_goesOn_8 rfl (aw_if_le eX6_goesOn_10 (fun c2 => ?_) (fun c2 => ?_))
    · have h := ip c2 h
      obtain ⟨q3, hq3, h⟩ := bd h
      refine aw_aload_n eX6_goesOn_47 rfl (aw_iconst eX6_goesOn_48 k_iconst_1 (aw_iload_n eX6_goesOn_49 rfl (aw_callVI (N := mX6_wedOn) [aI 1, aI x2] eX6_goesOn_50 tw_2_186 miX6_wedOn (by decide) (by decide) (by decide) rfl rfl (Nat.le_of_ble_eq_true rfl) (A_X6_wedOn hq3) (aw_if_eq eX6_goesOn_53 (fun c4 => ?_) (fun c4 => ?_)))))
      · have h := ip c4 h
        exact aw_iconst eX6_goesOn_73 k_iconst_0 (aw_zret eX6_goesOn_74 rfl (by decide +kernel) (pI_i h))
      · have h := iq c4 h
        obtain ⟨q5, hq5, h⟩ := bd h
        obtain ⟨q6, hq6, h⟩ := bd h
        refine aw_aload_n eX6_goesOn_56 rfl (aw_iconst eX6_goesOn_57 k_iconst_1 (aw_aload_n eX6_goesOn_58 rfl (aw_callVI (N := mX6_every) [] eX6_goesOn_59 tw_2_215 miX6_every (by decide) (by decide) (by decide) rfl rfl (Nat.le_of_ble_eq_true rfl) (A_X6_every hq5) (aw_callVI (N := mX6_mostOn) [aI 1, aI q5] eX6_goesOn_62 tw_2_219 miX6_mostOn (by decide) (by decide) (by decide) rfl rfl (Nat.le_of_ble_eq_true rfl) (A_X6_mostOn hq6) (aw_iload_n eX6_goesOn_65 rfl (aw_icmp_ne eX6_goesOn_66 (fun c7 => ?_) (fun c7 => ?_)))))))
        · have h := iq c7 h
          exact aw_iconst eX6_goesOn_73 k_iconst_0 (aw_zret eX6_goesOn_74 rfl (by decide +kernel) (pI_i h))
        · have h := ip c7 h
          exact aw_iconst eX6_goesOn_69 k_iconst_1 (aw_goto eX6_goesOn_70 (aw_zret eX6_goesOn_74 rfl (by decide +kernel) (pI_i h)))
    · have h := iq c2 h
      obtain ⟨hc8, h⟩ := ck h
      obtain ⟨x5_9, ex5_9, h⟩ := lt_e h
      refine aw_iload_n eX6_goesOn_13 rfl (aw_iload eX6_goesOn_14 rfl (aw_idiv eX6_goesOn_16 hc8 (aw_bipush eX6_goesOn_17 k_bipush_10 (aw_irem eX6_goesOn_19 (by decide) (aw_iconst eX6_goesOn_20 k_iconst_1 (aw_isub eX6_goesOn_21 (aw_istoreY ex5_9 eX6_goesOn_22 (by decide) rfl (ls' := [some (aR 6 0), some (aI x1), some (aI x2), some (aI x3), some (aI x4), some (aI x5_9)]) rfl (aw_iload eX6_goesOn_24 rfl (aw_if_lt eX6_goesOn_26 (fun c10 => ?_) (fun c10 => ?_))))))))))
      · have h := ip c10 h
        obtain ⟨x4_11, ex4_11, h⟩ := lt_e h
        refine aw_iload eX6_goesOn_37 rfl (aw_bipush eX6_goesOn_39 k_bipush_10 (aw_idiv eX6_goesOn_41 (by decide) (aw_istoreY ex4_11 eX6_goesOn_42 (by decide) rfl (ls' := [some (aR 6 0), some (aI x1), some (aI x2), some (aI x3), some (aI x4_11), some (aI x5_9)]) rfl (aw_goto eX6_goesOn_44 ?_))))
        exact aw_sub (ls' := [some (aR 6 0), some (aI x1), some (aI x2), some (aI x3), some (aI x4_11), none]) ⟨rfl, ⟨rfl, ⟨rfl, ⟨rfl, ⟨rfl, trivial⟩⟩⟩⟩⟩ (ih h)
      · have h := iq c10 h
        obtain ⟨q12, hq12, h⟩ := bd h
        obtain ⟨x4_13, ex4_13, h⟩ := lt_e h
        refine aw_aload_n eX6_goesOn_29 rfl (aw_iconst eX6_goesOn_30 k_iconst_1 (aw_iload eX6_goesOn_31 rfl (aw_callVI (N := mX6_wedOn) [aI 1, aI x5_9] eX6_goesOn_33 tw_2_186 miX6_wedOn (by decide) (by decide) (by decide) rfl rfl (Nat.le_of_ble_eq_true rfl) (A_X6_wedOn hq12) (aw_popI eX6_goesOn_36 (aw_iload eX6_goesOn_37 rfl (aw_bipush eX6_goesOn_39 k_bipush_10 (aw_idiv eX6_goesOn_41 (by decide) (aw_istoreY ex4_13 eX6_goesOn_42 (by decide) rfl (ls' := [some (aR 6 0), some (aI x1), some (aI x2), some (aI x3), some (aI x4_13), some (aI x5_9)]) rfl (aw_goto eX6_goesOn_44 ?_)))))))))
        exact aw_sub (ls' := [some (aR 6 0), some (aI x1), some (aI x2), some (aI x3), some (aI x4_13), none]) ⟨rfl, ⟨rfl, ⟨rfl, ⟨rfl, ⟨rfl, trivial⟩⟩⟩⟩⟩ (ih h)
def D_X6_goesOn (w : Wd) (x1 : Int32) (x2 : Int32) (x3 : Int32) : Option (Int32 × Wd) := (D_X6_layTrial w).bind fun q1 => D_X6_goesOn_8 fuelZ x1 x2 x3 100000 q1
set_option maxHeartbeats 4000000 in
set_option maxRecDepth 100000 in
theorem A_X6_goesOn {X : XS} {w : Wd} {x1 : Int32} {x2 : Int32} {x3 : Int32} {r : Int32 × Wd} (h : D_X6_goesOn w x1 x2 x3 = some r) : AW 4 X mX6_goesOn 0 (entA 6 [aR 6 0, aI x1, aI x2, aI x3]) [] w (PI r.1 r.2) := by
  show AW _ _ _ _ [some (aR 6 0), some (aI x1), some (aI x2), some (aI x3), none, none] _ _ _
  unfold D_X6_goesOn at h
  obtain ⟨q1, hq1, h⟩ := bd h
  refine aw_aload_n eX6_goesOn_0 rfl (aw_callVV (N := mX6_layTrial) [] eX6_goesOn_1 tw_2_238 miX6_layTrial (by decide) (by decide) (by decide) rfl rfl (Nat.le_of_ble_eq_true rfl) (A_X6_layTrial hq1) (aw_ldc eX6_goesOn_4 tw_3_2 (aw_istoreY rfl eX6_goesOn_6 (by decide) rfl (ls' := [some (aR 6 0), some (aI x1), some (aI x2), some (aI x3), some (aI 100000), none]) rfl ?_)))
  exact A_X6_goesOn_8 fuelZ h
def D_X6_firstRow_15 (k7 : Int32 → Int32 → Int32 → Int32 → Wd → Option (Int32 × Wd)) : Nat → Int32 → Int32 → Int32 → Int32 → Int32 → Wd → Option (Int32 × Wd)
  | 0, _, _, _, _, _, _ => none
  | n + 1, x1, x2, x3, x4, x5, w => (D_X6_goesOn w x2 x5 (x4 - (1 : Int32))).bind fun q3 => if q3.1 = 0 then (lt (x5 + 1) fun x5_8 => D_X6_firstRow_15 k7 n x1 x2 x3 x4 x5_8 q3.2) else (lt ((((10 : Int32) * x2) + x5) + (1 : Int32)) fun x2_5 => lt (x3 + 1) fun x3_6 => lt (x4 + (-1)) fun x4_7 => k7 x1 x2_5 x3_6 x4_7 q3.2)
set_option maxHeartbeats 4000000 in
set_option maxRecDepth 100000 in
theorem A_X6_firstRow_15 {X : XS} {k7 : Int32 → Int32 → Int32 → Int32 → Wd → Option (Int32 × Wd)} (hk7 : ∀ {x1 : Int32} {x2 : Int32} {x3 : Int32} {x4 : Int32} {w : Wd} {r : Int32 × Wd}, k7 x1 x2 x3 x4 w = some r → AW 5 X mX6_firstRow 7 [some (aR 6 0), some (aI x1), some (aI x2), some (aI x3), some (aI x4), none] [] w (PI r.1 r.2)) : ∀ (nn : Nat) {x1 : Int32} {x2 : Int32} {x3 : Int32} {x4 : Int32} {x5 : Int32} {w : Wd} {r : Int32 × Wd}, D_X6_firstRow_15 k7 nn x1 x2 x3 x4 x5 w = some r → AW 5 X mX6_firstRow 15 [some (aR 6 0), some (aI x1), some (aI x2), some (aI x3), some (aI x4), some (aI x5)] [] w (PI r.1 r.2) := by
  intro nn
  induction nn with
  | zero => intros; rename_i h; cases h
  | succ n ih =>
    intro x1 x2 x3 x4 x5 w r h
    rw [D_X6_firstRow_15] at h
    obtain ⟨q3, hq3, h⟩ := bd h
    refine aw_aload_n eX6_firstRow_15 rfl (aw_iload_n eX6_firstRow_16 rfl (aw_iload eX6_firstRow_17 rfl (aw_iload eX6_firstRow_19 rfl (aw_iconst eX6_firstRow_21 k_iconst_1 (aw_isub eX6_firstRow_22 (aw_callVI (N := mX6_goesOn) [aI x2, aI x5, aI (x4 - (1 : Int32))] eX6_firstRow_23 tw_2_234 miX6_goesOn (by decide) (by decide) (by decide) rfl rfl (Nat.le_of_ble_eq_true rfl) (A_X6_goesOn hq3) (aw_if_ne eX6_firstRow_26 (fun c4 => ?_) (fun c4 => ?_))))))))
    · have h := iq c4 h
      obtain ⟨x2_5, ex2_5, h⟩ := lt_e h
      obtain ⟨x3_6, ex3_6, h⟩ := lt_e h
      obtain ⟨x4_7, ex4_7, h⟩ := lt_e h
      refine aw_bipush eX6_firstRow_35 k_bipush_10 (aw_iload_n eX6_firstRow_37 rfl (aw_imul eX6_firstRow_38 (aw_iload eX6_firstRow_39 rfl (aw_iadd eX6_firstRow_41 (aw_iconst eX6_firstRow_42 k_iconst_1 (aw_iadd eX6_firstRow_43 (aw_istore_nY ex2_5 eX6_firstRow_44 (by decide) rfl (ls' := [some (aR 6 0), some (aI x1), some (aI x2_5), some (aI x3), some (aI x4), some (aI x5)]) rfl (aw_iincY (iinc_k k_iconst_1 ex3_6) eX6_firstRow_45 rfl (by decide) rfl (ls' := [some (aR 6 0), some (aI x1), some (aI x2_5), some (aI x3_6), some (aI x4), some (aI x5)]) rfl (aw_iincY (iinc_k k_iconst_m1 ex4_7) eX6_firstRow_48 rfl (by decide) rfl (ls' := [some (aR 6 0), some (aI x1), some (aI x2_5), some (aI x3_6), some (aI x4_7), some (aI x5)]) rfl (aw_goto eX6_firstRow_51 ?_))))))))))
      exact aw_sub (ls' := [some (aR 6 0), some (aI x1), some (aI x2_5), some (aI x3_6), some (aI x4_7), none]) ⟨rfl, ⟨rfl, ⟨rfl, ⟨rfl, ⟨rfl, trivial⟩⟩⟩⟩⟩ (hk7 h)
    · have h := ip c4 h
      obtain ⟨x5_8, ex5_8, h⟩ := lt_e h
      refine aw_iincY (iinc_k k_iconst_1 ex5_8) eX6_firstRow_29 rfl (by decide) rfl (ls' := [some (aR 6 0), some (aI x1), some (aI x2), some (aI x3), some (aI x4), some (aI x5_8)]) rfl (aw_goto eX6_firstRow_32 ?_)
      exact ih h
def D_X6_firstRow_7 : Nat → Int32 → Int32 → Int32 → Int32 → Wd → Option (Int32 × Wd)
  | 0, _, _, _, _, _ => none
  | n + 1, x1, x2, x3, x4, w => if x4 ≤ 0 then (if x3 = x1 then (some (x2, w)) else (some ((-9), w))) else (D_X6_firstRow_15 (fun y0 y1 y2 y3 wy => D_X6_firstRow_7 n y0 y1 y2 y3 wy) fuelZ x1 x2 x3 x4 0 w)
set_option maxHeartbeats 4000000 in
set_option maxRecDepth 100000 in
theorem A_X6_firstRow_7 {X : XS} : ∀ (nn : Nat) {x1 : Int32} {x2 : Int32} {x3 : Int32} {x4 : Int32} {w : Wd} {r : Int32 × Wd}, D_X6_firstRow_7 nn x1 x2 x3 x4 w = some r → AW 5 X mX6_firstRow 7 [some (aR 6 0), some (aI x1), some (aI x2), some (aI x3), some (aI x4), none] [] w (PI r.1 r.2) := by
  intro nn
  induction nn with
  | zero => intros; rename_i h; cases h
  | succ n ih =>
    intro x1 x2 x3 x4 w r h
    rw [D_X6_firstRow_7] at h
    refine aw_iload eX6_firstRow_7 rfl (aw_if_le eX6_firstRow_9 (fun c1 => ?_) (fun c1 => ?_))
    · have h := ip c1 h
      refine aw_iload_n eX6_firstRow_54 rfl (aw_iload_n eX6_firstRow_55 rfl (aw_icmp_ne eX6_firstRow_56 (fun c2 => ?_) (fun c2 => ?_)))
      · have h := iq c2 h
        exact aw_bipush eX6_firstRow_63 k_bipush_m9 (aw_iret eX6_firstRow_65 rfl (pI_i h))
      · have h := ip c2 h
        exact aw_iload_n eX6_firstRow_59 rfl (aw_goto eX6_firstRow_60 (aw_iret eX6_firstRow_65 rfl (pI_i h)))
    · have h := iq c1 h
      refine aw_iconst eX6_firstRow_12 k_iconst_0 (aw_istoreY rfl eX6_firstRow_13 (by decide) rfl (ls' := [some (aR 6 0), some (aI x1), some (aI x2), some (aI x3), some (aI x4), some (aI 0)]) rfl ?_)
      exact A_X6_firstRow_15 (fun h => ih h) fuelZ h
def D_X6_firstRow (w : Wd) (x1 : Int32) : Option (Int32 × Wd) := D_X6_firstRow_7 fuelZ x1 0 0 x1 w
set_option maxHeartbeats 4000000 in
set_option maxRecDepth 100000 in
theorem A_X6_firstRow {X : XS} {w : Wd} {x1 : Int32} {r : Int32 × Wd} (h : D_X6_firstRow w x1 = some r) : AW 5 X mX6_firstRow 0 (entA 6 [aR 6 0, aI x1]) [] w (PI r.1 r.2) := by
  show AW _ _ _ _ [some (aR 6 0), some (aI x1), none, none, none, none] _ _ _
  unfold D_X6_firstRow at h
  refine aw_iconst eX6_firstRow_0 k_iconst_0 (aw_istore_nY rfl eX6_firstRow_1 (by decide) rfl (ls' := [some (aR 6 0), some (aI x1), some (aI 0), none, none, none]) rfl (aw_iconst eX6_firstRow_2 k_iconst_0 (aw_istore_nY rfl eX6_firstRow_3 (by decide) rfl (ls' := [some (aR 6 0), some (aI x1), some (aI 0), some (aI 0), none, none]) rfl (aw_iload_n eX6_firstRow_4 rfl (aw_istoreY rfl eX6_firstRow_5 (by decide) rfl (ls' := [some (aR 6 0), some (aI x1), some (aI 0), some (aI 0), some (aI x1), none]) rfl ?_)))))
  exact A_X6_firstRow_7 fuelZ h
def D_X6_most (w : Wd) (x1 : Int32) : Option (Int32 × Wd) := (D_X6_in (Int32.toInt64 x1) 0 2).bind fun q1 => if q1 = 0 then (some ((-2), w)) else ((D_X6_every w).bind fun q3 => (D_X6_mostOn w 0 q3).bind fun q4 => lt (q4.1) fun x2_5 => if x1 = 0 then (some (x2_5, q4.2)) else (if x1 = 1 then ((D_X6_firstRow q4.2 x2_5).bind fun q9 => some (q9.1, q9.2)) else ((D_X6_endOf q4.2 x2_5).bind fun q8 => some (q8, q4.2))))
set_option maxHeartbeats 4000000 in
set_option maxRecDepth 100000 in
theorem A_X6_most {X : XS} {w : Wd} {x1 : Int32} {r : Int32 × Wd} (h : D_X6_most w x1 = some r) : AW 6 X mX6_most 0 (entA 3 [aR 6 0, aI x1]) [] w (PI r.1 r.2) := by
  show AW _ _ _ _ [some (aR 6 0), some (aI x1), none] _ _ _
  unfold D_X6_most at h
  obtain ⟨q1, hq1, h⟩ := bd h
  refine aw_iload_n eX6_most_0 rfl (aw_i2l eX6_most_1 (aw_lconst eX6_most_2 k_lconst_0 (aw_ldc2 eX6_most_3 tw_2_214 (aw_callSI (N := mX6_in) [aL (Int32.toInt64 x1), aL 0, aL 2] eX6_most_6 tw_2_116 msX6_in (by decide) rfl rfl (Nat.le_of_ble_eq_true rfl) (A_X6_in hq1) (aw_if_ne eX6_most_9 (fun c2 => ?_) (fun c2 => ?_))))))
  · have h := iq c2 h
    obtain ⟨q3, hq3, h⟩ := bd h
    obtain ⟨q4, hq4, h⟩ := bd h
    obtain ⟨x2_5, ex2_5, h⟩ := lt_e h
    refine aw_aload_n eX6_most_15 rfl (aw_iconst eX6_most_16 k_iconst_0 (aw_aload_n eX6_most_17 rfl (aw_callVI (N := mX6_every) [] eX6_most_18 tw_2_215 miX6_every (by decide) (by decide) (by decide) rfl rfl (Nat.le_of_ble_eq_true rfl) (A_X6_every hq3) (aw_callVI (N := mX6_mostOn) [aI 0, aI q3] eX6_most_21 tw_2_219 miX6_mostOn (by decide) (by decide) (by decide) rfl rfl (Nat.le_of_ble_eq_true rfl) (A_X6_mostOn hq4) (aw_istore_nY ex2_5 eX6_most_24 (by decide) rfl (ls' := [some (aR 6 0), some (aI x1), some (aI x2_5)]) rfl (aw_iload_n eX6_most_25 rfl (aw_if_ne eX6_most_26 (fun c6 => ?_) (fun c6 => ?_))))))))
    · have h := iq c6 h
      refine aw_iload_n eX6_most_33 rfl (aw_iconst eX6_most_34 k_iconst_1 (aw_icmp_ne eX6_most_35 (fun c7 => ?_) (fun c7 => ?_)))
      · have h := iq c7 h
        obtain ⟨q8, hq8, h⟩ := bd h
        exact aw_aload_n eX6_most_46 rfl (aw_iload_n eX6_most_47 rfl (aw_callVI (N := mX6_endOf) [aI x2_5] eX6_most_48 tw_3_3 miX6_endOf (by decide) (by decide) (by decide) rfl rfl (Nat.le_of_ble_eq_true rfl) (A_X6_endOf hq8) (aw_iret eX6_most_51 rfl (pI_i h))))
      · have h := ip c7 h
        obtain ⟨q9, hq9, h⟩ := bd h
        exact aw_aload_n eX6_most_38 rfl (aw_iload_n eX6_most_39 rfl (aw_callVI (N := mX6_firstRow) [aI x2_5] eX6_most_40 tw_2_230 miX6_firstRow (by decide) (by decide) (by decide) rfl rfl (Nat.le_of_ble_eq_true rfl) (A_X6_firstRow hq9) (aw_goto eX6_most_43 (aw_iret eX6_most_51 rfl (pI_i h)))))
    · have h := ip c6 h
      exact aw_iload_n eX6_most_29 rfl (aw_goto eX6_most_30 (aw_iret eX6_most_51 rfl (pI_i h)))
  · have h := ip c2 h
    exact aw_bipush eX6_most_12 k_bipush_m2 (aw_iret eX6_most_14 rfl (pI_i h))
def D_X6_slack_12 : Nat → Int32 → Int32 → Wd → Option (Int32 × Wd)
  | 0, _, _, _ => none
  | n + 1, x1, x2, w => if 10 ≤ x2 then (some (9, w)) else ((D_X6_layTrial w).bind fun q5 => lt (wS q5 25 0 8 ((q5.1 25 0 8) + x2)) fun w6 => (D_X6_every w6).bind fun q7 => (D_X6_mostOn w6 1 q7).bind fun q8 => if x1 ≤ q8.1 then (lt (x2 + 1) fun x2_10 => D_X6_slack_12 n x1 x2_10 q8.2) else (some (x2 - (1 : Int32), q8.2)))
set_option maxHeartbeats 4000000 in
set_option maxRecDepth 100000 in
theorem A_X6_slack_12 {X : XS} : ∀ (nn : Nat) {x1 : Int32} {x2 : Int32} {w : Wd} {r : Int32 × Wd}, D_X6_slack_12 nn x1 x2 w = some r → AW 4 X mX6_slack 12 [some (aR 6 0), some (aI x1), some (aI x2)] [] w (PI r.1 r.2) := by
  intro nn
  induction nn with
  | zero => intros; rename_i h; cases h
  | succ n ih =>
    intro x1 x2 w r h
    rw [D_X6_slack_12] at h
    refine aw_iload_n eX6_slack_12 rfl (aw_bipush eX6_slack_13 k_bipush_10 (aw_icmp_ge eX6_slack_15 (fun c4 => ?_) (fun c4 => ?_)))
    · have h := ip c4 h
      exact aw_bipush eX6_slack_56 k_bipush_9 (aw_iret eX6_slack_58 rfl (pI_i h))
    · have h := iq c4 h
      obtain ⟨q5, hq5, h⟩ := bd h
      obtain ⟨w6, ew6, h⟩ := lt_e h
      obtain ⟨q7, hq7, h⟩ := bd h
      obtain ⟨q8, hq8, h⟩ := bd h
      refine aw_aload_n eX6_slack_18 rfl (aw_callVV (N := mX6_layTrial) [] eX6_slack_19 tw_2_238 miX6_layTrial (by decide) (by decide) (by decide) rfl rfl (Nat.le_of_ble_eq_true rfl) (A_X6_layTrial hq5) (aw_aload_n eX6_slack_22 rfl (aw_getf (k := 6) (f := 7) eX6_slack_23 tw_2_54 ⟨by decide, by decide⟩ (by decide) (v := aR 25 0) rfl (aw_bipush eX6_slack_26 k_bipush_8 (aw_dup2 eX6_slack_28 (aw_ialdK (n := 16) eX6_slack_29 rfl (by decide) (by decide) (j := 8) (by decide) (aw_iload_n eX6_slack_30 rfl (aw_iadd eX6_slack_31 (aw_iastK (n := 16) eX6_slack_32 rfl (by decide) (by decide) (j := 8) (by decide) (aw_wn ew6 (aw_aload_n eX6_slack_33 rfl (aw_iconst eX6_slack_34 k_iconst_1 (aw_aload_n eX6_slack_35 rfl (aw_callVI (N := mX6_every) [] eX6_slack_36 tw_2_215 miX6_every (by decide) (by decide) (by decide) rfl rfl (Nat.le_of_ble_eq_true rfl) (A_X6_every hq7) (aw_callVI (N := mX6_mostOn) [aI 1, aI q7] eX6_slack_39 tw_2_219 miX6_mostOn (by decide) (by decide) (by decide) rfl rfl (Nat.le_of_ble_eq_true rfl) (A_X6_mostOn hq8) (aw_iload_n eX6_slack_42 rfl (aw_icmp_ge eX6_slack_43 (fun c9 => ?_) (fun c9 => ?_))))))))))))))))))
      · have h := ip c9 h
        obtain ⟨x2_10, ex2_10, h⟩ := lt_e h
        refine aw_iincY (iinc_k k_iconst_1 ex2_10) eX6_slack_50 rfl (by decide) rfl (ls' := [some (aR 6 0), some (aI x1), some (aI x2_10)]) rfl (aw_goto eX6_slack_53 ?_)
        exact ih h
      · have h := iq c9 h
        exact aw_iload_n eX6_slack_46 rfl (aw_iconst eX6_slack_47 k_iconst_1 (aw_isub eX6_slack_48 (aw_iret eX6_slack_49 rfl (pI_i h))))
def D_X6_slack (w : Wd) : Option (Int32 × Wd) := (D_X6_every w).bind fun q1 => (D_X6_mostOn w 0 q1).bind fun q2 => lt (q2.1) fun x1_3 => D_X6_slack_12 fuelZ x1_3 1 q2.2
set_option maxHeartbeats 4000000 in
set_option maxRecDepth 100000 in
theorem A_X6_slack {X : XS} {w : Wd} {r : Int32 × Wd} (h : D_X6_slack w = some r) : AW 4 X mX6_slack 0 (entA 3 [aR 6 0]) [] w (PI r.1 r.2) := by
  show AW _ _ _ _ [some (aR 6 0), none, none] _ _ _
  unfold D_X6_slack at h
  obtain ⟨q1, hq1, h⟩ := bd h
  obtain ⟨q2, hq2, h⟩ := bd h
  obtain ⟨x1_3, ex1_3, h⟩ := lt_e h
  refine aw_aload_n eX6_slack_0 rfl (aw_iconst eX6_slack_1 k_iconst_0 (aw_aload_n eX6_slack_2 rfl (aw_callVI (N := mX6_every) [] eX6_slack_3 tw_2_215 miX6_every (by decide) (by decide) (by decide) rfl rfl (Nat.le_of_ble_eq_true rfl) (A_X6_every hq1) (aw_callVI (N := mX6_mostOn) [aI 0, aI q1] eX6_slack_6 tw_2_219 miX6_mostOn (by decide) (by decide) (by decide) rfl rfl (Nat.le_of_ble_eq_true rfl) (A_X6_mostOn hq2) (aw_istore_nY ex1_3 eX6_slack_9 (by decide) rfl (ls' := [some (aR 6 0), some (aI x1_3), none]) rfl (aw_iconst eX6_slack_10 k_iconst_1 (aw_istore_nY rfl eX6_slack_11 (by decide) rfl (ls' := [some (aR 6 0), some (aI x1_3), some (aI 1)]) rfl ?_)))))))
  exact A_X6_slack_12 fuelZ h
