/-! ===== the law's cases ===== -/
abbrev LC (F b i : Nat) : List (Nat × Value) := [(3, .int (nI i)), (2, .ref (F + 647)), (1, .ref (F + 0)), (0, .ref b)]
theorem RR_l {w C M : fOm} {T : Nat} (e : w = C) (h : RR C M T) : RR w M T := by rw [e]; exact h
theorem RR_2 {w C : fOm} {T : Nat} (e : w = C) (h : RR C C T) : RR w w T := by rw [e]; exact h
theorem RR.w {C M : fOm} {T : Nat} (h : RR C M T) : MW (M 648) := h.1.2.1
section FLW
variable {X : xT} {Q : State → Prop} {G : fG} {F n : Nat} {ω Ω : fOm} {cf : Nat → va_E} {cells slots pc : Nat} {st : List Value} {own : String} {index : Nat} {sc : Nat → Int32} {b L i T : Nat}
theorem lw_sld {nL : Nat} {cc : ByteArray} {r2 : Option FieldType} {loc : List (Nat × Value)} (h : Cx X G F nL cc own r2) (hS : va_X b L sc (xs X) (xs X).heap) (hb : b < F) {x : Nat} (hk : x < L) (hL : L ≤ 3072) (d : decode cc pc = .ok (.iaload, 1)) (kk : Vg X Q G F nL n cf cells slots (pc + 1) loc (.int (sc x) :: st)) : Vg X Q G F nL n cf cells slots pc loc (.int (nI x) :: .ref b :: st) := fun H locs ls a1 a2 a3 a4 => by
  have key := kk H locs ls a1 a2 a3 a4
  refine va_sld h.1 h.2.1 hS (Nat.lt_of_lt_of_le hb h.2.2.2.2.2.2.2.2.1) (fun q => absurd q (Nat.not_le.mpr hb)) a3 (vp_n hk (by omega)) d ?_
  rw [nI_clamp (by omega)]
  exact key
theorem lw_sln {nL : Nat} {cc : ByteArray} {r2 : Option FieldType} {loc : List (Nat × Value)} (h : Cx X G F nL cc own r2) (hS : va_X b L sc (xs X) (xs X).heap) (hb : b < F) (d : decode cc pc = .ok (.arraylength, 1)) (kk : Vg X Q G F nL n cf cells slots (pc + 1) loc (.int (nI L) :: st)) : Vg X Q G F nL n cf cells slots pc loc (.ref b :: st) := fun H locs ls a1 a2 a3 a4 =>
  va_slen h.1 h.2.1 hS (Nat.lt_of_lt_of_le hb h.2.2.2.2.2.2.2.2.1) (fun q => absurd q (Nat.not_le.mpr hb)) a3 d (kk H locs ls a1 a2 a3 a4)
theorem lw_arg (h : Cx X G F 4 code own ret) (hS : va_X b L sc (xs X) (xs X).heap) (hb : b < F) (k : Nat) (hk : i + k < L) (hL : L ≤ 3072) {z : Int} (hz : Int32.ofInt z = nI k) (d0 : decode code pc = .ok (.aload_n 0, 1)) (d1 : decode code (pc + 1) = .ok (.iload_n 3, 1)) (d2 : decode code (pc + 1 + 1) = .ok (.iconst z, 1)) (d3 : decode code (pc + 1 + 1 + 1) = .ok (.iadd, 1)) (d4 : decode code (pc + 1 + 1 + 1 + 1) = .ok (.iaload, 1))
    (kk : Vg X Q G F 4 n cf cells slots (pc + 1 + 1 + 1 + 1 + 1) (LC F b i) (.int (sc (i + k)) :: st)) : Vg X Q G F 4 n cf cells slots pc (LC F b i) st := by
  refine g_aload_n h 3 d0 rfl ?_
  refine g_iload_n h 0 d1 rfl ?_
  refine g_iconst (v := nI k) h d2 hz ?_
  refine g_iadd h d3 ?_
  rw [nI_add]
  exact lw_sld h hS hb hk hL d4 kk
theorem lw_call {loc : List (Nat × Value)} {k ci : Nat} {y : MethodName} {bytes : ByteArray} {mL np d : Nat} {r2 : Option FieldType} {C : String} {As st0 : List Value} {e : Int32} (h : Cx X G F 4 code own ret) (hX : xR X = room_1) (hM : CT (xl X) G F y bytes mL r2 d (.ref (F + k) :: As) ω (some (.int e)) Ω) (hst : st0 = As.reverse ++ .ref (F + k) :: st) (hob : k < NC ∧ ∃ fs, cel F G ω k = .inr (ci, fs)) (hci : (fCl[ci]?).map (fun q => q.1) = some C) (mi : MI y bytes mL r2 C np) (hl : Cond.methodLink own index y ∈ Tg) (hd : d ≤ 8) (hL : mL ≤ 11) (hn : As.length = np) (hW : (st.map fun v => v.category).sum ≤ 8) (hcz : cells ≤ 600000) (hsz : slots ≤ 7302250) (dc : decode code pc = .ok (.invokevirtual index, 3)) (kk : ∀ v ω2, v = e → ω2 = Ω → Inv ω2 → Vg X Q G F 4 NC (cel F G ω2) cells slots (pc + 3) loc (.int v :: st)) : Vg X Q G F 4 NC (cel F G ω) cells slots pc loc (st0) := by
  obtain ⟨hk, fs, he⟩ := hob
  exact g_callV h hM hst hk he hci mi.1 hl mi.2.1 mi.2.2.1 mi.2.2.2.1 rfl rfl mi.2.2.2.2 hn ⟨by rw [hX]; show d + 1 ≤ 11; omega, by rw [hX]; show 8 + (mL + 11) + 30 * d ≤ 400; omega⟩ hW ⟨by rw [hX]; exact hcz, by rw [hX]; exact hsz⟩ dc (fun r n2 cf2 hp => by obtain ⟨rfl, rfl, rfl, hi⟩ := hp; exact kk _ _ rfl rfl hi)
theorem lw_long {loc : List (Nat × Value)} {x : Int64} (kk : ∀ cc : Int64, x = cc → Vg X Q G F 4 n cf cells slots pc loc (.long cc :: st)) : Vg X Q G F 4 n cf cells slots pc loc (.long x :: st) := kk x rfl
theorem lw_back {loc : List (Nat × Value)} {x cc : Int64} (e : x = cc) (kk : Vg X Q G F 4 n cf cells slots pc loc (.long cc :: st)) : Vg X Q G F 4 n cf cells slots pc loc (.long x :: st) := by rw [e]; exact kk
theorem lw_two {ω w1 W2 : fOm} {r2 r1 : Int32} {T T2 : Nat} (h : RR ω ω T) (hf : Mod lo ω w1) (hm : Mod hi w1 W2) (hR : RR ω w1 T → r2 = r1 ∧ RR w1 W2 T2) : RR ω w1 T ∧ r2 = r1 ∧ RR W2 W2 T2 := two (m2 := (r2, W2)) h hf hm hR
theorem RR.pE {C M : fOm} (h : RR C M T) : C 527 1 = M 647 8 := by
  obtain ⟨-, -, -, m, -, h1, h2, -⟩ := h
  rw [h1, h2]
theorem RR.nE {C M : fOm} (h : RR C M T) : C 117 1 = M 647 3 := by
  obtain ⟨-, ⟨n, f, -, -, h1, h2, -⟩, -⟩ := h
  rw [h1, h2]
theorem lw_c0 (h : Cx X G F 4 code "FibreLoopsLaw" ret) (hX : xR X = room_1) (hS : va_X b L sc (xs X) (xs X).heap) (hb : b < F) (hi : i + 6 ≤ L) (hL : L ≤ 3072) (hI : Inv ω) (hR : RR ω ω T) (hT : T < 5000000) (hc : cells ≤ 600000) (hs : slots ≤ 7302250) (kk : ∀ ω2, Inv ω2 → RR ω2 ω2 (T + 5600) → Vg X Q G F 4 NC (cel F G ω2) cells slots 987 (LC F b i) []) : Vg X Q G F 4 NC (cel F G ω) cells slots 156 (LC F b i) [] := by
  refine g_aload_n h 2 dL_law_156 rfl ?_
  refine lw_arg h hS hb 1 (by omega) hL (by decide) dL_law_157 dL_law_158 dL_law_159 dL_law_160 dL_law_161 ?_
  refine lw_arg h hS hb 2 (by omega) hL (by decide) dL_law_162 dL_law_163 dL_law_164 dL_law_165 dL_law_166 ?_
  refine lw_call (k := 0) (ci := 7) (C := RX7) (As := [.int (sc (i + 1)), .int (sc (i + 2))]) (st := []) h hX (tX7_set (xl X) G F ω hI (sc (i + 1)) (sc (i + 2))) rfl ⟨by decide, ob_12 rfl⟩ rfl miX7_set tw_253 (by decide) (by decide) rfl (Nat.le_of_ble_eq_true rfl) hc hs dL_law_167 (fun v1 w1 hv1 hw1 iw1 => ?_)
  obtain ⟨hw, hE, hR2⟩ := two (m2 := m_set w1 (sc (i + 1)) (sc (i + 2))) (r1 := v1) (T2 := T + 5600) hR (by rw [hw1]; exact chg_M hI (chSetW_M.mo (fun q hq => by have hq : q = 1 + 1 := hq; show 1 ≤ q ∧ q < 1 + 58; omega))) hi_set (fun q => ⟨(set_R q).1.trans hv1.symm, RR_l hw1 (set_R q).2⟩)
  refine g_aload_n h 1 dL_law_170 rfl ?_
  refine lw_arg h hS hb 1 (by omega) hL (by decide) dL_law_171 dL_law_172 dL_law_173 dL_law_174 dL_law_175 ?_
  refine lw_arg h hS hb 2 (by omega) hL (by decide) dL_law_176 dL_law_177 dL_law_178 dL_law_179 dL_law_180 ?_
  refine lw_call (k := 647) (ci := 8) (C := RX8) (As := [.int (sc (i + 1)), .int (sc (i + 2))]) (st := [.int v1]) h hX (tX8_set (xl X) G F w1 iw1 (sc (i + 1)) (sc (i + 2)) (hK := hw.mk)) rfl ⟨by decide, ob_21 rfl⟩ rfl miX8_set tw_757 (by decide) (by decide) rfl (Nat.le_of_ble_eq_true rfl) hc hs dL_law_181 (fun v2 w2 hv2 hw2 iw2 => ?_)
  exact g_icmp_eq (tgt := 987) h dL_law_184 (by decide) (fun _ => kk w2 iw2 (RR_2 hw2 (hR2.le (by omega)))) (fun c => absurd (hv2.trans hE).symm c)
theorem lw_c1 (h : Cx X G F 4 code "FibreLoopsLaw" ret) (hX : xR X = room_1) (hS : va_X b L sc (xs X) (xs X).heap) (hb : b < F) (hi : i + 6 ≤ L) (hL : L ≤ 3072) (hI : Inv ω) (hR : RR ω ω T) (hT : T < 5000000) (hc : cells ≤ 600000) (hs : slots ≤ 7302250) (kk : ∀ ω2, Inv ω2 → RR ω2 ω2 (T + 5600) → Vg X Q G F 4 NC (cel F G ω2) cells slots 987 (LC F b i) []) : Vg X Q G F 4 NC (cel F G ω) cells slots 189 (LC F b i) [] := by
  refine g_aload_n h 2 dL_law_189 rfl ?_
  refine lw_arg h hS hb 1 (by omega) hL (by decide) dL_law_190 dL_law_191 dL_law_192 dL_law_193 dL_law_194 ?_
  refine lw_call (k := 0) (ci := 7) (C := RX7) (As := [.int (sc (i + 1))]) (st := []) h hX (tX7_loop (xl X) G F ω hI (sc (i + 1))) rfl ⟨by decide, ob_12 rfl⟩ rfl miX7_loop tw_298 (by decide) (by decide) rfl (Nat.le_of_ble_eq_true rfl) hc hs dL_law_195 (fun v1 w1 hv1 hw1 iw1 => ?_)
  obtain ⟨hw, hE, hR2⟩ := two (m2 := m_loop w1 (sc (i + 1))) (r1 := v1) (T2 := T + 5600) hR (by rw [hw1]; exact chg_M hI (addRingW_M (holdcB hR))) hi_loop (fun q => ⟨(loop_R q).1.trans hv1.symm, RR_l hw1 (loop_R q).2⟩)
  refine g_aload_n h 1 dL_law_198 rfl ?_
  refine lw_arg h hS hb 1 (by omega) hL (by decide) dL_law_199 dL_law_200 dL_law_201 dL_law_202 dL_law_203 ?_
  refine lw_call (k := 647) (ci := 8) (C := RX8) (As := [.int (sc (i + 1))]) (st := [.int v1]) h hX (tX8_loop (xl X) G F w1 iw1 (sc (i + 1)) (hW := hw.w) (hK := hw.mk)) rfl ⟨by decide, ob_21 rfl⟩ rfl miX8_loop tw_771 (by decide) (by decide) rfl (Nat.le_of_ble_eq_true rfl) hc hs dL_law_204 (fun v2 w2 hv2 hw2 iw2 => ?_)
  exact g_icmp_eq (tgt := 987) h dL_law_207 (by decide) (fun _ => kk w2 iw2 (RR_2 hw2 (hR2.le (by omega)))) (fun c => absurd (hv2.trans hE).symm c)
theorem lw_c2 (h : Cx X G F 4 code "FibreLoopsLaw" ret) (hX : xR X = room_1) (hS : va_X b L sc (xs X) (xs X).heap) (hb : b < F) (hi : i + 6 ≤ L) (hL : L ≤ 3072) (hI : Inv ω) (hR : RR ω ω T) (hT : T < 5000000) (hc : cells ≤ 600000) (hs : slots ≤ 7302250) (kk : ∀ ω2, Inv ω2 → RR ω2 ω2 (T + 5600) → Vg X Q G F 4 NC (cel F G ω2) cells slots 987 (LC F b i) []) : Vg X Q G F 4 NC (cel F G ω) cells slots 212 (LC F b i) [] := by
  refine g_aload_n h 2 dL_law_212 rfl ?_
  refine lw_arg h hS hb 1 (by omega) hL (by decide) dL_law_213 dL_law_214 dL_law_215 dL_law_216 dL_law_217 ?_
  refine lw_arg h hS hb 2 (by omega) hL (by decide) dL_law_218 dL_law_219 dL_law_220 dL_law_221 dL_law_222 ?_
  refine lw_arg h hS hb 3 (by omega) hL (by decide) dL_law_223 dL_law_224 dL_law_225 dL_law_226 dL_law_227 ?_
  refine lw_arg h hS hb 4 (by omega) hL (by decide) dL_law_228 dL_law_229 dL_law_230 dL_law_231 dL_law_232 ?_
  refine lw_arg h hS hb 5 (by omega) hL (by decide) dL_law_233 dL_law_234 dL_law_235 dL_law_236 dL_law_237 ?_
  refine lw_call (k := 0) (ci := 7) (C := RX7) (As := [.int (sc (i + 1)), .int (sc (i + 2)), .int (sc (i + 3)), .int (sc (i + 4)), .int (sc (i + 5))]) (st := []) h hX (tX7_device (xl X) G F ω hI (sc (i + 1)) (sc (i + 2)) (sc (i + 3)) (sc (i + 4)) (sc (i + 5))) rfl ⟨by decide, ob_12 rfl⟩ rfl miX7_device tw_310 (by decide) (by decide) rfl (Nat.le_of_ble_eq_true rfl) hc hs dL_law_238 (fun v1 w1 hv1 hw1 iw1 => ?_)
  obtain ⟨hw, hE, hR2⟩ := two (m2 := m_dev w1 (sc (i + 1)) (sc (i + 2)) (sc (i + 3)) (sc (i + 4)) (sc (i + 5))) (r1 := v1) (T2 := T + 5600) hR (by rw [hw1]; exact chg_M hI (addDevW_M (holdcB hR))) hi_dev (fun q => ⟨(dev_R q).1.trans hv1.symm, RR_l hw1 (dev_R q).2⟩)
  refine g_aload_n h 1 dL_law_241 rfl ?_
  refine lw_arg h hS hb 1 (by omega) hL (by decide) dL_law_242 dL_law_243 dL_law_244 dL_law_245 dL_law_246 ?_
  refine lw_arg h hS hb 2 (by omega) hL (by decide) dL_law_247 dL_law_248 dL_law_249 dL_law_250 dL_law_251 ?_
  refine lw_arg h hS hb 3 (by omega) hL (by decide) dL_law_252 dL_law_253 dL_law_254 dL_law_255 dL_law_256 ?_
  refine lw_arg h hS hb 4 (by omega) hL (by decide) dL_law_257 dL_law_258 dL_law_259 dL_law_260 dL_law_261 ?_
  refine lw_arg h hS hb 5 (by omega) hL (by decide) dL_law_262 dL_law_263 dL_law_264 dL_law_265 dL_law_266 ?_
  refine lw_call (k := 647) (ci := 8) (C := RX8) (As := [.int (sc (i + 1)), .int (sc (i + 2)), .int (sc (i + 3)), .int (sc (i + 4)), .int (sc (i + 5))]) (st := [.int v1]) h hX (tX8_device (xl X) G F w1 iw1 (sc (i + 1)) (sc (i + 2)) (sc (i + 3)) (sc (i + 4)) (sc (i + 5)) (hW := hw.w) (hK := hw.mk)) rfl ⟨by decide, ob_21 rfl⟩ rfl miX8_device tw_775 (by decide) (by decide) rfl (Nat.le_of_ble_eq_true rfl) hc hs dL_law_267 (fun v2 w2 hv2 hw2 iw2 => ?_)
  exact g_icmp_eq (tgt := 987) h dL_law_270 (by decide) (fun _ => kk w2 iw2 (RR_2 hw2 (hR2.le (by omega)))) (fun c => absurd (hv2.trans hE).symm c)
theorem lw_c3 (h : Cx X G F 4 code "FibreLoopsLaw" ret) (hX : xR X = room_1) (hS : va_X b L sc (xs X) (xs X).heap) (hb : b < F) (hi : i + 6 ≤ L) (hL : L ≤ 3072) (hI : Inv ω) (hR : RR ω ω T) (hT : T < 5000000) (hc : cells ≤ 600000) (hs : slots ≤ 7302250) (kk : ∀ ω2, Inv ω2 → RR ω2 ω2 (T + 5600) → Vg X Q G F 4 NC (cel F G ω2) cells slots 987 (LC F b i) []) : Vg X Q G F 4 NC (cel F G ω) cells slots 275 (LC F b i) [] := by
  refine g_aload_n h 2 dL_law_275 rfl ?_
  refine lw_arg h hS hb 1 (by omega) hL (by decide) dL_law_276 dL_law_277 dL_law_278 dL_law_279 dL_law_280 ?_
  refine lw_arg h hS hb 2 (by omega) hL (by decide) dL_law_281 dL_law_282 dL_law_283 dL_law_284 dL_law_285 ?_
  refine lw_arg h hS hb 3 (by omega) hL (by decide) dL_law_286 dL_law_287 dL_law_288 dL_law_289 dL_law_290 ?_
  refine lw_arg h hS hb 4 (by omega) hL (by decide) dL_law_291 dL_law_292 dL_law_293 dL_law_294 dL_law_295 ?_
  refine lw_call (k := 0) (ci := 7) (C := RX7) (As := [.int (sc (i + 1)), .int (sc (i + 2)), .int (sc (i + 3)), .int (sc (i + 4))]) (st := []) h hX (tX7_join (xl X) G F ω hI (sc (i + 1)) (sc (i + 2)) (sc (i + 3)) (sc (i + 4))) rfl ⟨by decide, ob_12 rfl⟩ rfl miX7_join tw_341 (by decide) (by decide) rfl (Nat.le_of_ble_eq_true rfl) hc hs dL_law_296 (fun v1 w1 hv1 hw1 iw1 => ?_)
  obtain ⟨hw, hE, hR2⟩ := two (m2 := m_join w1 (sc (i + 1)) (sc (i + 2)) (sc (i + 3)) (sc (i + 4))) (r1 := v1) (T2 := T + 5600) hR (by rw [hw1]; exact chg_M hI (addJoinW_M (holdcB hR))) hi_join (fun q => ⟨(join_R q).1.trans hv1.symm, RR_l hw1 (join_R q).2⟩)
  refine g_aload_n h 1 dL_law_299 rfl ?_
  refine lw_arg h hS hb 1 (by omega) hL (by decide) dL_law_300 dL_law_301 dL_law_302 dL_law_303 dL_law_304 ?_
  refine lw_arg h hS hb 2 (by omega) hL (by decide) dL_law_305 dL_law_306 dL_law_307 dL_law_308 dL_law_309 ?_
  refine lw_arg h hS hb 3 (by omega) hL (by decide) dL_law_310 dL_law_311 dL_law_312 dL_law_313 dL_law_314 ?_
  refine lw_arg h hS hb 4 (by omega) hL (by decide) dL_law_315 dL_law_316 dL_law_317 dL_law_318 dL_law_319 ?_
  refine lw_call (k := 647) (ci := 8) (C := RX8) (As := [.int (sc (i + 1)), .int (sc (i + 2)), .int (sc (i + 3)), .int (sc (i + 4))]) (st := [.int v1]) h hX (tX8_join (xl X) G F w1 iw1 (sc (i + 1)) (sc (i + 2)) (sc (i + 3)) (sc (i + 4)) (hW := hw.w) (hK := hw.mk)) rfl ⟨by decide, ob_21 rfl⟩ rfl miX8_join tw_805 (by decide) (by decide) rfl (Nat.le_of_ble_eq_true rfl) hc hs dL_law_320 (fun v2 w2 hv2 hw2 iw2 => ?_)
  exact g_icmp_eq (tgt := 987) h dL_law_323 (by decide) (fun _ => kk w2 iw2 (RR_2 hw2 (hR2.le (by omega)))) (fun c => absurd (hv2.trans hE).symm c)
theorem lw_c4 (h : Cx X G F 4 code "FibreLoopsLaw" ret) (hX : xR X = room_1) (hS : va_X b L sc (xs X) (xs X).heap) (hb : b < F) (hi : i + 6 ≤ L) (hL : L ≤ 3072) (hI : Inv ω) (hR : RR ω ω T) (hT : T < 5000000) (hc : cells ≤ 600000) (hs : slots ≤ 7302250) (kk : ∀ ω2, Inv ω2 → RR ω2 ω2 (T + 5600) → Vg X Q G F 4 NC (cel F G ω2) cells slots 987 (LC F b i) []) : Vg X Q G F 4 NC (cel F G ω) cells slots 328 (LC F b i) [] := by
  refine g_aload_n h 2 dL_law_328 rfl ?_
  refine lw_arg h hS hb 1 (by omega) hL (by decide) dL_law_329 dL_law_330 dL_law_331 dL_law_332 dL_law_333 ?_
  refine lw_arg h hS hb 2 (by omega) hL (by decide) dL_law_334 dL_law_335 dL_law_336 dL_law_337 dL_law_338 ?_
  refine lw_call (k := 0) (ci := 7) (C := RX7) (As := [.int (sc (i + 1)), .int (sc (i + 2))]) (st := []) h hX (tX7_turn (xl X) G F ω hI (sc (i + 1)) (sc (i + 2))) rfl ⟨by decide, ob_12 rfl⟩ rfl miX7_turn tw_353 (by decide) (by decide) rfl (Nat.le_of_ble_eq_true rfl) hc hs dL_law_339 (fun v1 w1 hv1 hw1 iw1 => ?_)
  obtain ⟨hw, hE, hR2⟩ := two (m2 := m_tT w1 (sc (i + 1)) (sc (i + 2)) 1) (r1 := v1) (T2 := T + 5600) hR (by rw [hw1]; exact chg_M hI (turnJW_M (holdcB hR))) hi_tT (fun q => ⟨(turn_R q).1.trans hv1.symm, RR_l hw1 (turn_R q).2⟩)
  refine g_aload_n h 1 dL_law_342 rfl ?_
  refine lw_arg h hS hb 1 (by omega) hL (by decide) dL_law_343 dL_law_344 dL_law_345 dL_law_346 dL_law_347 ?_
  refine lw_arg h hS hb 2 (by omega) hL (by decide) dL_law_348 dL_law_349 dL_law_350 dL_law_351 dL_law_352 ?_
  refine lw_call (k := 647) (ci := 8) (C := RX8) (As := [.int (sc (i + 1)), .int (sc (i + 2))]) (st := [.int v1]) h hX (tX8_turn (xl X) G F w1 iw1 (sc (i + 1)) (sc (i + 2)) (hW := hw.w) (hK := hw.mk)) rfl ⟨by decide, ob_21 rfl⟩ rfl miX8_turn tw_809 (by decide) (by decide) rfl (Nat.le_of_ble_eq_true rfl) hc hs dL_law_353 (fun v2 w2 hv2 hw2 iw2 => ?_)
  exact g_icmp_eq (tgt := 987) h dL_law_356 (by decide) (fun _ => kk w2 iw2 (RR_2 hw2 (hR2.le (by omega)))) (fun c => absurd (hv2.trans hE).symm c)
theorem lw_c5 (h : Cx X G F 4 code "FibreLoopsLaw" ret) (hX : xR X = room_1) (hS : va_X b L sc (xs X) (xs X).heap) (hb : b < F) (hi : i + 6 ≤ L) (hL : L ≤ 3072) (hI : Inv ω) (hR : RR ω ω T) (hT : T < 5000000) (hc : cells ≤ 600000) (hs : slots ≤ 7302250) (kk : ∀ ω2, Inv ω2 → RR ω2 ω2 (T + 5600) → Vg X Q G F 4 NC (cel F G ω2) cells slots 987 (LC F b i) []) : Vg X Q G F 4 NC (cel F G ω) cells slots 361 (LC F b i) [] := by
  refine g_aload_n h 2 dL_law_361 rfl ?_
  refine lw_arg h hS hb 1 (by omega) hL (by decide) dL_law_362 dL_law_363 dL_law_364 dL_law_365 dL_law_366 ?_
  refine lw_arg h hS hb 2 (by omega) hL (by decide) dL_law_367 dL_law_368 dL_law_369 dL_law_370 dL_law_371 ?_
  refine lw_call (k := 0) (ci := 7) (C := RX7) (As := [.int (sc (i + 1)), .int (sc (i + 2))]) (st := []) h hX (tX7_feed (xl X) G F ω hI (sc (i + 1)) (sc (i + 2))) rfl ⟨by decide, ob_12 rfl⟩ rfl miX7_feed tw_365 (by decide) (by decide) rfl (Nat.le_of_ble_eq_true rfl) hc hs dL_law_372 (fun v1 w1 hv1 hw1 iw1 => ?_)
  obtain ⟨hw, hE, hR2⟩ := two (m2 := m_tF w1 (sc (i + 1)) (sc (i + 2)) 1) (r1 := v1) (T2 := T + 5600) hR (by rw [hw1]; exact chg_M hI ((feedW_M (holdcB hR)).mo bS_sS)) hi_tF (fun q => ⟨(feed_R q).1.trans hv1.symm, RR_l hw1 (feed_R q).2⟩)
  refine g_aload_n h 1 dL_law_375 rfl ?_
  refine lw_arg h hS hb 1 (by omega) hL (by decide) dL_law_376 dL_law_377 dL_law_378 dL_law_379 dL_law_380 ?_
  refine lw_arg h hS hb 2 (by omega) hL (by decide) dL_law_381 dL_law_382 dL_law_383 dL_law_384 dL_law_385 ?_
  refine lw_call (k := 647) (ci := 8) (C := RX8) (As := [.int (sc (i + 1)), .int (sc (i + 2))]) (st := [.int v1]) h hX (tX8_feed (xl X) G F w1 iw1 (sc (i + 1)) (sc (i + 2)) (hW := hw.w) (hK := hw.mk)) rfl ⟨by decide, ob_21 rfl⟩ rfl miX8_feed tw_825 (by decide) (by decide) rfl (Nat.le_of_ble_eq_true rfl) hc hs dL_law_386 (fun v2 w2 hv2 hw2 iw2 => ?_)
  exact g_icmp_eq (tgt := 987) h dL_law_389 (by decide) (fun _ => kk w2 iw2 (RR_2 hw2 (hR2.le (by omega)))) (fun c => absurd (hv2.trans hE).symm c)
theorem lw_c6 (h : Cx X G F 4 code "FibreLoopsLaw" ret) (hX : xR X = room_1) (hS : va_X b L sc (xs X) (xs X).heap) (hb : b < F) (hi : i + 6 ≤ L) (hL : L ≤ 3072) (hI : Inv ω) (hR : RR ω ω T) (hT : T < 5000000) (hc : cells ≤ 600000) (hs : slots ≤ 7302250) (kk : ∀ ω2, Inv ω2 → RR ω2 ω2 (T + 5600) → Vg X Q G F 4 NC (cel F G ω2) cells slots 987 (LC F b i) []) : Vg X Q G F 4 NC (cel F G ω) cells slots 394 (LC F b i) [] := by
  refine g_aload_n h 2 dL_law_394 rfl ?_
  refine lw_arg h hS hb 1 (by omega) hL (by decide) dL_law_395 dL_law_396 dL_law_397 dL_law_398 dL_law_399 ?_
  refine lw_arg h hS hb 2 (by omega) hL (by decide) dL_law_400 dL_law_401 dL_law_402 dL_law_403 dL_law_404 ?_
  refine lw_arg h hS hb 3 (by omega) hL (by decide) dL_law_405 dL_law_406 dL_law_407 dL_law_408 dL_law_409 ?_
  refine lw_call (k := 0) (ci := 7) (C := RX7) (As := [.int (sc (i + 1)), .int (sc (i + 2)), .int (sc (i + 3))]) (st := []) h hX (tX7_light (xl X) G F ω hI (sc (i + 1)) (sc (i + 2)) (sc (i + 3))) rfl ⟨by decide, ob_12 rfl⟩ rfl miX7_light tw_382 (by decide) (by decide) rfl (Nat.le_of_ble_eq_true rfl) hc hs dL_law_410 (fun v1 w1 hv1 hw1 iw1 => ?_)
  obtain ⟨hw, hE, hR2⟩ := two (m2 := m_tL w1 (sc (i + 1)) (sc (i + 2)) (sc (i + 3)) 1) (r1 := v1) (T2 := T + 5600) hR (by rw [hw1]; exact chg_M hI (lightW_M (holdcB hR))) hi_tL (fun q => ⟨(light_R q).1.trans hv1.symm, RR_l hw1 (light_R q).2⟩)
  refine g_aload_n h 1 dL_law_413 rfl ?_
  refine lw_arg h hS hb 1 (by omega) hL (by decide) dL_law_414 dL_law_415 dL_law_416 dL_law_417 dL_law_418 ?_
  refine lw_arg h hS hb 2 (by omega) hL (by decide) dL_law_419 dL_law_420 dL_law_421 dL_law_422 dL_law_423 ?_
  refine lw_arg h hS hb 3 (by omega) hL (by decide) dL_law_424 dL_law_425 dL_law_426 dL_law_427 dL_law_428 ?_
  refine lw_call (k := 647) (ci := 8) (C := RX8) (As := [.int (sc (i + 1)), .int (sc (i + 2)), .int (sc (i + 3))]) (st := [.int v1]) h hX (tX8_light (xl X) G F w1 iw1 (sc (i + 1)) (sc (i + 2)) (sc (i + 3)) (hW := hw.w) (hK := hw.mk)) rfl ⟨by decide, ob_21 rfl⟩ rfl miX8_light tw_841 (by decide) (by decide) rfl (Nat.le_of_ble_eq_true rfl) hc hs dL_law_429 (fun v2 w2 hv2 hw2 iw2 => ?_)
  exact g_icmp_eq (tgt := 987) h dL_law_432 (by decide) (fun _ => kk w2 iw2 (RR_2 hw2 (hR2.le (by omega)))) (fun c => absurd (hv2.trans hE).symm c)
theorem lw_c7 (h : Cx X G F 4 code "FibreLoopsLaw" ret) (hX : xR X = room_1) (hS : va_X b L sc (xs X) (xs X).heap) (hb : b < F) (hi : i + 6 ≤ L) (hL : L ≤ 3072) (hI : Inv ω) (hR : RR ω ω T) (hT : T < 5000000) (hc : cells ≤ 600000) (hs : slots ≤ 7302250) (kk : ∀ ω2, Inv ω2 → RR ω2 ω2 (T + 5600) → Vg X Q G F 4 NC (cel F G ω2) cells slots 987 (LC F b i) []) : Vg X Q G F 4 NC (cel F G ω) cells slots 437 (LC F b i) [] := by
  refine g_aload_n h 2 dL_law_437 rfl ?_
  refine lw_arg h hS hb 1 (by omega) hL (by decide) dL_law_438 dL_law_439 dL_law_440 dL_law_441 dL_law_442 ?_
  refine lw_call (k := 0) (ci := 7) (C := RX7) (As := [.int (sc (i + 1))]) (st := []) h hX (tX7_ticks (xl X) G F ω hI (sc (i + 1))) rfl ⟨by decide, ob_12 rfl⟩ rfl miX7_ticks tw_407 (by decide) (by decide) rfl (Nat.le_of_ble_eq_true rfl) hc hs dL_law_443 (fun v1 w1 hv1 hw1 iw1 => ?_)
  obtain ⟨hw, hE, hR2⟩ := two (m2 := m_tK w1 (sc (i + 1)) 1) (r1 := v1) (T2 := T + 5600) hR (by rw [hw1]; exact chg_M hI (passTW_M (holdcB hR))) hi_tK (fun q => ⟨(ticks_R q (by omega)).1.trans hv1.symm, RR_l hw1 (ticks_R q (by omega)).2⟩)
  refine g_aload_n h 1 dL_law_446 rfl ?_
  refine lw_arg h hS hb 1 (by omega) hL (by decide) dL_law_447 dL_law_448 dL_law_449 dL_law_450 dL_law_451 ?_
  refine lw_call (k := 647) (ci := 8) (C := RX8) (As := [.int (sc (i + 1))]) (st := [.int v1]) h hX (tX8_ticks (xl X) G F w1 iw1 (sc (i + 1)) (hW := hw.w) (hK := hw.mk)) rfl ⟨by decide, ob_21 rfl⟩ rfl miX8_ticks tw_864 (by decide) (by decide) rfl (Nat.le_of_ble_eq_true rfl) hc hs dL_law_452 (fun v2 w2 hv2 hw2 iw2 => ?_)
  exact g_icmp_eq (tgt := 987) h dL_law_455 (by decide) (fun _ => kk w2 iw2 (RR_2 hw2 (hR2.le (by omega)))) (fun c => absurd (hv2.trans hE).symm c)
theorem lw_c8 (h : Cx X G F 4 code "FibreLoopsLaw" ret) (hX : xR X = room_1) (hS : va_X b L sc (xs X) (xs X).heap) (hb : b < F) (hi : i + 6 ≤ L) (hL : L ≤ 3072) (hI : Inv ω) (hR : RR ω ω T) (hT : T < 5000000) (hc : cells ≤ 600000) (hs : slots ≤ 7302250) (kk : ∀ ω2, Inv ω2 → RR ω2 ω2 (T + 5600) → Vg X Q G F 4 NC (cel F G ω2) cells slots 987 (LC F b i) []) : Vg X Q G F 4 NC (cel F G ω) cells slots 460 (LC F b i) [] := by
  refine g_aload_n h 2 dL_law_460 rfl ?_
  refine lw_arg h hS hb 1 (by omega) hL (by decide) dL_law_461 dL_law_462 dL_law_463 dL_law_464 dL_law_465 ?_
  refine lw_arg h hS hb 2 (by omega) hL (by decide) dL_law_466 dL_law_467 dL_law_468 dL_law_469 dL_law_470 ?_
  refine lw_arg h hS hb 3 (by omega) hL (by decide) dL_law_471 dL_law_472 dL_law_473 dL_law_474 dL_law_475 ?_
  refine lw_call (k := 0) (ci := 7) (C := RX7) (As := [.int (sc (i + 1)), .int (sc (i + 2)), .int (sc (i + 3))]) (st := []) h hX (tX7_at (xl X) G F ω hI (sc (i + 1)) (sc (i + 2)) (sc (i + 3))) rfl ⟨by decide, ob_12 rfl⟩ rfl miX7_at tw_498 (by decide) (by decide) rfl (Nat.le_of_ble_eq_true rfl) hc hs dL_law_476 (fun v1 w1 hv1 hw1 iw1 => ?_)
  subst hw1
  refine g_aload_n h 1 dL_law_479 rfl ?_
  refine lw_arg h hS hb 1 (by omega) hL (by decide) dL_law_480 dL_law_481 dL_law_482 dL_law_483 dL_law_484 ?_
  refine lw_arg h hS hb 2 (by omega) hL (by decide) dL_law_485 dL_law_486 dL_law_487 dL_law_488 dL_law_489 ?_
  refine lw_arg h hS hb 3 (by omega) hL (by decide) dL_law_490 dL_law_491 dL_law_492 dL_law_493 dL_law_494 ?_
  refine lw_call (k := 647) (ci := 8) (C := RX8) (As := [.int (sc (i + 1)), .int (sc (i + 2)), .int (sc (i + 3))]) (st := [.int v1]) h hX (tX8_at (xl X) G F w1 iw1 (sc (i + 1)) (sc (i + 2)) (sc (i + 3)) hR.w) rfl ⟨by decide, ob_21 rfl⟩ rfl miX8_at tw_932 (by decide) (by decide) rfl (Nat.le_of_ble_eq_true rfl) hc hs dL_law_495 (fun v2 w2 hv2 hw2 iw2 => ?_)
  have hE : v1 = v2 := (hv1.trans (at_Q hR.1.1 (sc (i + 1)) (sc (i + 2)) (sc (i + 3)))).trans hv2.symm
  exact g_icmp_eq (tgt := 987) h dL_law_498 (by decide) (fun _ => kk w2 iw2 (RR_2 hw2 (hR.le (by omega)))) (fun c => absurd hE c)
theorem lw_c9 (h : Cx X G F 4 code "FibreLoopsLaw" ret) (hX : xR X = room_1) (hS : va_X b L sc (xs X) (xs X).heap) (hb : b < F) (hi : i + 6 ≤ L) (hL : L ≤ 3072) (hI : Inv ω) (hR : RR ω ω T) (hT : T < 5000000) (hc : cells ≤ 600000) (hs : slots ≤ 7302250) (kk : ∀ ω2, Inv ω2 → RR ω2 ω2 (T + 5600) → Vg X Q G F 4 NC (cel F G ω2) cells slots 987 (LC F b i) []) : Vg X Q G F 4 NC (cel F G ω) cells slots 503 (LC F b i) [] := by
  refine g_aload_n h 2 dL_law_503 rfl ?_
  refine lw_arg h hS hb 1 (by omega) hL (by decide) dL_law_504 dL_law_505 dL_law_506 dL_law_507 dL_law_508 ?_
  refine lw_arg h hS hb 2 (by omega) hL (by decide) dL_law_509 dL_law_510 dL_law_511 dL_law_512 dL_law_513 ?_
  refine lw_call (k := 0) (ci := 7) (C := RX7) (As := [.int (sc (i + 1)), .int (sc (i + 2))]) (st := []) h hX (tX7_ofLoop (xl X) G F ω hI (sc (i + 1)) (sc (i + 2))) rfl ⟨by decide, ob_12 rfl⟩ rfl miX7_ofLoop tw_509 (by decide) (by decide) rfl (Nat.le_of_ble_eq_true rfl) hc hs dL_law_514 (fun v1 w1 hv1 hw1 iw1 => ?_)
  subst hw1
  refine g_aload_n h 1 dL_law_517 rfl ?_
  refine lw_arg h hS hb 1 (by omega) hL (by decide) dL_law_518 dL_law_519 dL_law_520 dL_law_521 dL_law_522 ?_
  refine lw_arg h hS hb 2 (by omega) hL (by decide) dL_law_523 dL_law_524 dL_law_525 dL_law_526 dL_law_527 ?_
  refine lw_call (k := 647) (ci := 8) (C := RX8) (As := [.int (sc (i + 1)), .int (sc (i + 2))]) (st := [.int v1]) h hX (tX8_ofLoop (xl X) G F w1 iw1 (sc (i + 1)) (sc (i + 2)) hR.w) rfl ⟨by decide, ob_21 rfl⟩ rfl miX8_ofLoop tw_936 (by decide) (by decide) rfl (Nat.le_of_ble_eq_true rfl) hc hs dL_law_528 (fun v2 w2 hv2 hw2 iw2 => ?_)
  have hE : v1 = v2 := (hv1.trans (ofLoop_Q hR.1.1 (sc (i + 1)) (sc (i + 2)))).trans hv2.symm
  exact g_icmp_eq (tgt := 987) h dL_law_531 (by decide) (fun _ => kk w2 iw2 (RR_2 hw2 (hR.le (by omega)))) (fun c => absurd hE c)
theorem lw_c10 (h : Cx X G F 4 code "FibreLoopsLaw" ret) (hX : xR X = room_1) (hS : va_X b L sc (xs X) (xs X).heap) (hb : b < F) (hi : i + 6 ≤ L) (hL : L ≤ 3072) (hI : Inv ω) (hR : RR ω ω T) (hT : T < 5000000) (hc : cells ≤ 600000) (hs : slots ≤ 7302250) (kk : ∀ ω2, Inv ω2 → RR ω2 ω2 (T + 5600) → Vg X Q G F 4 NC (cel F G ω2) cells slots 987 (LC F b i) []) : Vg X Q G F 4 NC (cel F G ω) cells slots 536 (LC F b i) [] := by
  refine g_aload_n h 2 dL_law_536 rfl ?_
  refine lw_arg h hS hb 1 (by omega) hL (by decide) dL_law_537 dL_law_538 dL_law_539 dL_law_540 dL_law_541 ?_
  refine lw_arg h hS hb 2 (by omega) hL (by decide) dL_law_542 dL_law_543 dL_law_544 dL_law_545 dL_law_546 ?_
  refine lw_call (k := 0) (ci := 7) (C := RX7) (As := [.int (sc (i + 1)), .int (sc (i + 2))]) (st := []) h hX (tX7_ofDevice (xl X) G F ω hI (sc (i + 1)) (sc (i + 2))) rfl ⟨by decide, ob_12 rfl⟩ rfl miX7_ofDevice tw_528 (by decide) (by decide) rfl (Nat.le_of_ble_eq_true rfl) hc hs dL_law_547 (fun v1 w1 hv1 hw1 iw1 => ?_)
  subst hw1
  refine g_aload_n h 1 dL_law_550 rfl ?_
  refine lw_arg h hS hb 1 (by omega) hL (by decide) dL_law_551 dL_law_552 dL_law_553 dL_law_554 dL_law_555 ?_
  refine lw_arg h hS hb 2 (by omega) hL (by decide) dL_law_556 dL_law_557 dL_law_558 dL_law_559 dL_law_560 ?_
  refine lw_call (k := 647) (ci := 8) (C := RX8) (As := [.int (sc (i + 1)), .int (sc (i + 2))]) (st := [.int v1]) h hX (tX8_ofDevice (xl X) G F w1 iw1 (sc (i + 1)) (sc (i + 2)) hR.w) rfl ⟨by decide, ob_21 rfl⟩ rfl miX8_ofDevice tw_948 (by decide) (by decide) rfl (Nat.le_of_ble_eq_true rfl) hc hs dL_law_561 (fun v2 w2 hv2 hw2 iw2 => ?_)
  have hE : v1 = v2 := (hv1.trans (ofDev_Q hR.1.1 (sc (i + 1)) (sc (i + 2)))).trans hv2.symm
  exact g_icmp_eq (tgt := 987) h dL_law_564 (by decide) (fun _ => kk w2 iw2 (RR_2 hw2 (hR.le (by omega)))) (fun c => absurd hE c)
theorem lw_c11 (h : Cx X G F 4 code "FibreLoopsLaw" ret) (hX : xR X = room_1) (hS : va_X b L sc (xs X) (xs X).heap) (hb : b < F) (hi : i + 6 ≤ L) (hL : L ≤ 3072) (hI : Inv ω) (hR : RR ω ω T) (hT : T < 5000000) (hc : cells ≤ 600000) (hs : slots ≤ 7302250) (kk : ∀ ω2, Inv ω2 → RR ω2 ω2 (T + 5600) → Vg X Q G F 4 NC (cel F G ω2) cells slots 987 (LC F b i) []) : Vg X Q G F 4 NC (cel F G ω) cells slots 569 (LC F b i) [] := by
  refine g_aload_n h 2 dL_law_569 rfl ?_
  refine lw_arg h hS hb 1 (by omega) hL (by decide) dL_law_570 dL_law_571 dL_law_572 dL_law_573 dL_law_574 ?_
  refine lw_arg h hS hb 2 (by omega) hL (by decide) dL_law_575 dL_law_576 dL_law_577 dL_law_578 dL_law_579 ?_
  refine lw_call (k := 0) (ci := 7) (C := RX7) (As := [.int (sc (i + 1)), .int (sc (i + 2))]) (st := []) h hX (tX7_noted (xl X) G F ω hI (sc (i + 1)) (sc (i + 2))) rfl ⟨by decide, ob_12 rfl⟩ rfl miX7_noted tw_533 (by decide) (by decide) rfl (Nat.le_of_ble_eq_true rfl) hc hs dL_law_580 (fun v1 w1 hv1 hw1 iw1 => ?_)
  subst hw1
  refine g_aload_n h 1 dL_law_583 rfl ?_
  refine lw_arg h hS hb 1 (by omega) hL (by decide) dL_law_584 dL_law_585 dL_law_586 dL_law_587 dL_law_588 ?_
  refine lw_arg h hS hb 2 (by omega) hL (by decide) dL_law_589 dL_law_590 dL_law_591 dL_law_592 dL_law_593 ?_
  refine lw_call (k := 647) (ci := 8) (C := RX8) (As := [.int (sc (i + 1)), .int (sc (i + 2))]) (st := [.int v1]) h hX (tX8_noted (xl X) G F w1 iw1 (sc (i + 1)) (sc (i + 2)) hR.w) rfl ⟨by decide, ob_21 rfl⟩ rfl miX8_noted tw_952 (by decide) (by decide) rfl (Nat.le_of_ble_eq_true rfl) hc hs dL_law_594 (fun v2 w2 hv2 hw2 iw2 => ?_)
  have hE : v1 = v2 := (hv1.trans (noted_Q hR.1.1 (sc (i + 1)) (sc (i + 2)))).trans hv2.symm
  exact g_icmp_eq (tgt := 987) h dL_law_597 (by decide) (fun _ => kk w2 iw2 (RR_2 hw2 (hR.le (by omega)))) (fun c => absurd hE c)
theorem lw_c12 (h : Cx X G F 4 code "FibreLoopsLaw" ret) (hX : xR X = room_1) (hS : va_X b L sc (xs X) (xs X).heap) (hb : b < F) (hi : i + 6 ≤ L) (hL : L ≤ 3072) (hI : Inv ω) (hR : RR ω ω T) (hT : T < 5000000) (hc : cells ≤ 600000) (hs : slots ≤ 7302250) (kk : ∀ ω2, Inv ω2 → RR ω2 ω2 (T + 5600) → Vg X Q G F 4 NC (cel F G ω2) cells slots 987 (LC F b i) []) : Vg X Q G F 4 NC (cel F G ω) cells slots 602 (LC F b i) [] := by
  refine g_aload_n h 2 dL_law_602 rfl ?_
  refine lw_arg h hS hb 1 (by omega) hL (by decide) dL_law_603 dL_law_604 dL_law_605 dL_law_606 dL_law_607 ?_
  refine lw_arg h hS hb 2 (by omega) hL (by decide) dL_law_608 dL_law_609 dL_law_610 dL_law_611 dL_law_612 ?_
  refine lw_call (k := 0) (ci := 7) (C := RX7) (As := [.int (sc (i + 1)), .int (sc (i + 2))]) (st := []) h hX (tX7_ofJoin (xl X) G F ω hI (sc (i + 1)) (sc (i + 2))) rfl ⟨by decide, ob_12 rfl⟩ rfl miX7_ofJoin tw_541 (by decide) (by decide) rfl (Nat.le_of_ble_eq_true rfl) hc hs dL_law_613 (fun v1 w1 hv1 hw1 iw1 => ?_)
  subst hw1
  refine g_aload_n h 1 dL_law_616 rfl ?_
  refine lw_arg h hS hb 1 (by omega) hL (by decide) dL_law_617 dL_law_618 dL_law_619 dL_law_620 dL_law_621 ?_
  refine lw_arg h hS hb 2 (by omega) hL (by decide) dL_law_622 dL_law_623 dL_law_624 dL_law_625 dL_law_626 ?_
  refine lw_call (k := 647) (ci := 8) (C := RX8) (As := [.int (sc (i + 1)), .int (sc (i + 2))]) (st := [.int v1]) h hX (tX8_ofJoin (xl X) G F w1 iw1 (sc (i + 1)) (sc (i + 2)) hR.w) rfl ⟨by decide, ob_21 rfl⟩ rfl miX8_ofJoin tw_956 (by decide) (by decide) rfl (Nat.le_of_ble_eq_true rfl) hc hs dL_law_627 (fun v2 w2 hv2 hw2 iw2 => ?_)
  have hE : v1 = v2 := (hv1.trans (ofJoin_Q hR.1.1 (sc (i + 1)) (sc (i + 2)))).trans hv2.symm
  exact g_icmp_eq (tgt := 987) h dL_law_630 (by decide) (fun _ => kk w2 iw2 (RR_2 hw2 (hR.le (by omega)))) (fun c => absurd hE c)
theorem lw_c13 (h : Cx X G F 4 code "FibreLoopsLaw" ret) (hX : xR X = room_1) (hS : va_X b L sc (xs X) (xs X).heap) (hb : b < F) (hi : i + 6 ≤ L) (hL : L ≤ 3072) (hI : Inv ω) (hR : RR ω ω T) (hT : T < 5000000) (hc : cells ≤ 600000) (hs : slots ≤ 7302250) (kk : ∀ ω2, Inv ω2 → RR ω2 ω2 (T + 5600) → Vg X Q G F 4 NC (cel F G ω2) cells slots 987 (LC F b i) []) : Vg X Q G F 4 NC (cel F G ω) cells slots 635 (LC F b i) [] := by
  refine g_aload_n h 2 dL_law_635 rfl ?_
  refine lw_arg h hS hb 1 (by omega) hL (by decide) dL_law_636 dL_law_637 dL_law_638 dL_law_639 dL_law_640 ?_
  refine lw_arg h hS hb 2 (by omega) hL (by decide) dL_law_641 dL_law_642 dL_law_643 dL_law_644 dL_law_645 ?_
  refine lw_call (k := 0) (ci := 7) (C := RX7) (As := [.int (sc (i + 1)), .int (sc (i + 2))]) (st := []) h hX (tX7_find (xl X) G F ω hI (sc (i + 1)) (sc (i + 2))) rfl ⟨by decide, ob_12 rfl⟩ rfl miX7_find tw_546 (by decide) (by decide) rfl (Nat.le_of_ble_eq_true rfl) hc hs dL_law_646 (fun v1 w1 hv1 hw1 iw1 => ?_)
  subst hw1
  refine g_aload_n h 1 dL_law_649 rfl ?_
  refine lw_arg h hS hb 1 (by omega) hL (by decide) dL_law_650 dL_law_651 dL_law_652 dL_law_653 dL_law_654 ?_
  refine lw_arg h hS hb 2 (by omega) hL (by decide) dL_law_655 dL_law_656 dL_law_657 dL_law_658 dL_law_659 ?_
  refine lw_call (k := 647) (ci := 8) (C := RX8) (As := [.int (sc (i + 1)), .int (sc (i + 2))]) (st := [.int v1]) h hX (tX8_find (xl X) G F w1 iw1 (sc (i + 1)) (sc (i + 2)) hR.w) rfl ⟨by decide, ob_21 rfl⟩ rfl miX8_find tw_960 (by decide) (by decide) rfl (Nat.le_of_ble_eq_true rfl) hc hs dL_law_660 (fun v2 w2 hv2 hw2 iw2 => ?_)
  have hE : v1 = v2 := (hv1.trans (find_Q hR.1.1 (sc (i + 1)) (sc (i + 2)))).trans hv2.symm
  exact g_icmp_eq (tgt := 987) h dL_law_663 (by decide) (fun _ => kk w2 iw2 (RR_2 hw2 (hR.le (by omega)))) (fun c => absurd hE c)
theorem lw_c14 (h : Cx X G F 4 code "FibreLoopsLaw" ret) (hX : xR X = room_1) (hS : va_X b L sc (xs X) (xs X).heap) (hb : b < F) (hi : i + 6 ≤ L) (hL : L ≤ 3072) (hI : Inv ω) (hR : RR ω ω T) (hT : T < 5000000) (hc : cells ≤ 600000) (hs : slots ≤ 7302250) (kk : ∀ ω2, Inv ω2 → RR ω2 ω2 (T + 5600) → Vg X Q G F 4 NC (cel F G ω2) cells slots 987 (LC F b i) []) : Vg X Q G F 4 NC (cel F G ω) cells slots 668 (LC F b i) [] := by
  refine g_aload_n h 2 dL_law_668 rfl ?_
  refine lw_arg h hS hb 1 (by omega) hL (by decide) dL_law_669 dL_law_670 dL_law_671 dL_law_672 dL_law_673 ?_
  refine lw_call (k := 0) (ci := 7) (C := RX7) (As := [.int (sc (i + 1))]) (st := []) h hX (tX7_count (xl X) G F ω hI (sc (i + 1))) rfl ⟨by decide, ob_12 rfl⟩ rfl miX7_count tw_550 (by decide) (by decide) rfl (Nat.le_of_ble_eq_true rfl) hc hs dL_law_674 (fun v1 w1 hv1 hw1 iw1 => ?_)
  subst hw1
  refine g_aload_n h 1 dL_law_677 rfl ?_
  refine lw_arg h hS hb 1 (by omega) hL (by decide) dL_law_678 dL_law_679 dL_law_680 dL_law_681 dL_law_682 ?_
  refine lw_call (k := 647) (ci := 8) (C := RX8) (As := [.int (sc (i + 1))]) (st := [.int v1]) h hX (tX8_count (xl X) G F w1 iw1 (sc (i + 1)) hR.w) rfl ⟨by decide, ob_21 rfl⟩ rfl miX8_count tw_964 (by decide) (by decide) rfl (Nat.le_of_ble_eq_true rfl) hc hs dL_law_683 (fun v2 w2 hv2 hw2 iw2 => ?_)
  have hE : v1 = v2 := (hv1.trans (count_Q hR.1.1 hR.pE hR.nE (sc (i + 1)))).trans hv2.symm
  exact g_icmp_eq (tgt := 987) h dL_law_686 (by decide) (fun _ => kk w2 iw2 (RR_2 hw2 (hR.le (by omega)))) (fun c => absurd hE c)
theorem lw_c15 (h : Cx X G F 4 code "FibreLoopsLaw" ret) (hX : xR X = room_1) (hS : va_X b L sc (xs X) (xs X).heap) (hb : b < F) (hi : i + 6 ≤ L) (hL : L ≤ 3072) (hI : Inv ω) (hR : RR ω ω T) (hT : T < 5000000) (hc : cells ≤ 600000) (hs : slots ≤ 7302250) (kk : ∀ ω2, Inv ω2 → RR ω2 ω2 (T + 5600) → Vg X Q G F 4 NC (cel F G ω2) cells slots 987 (LC F b i) []) : Vg X Q G F 4 NC (cel F G ω) cells slots 691 (LC F b i) [] := by
  refine g_aload_n h 2 dL_law_691 rfl ?_
  refine lw_arg h hS hb 1 (by omega) hL (by decide) dL_law_692 dL_law_693 dL_law_694 dL_law_695 dL_law_696 ?_
  refine lw_arg h hS hb 2 (by omega) hL (by decide) dL_law_697 dL_law_698 dL_law_699 dL_law_700 dL_law_701 ?_
  refine lw_arg h hS hb 3 (by omega) hL (by decide) dL_law_702 dL_law_703 dL_law_704 dL_law_705 dL_law_706 ?_
  refine lw_call (k := 0) (ci := 7) (C := RX7) (As := [.int (sc (i + 1)), .int (sc (i + 2)), .int (sc (i + 3))]) (st := []) h hX (tX7_valueIn (xl X) G F ω hI (sc (i + 1)) (sc (i + 2)) (sc (i + 3))) rfl ⟨by decide, ob_12 rfl⟩ rfl miX7_valueIn tw_564 (by decide) (by decide) rfl (Nat.le_of_ble_eq_true rfl) hc hs dL_law_707 (fun v1 w1 hv1 hw1 iw1 => ?_)
  obtain ⟨hw, hE, hR2⟩ := two (m2 := m_valIn w1 (sc (i + 1)) (sc (i + 2)) (sc (i + 3))) (r1 := v1) (T2 := T) hR (by rw [hw1]; exact valInW_M hI) hi_valIn (fun q => ⟨(valIn_R q).1.trans hv1.symm, RR_l hw1 (valIn_R q).2⟩)
  refine g_aload_n h 1 dL_law_710 rfl ?_
  refine lw_arg h hS hb 1 (by omega) hL (by decide) dL_law_711 dL_law_712 dL_law_713 dL_law_714 dL_law_715 ?_
  refine lw_arg h hS hb 2 (by omega) hL (by decide) dL_law_716 dL_law_717 dL_law_718 dL_law_719 dL_law_720 ?_
  refine lw_arg h hS hb 3 (by omega) hL (by decide) dL_law_721 dL_law_722 dL_law_723 dL_law_724 dL_law_725 ?_
  refine lw_call (k := 647) (ci := 8) (C := RX8) (As := [.int (sc (i + 1)), .int (sc (i + 2)), .int (sc (i + 3))]) (st := [.int v1]) h hX (tX8_valueIn (xl X) G F w1 iw1 (sc (i + 1)) (sc (i + 2)) (sc (i + 3)) (hW := hw.w)) rfl ⟨by decide, ob_21 rfl⟩ rfl miX8_valueIn tw_972 (by decide) (by decide) rfl (Nat.le_of_ble_eq_true rfl) hc hs dL_law_726 (fun v2 w2 hv2 hw2 iw2 => ?_)
  exact g_icmp_eq (tgt := 987) h dL_law_729 (by decide) (fun _ => kk w2 iw2 (RR_2 hw2 (hR2.le (by omega)))) (fun c => absurd (hv2.trans hE).symm c)
theorem lw_c16 (h : Cx X G F 4 code "FibreLoopsLaw" ret) (hX : xR X = room_1) (hS : va_X b L sc (xs X) (xs X).heap) (hb : b < F) (hi : i + 6 ≤ L) (hL : L ≤ 3072) (hI : Inv ω) (hR : RR ω ω T) (hT : T < 5000000) (hc : cells ≤ 600000) (hs : slots ≤ 7302250) (kk : ∀ ω2, Inv ω2 → RR ω2 ω2 (T + 5600) → Vg X Q G F 4 NC (cel F G ω2) cells slots 987 (LC F b i) []) : Vg X Q G F 4 NC (cel F G ω) cells slots 734 (LC F b i) [] := by
  refine g_aload_n h 2 dL_law_734 rfl ?_
  refine lw_arg h hS hb 1 (by omega) hL (by decide) dL_law_735 dL_law_736 dL_law_737 dL_law_738 dL_law_739 ?_
  refine lw_call (k := 0) (ci := 7) (C := RX7) (As := [.int (sc (i + 1))]) (st := []) h hX (tX7_leftIn (xl X) G F ω hI (sc (i + 1))) rfl ⟨by decide, ob_12 rfl⟩ rfl miX7_leftIn tw_569 (by decide) (by decide) rfl (Nat.le_of_ble_eq_true rfl) hc hs dL_law_740 (fun v1 w1 hv1 hw1 iw1 => ?_)
  obtain ⟨hw, hE, hR2⟩ := two (m2 := m_left w1 (sc (i + 1))) (r1 := v1) (T2 := T) hR (by rw [hw1]; exact leftW_M hI) hi_left (fun q => ⟨(left_R q).1.trans hv1.symm, RR_l hw1 (left_R q).2⟩)
  refine g_aload_n h 1 dL_law_743 rfl ?_
  refine lw_arg h hS hb 1 (by omega) hL (by decide) dL_law_744 dL_law_745 dL_law_746 dL_law_747 dL_law_748 ?_
  refine lw_call (k := 647) (ci := 8) (C := RX8) (As := [.int (sc (i + 1))]) (st := [.int v1]) h hX (tX8_leftIn (xl X) G F w1 iw1 (sc (i + 1)) (hW := hw.w)) rfl ⟨by decide, ob_21 rfl⟩ rfl miX8_leftIn tw_984 (by decide) (by decide) rfl (Nat.le_of_ble_eq_true rfl) hc hs dL_law_749 (fun v2 w2 hv2 hw2 iw2 => ?_)
  exact g_icmp_eq (tgt := 987) h dL_law_752 (by decide) (fun _ => kk w2 iw2 (RR_2 hw2 (hR2.le (by omega)))) (fun c => absurd (hv2.trans hE).symm c)
theorem lw_c17 (h : Cx X G F 4 code "FibreLoopsLaw" ret) (hX : xR X = room_1) (hS : va_X b L sc (xs X) (xs X).heap) (hb : b < F) (hi : i + 6 ≤ L) (hL : L ≤ 3072) (hI : Inv ω) (hR : RR ω ω T) (hT : T < 5000000) (hc : cells ≤ 600000) (hs : slots ≤ 7302250) (kk : ∀ ω2, Inv ω2 → RR ω2 ω2 (T + 5600) → Vg X Q G F 4 NC (cel F G ω2) cells slots 987 (LC F b i) []) : Vg X Q G F 4 NC (cel F G ω) cells slots 757 (LC F b i) [] := by
  refine g_aload_n h 2 dL_law_757 rfl ?_
  refine lw_call (k := 0) (ci := 7) (C := RX7) (As := []) (st := []) h hX (tX7_firstLoss (xl X) G F ω hI ) rfl ⟨by decide, ob_12 rfl⟩ rfl miX7_firstLoss tw_573 (by decide) (by decide) rfl (Nat.le_of_ble_eq_true rfl) hc hs dL_law_758 (fun v1 w1 hv1 hw1 iw1 => ?_)
  obtain ⟨hw, hE, hR2⟩ := lw_two (r2 := m_first w1) (W2 := m_lwW w1 300) (r1 := v1) (T2 := T) hR (by rw [hw1]; exact firstW_M hI) hi_lw (fun q => ⟨(first_R q hT).1.trans hv1.symm, RR_l hw1 (first_R q hT).2⟩)
  refine g_aload_n h 1 dL_law_761 rfl ?_
  refine lw_call (k := 647) (ci := 8) (C := RX8) (As := []) (st := [.int v1]) h hX (tX8_firstLoss (xl X) G F w1 iw1  (hW := hw.w)) rfl ⟨by decide, ob_21 rfl⟩ rfl miX8_firstLoss tw_988 (by decide) (by decide) rfl (Nat.le_of_ble_eq_true rfl) hc hs dL_law_762 (fun v2 w2 hv2 hw2 iw2 => ?_)
  exact g_icmp_eq (tgt := 987) h dL_law_765 (by decide) (fun _ => kk w2 iw2 (RR_2 hw2 (hR2.le (by omega)))) (fun c => absurd (hv2.trans hE).symm c)
theorem lw_c18 (h : Cx X G F 4 code "FibreLoopsLaw" ret) (hX : xR X = room_1) (hS : va_X b L sc (xs X) (xs X).heap) (hb : b < F) (hi : i + 6 ≤ L) (hL : L ≤ 3072) (hI : Inv ω) (hR : RR ω ω T) (hT : T < 5000000) (hc : cells ≤ 600000) (hs : slots ≤ 7302250) (kk : ∀ ω2, Inv ω2 → RR ω2 ω2 (T + 5600) → Vg X Q G F 4 NC (cel F G ω2) cells slots 987 (LC F b i) []) : Vg X Q G F 4 NC (cel F G ω) cells slots 770 (LC F b i) [] := by
  refine g_aload_n h 2 dL_law_770 rfl ?_
  refine lw_arg h hS hb 1 (by omega) hL (by decide) dL_law_771 dL_law_772 dL_law_773 dL_law_774 dL_law_775 ?_
  refine lw_arg h hS hb 2 (by omega) hL (by decide) dL_law_776 dL_law_777 dL_law_778 dL_law_779 dL_law_780 ?_
  refine lw_arg h hS hb 3 (by omega) hL (by decide) dL_law_781 dL_law_782 dL_law_783 dL_law_784 dL_law_785 ?_
  refine lw_arg h hS hb 4 (by omega) hL (by decide) dL_law_786 dL_law_787 dL_law_788 dL_law_789 dL_law_790 ?_
  refine lw_call (k := 0) (ci := 7) (C := RX7) (As := [.int (sc (i + 1)), .int (sc (i + 2)), .int (sc (i + 3)), .int (sc (i + 4))]) (st := []) h hX (tX7_bestPlace (xl X) G F ω hI (sc (i + 1)) (sc (i + 2)) (sc (i + 3)) (sc (i + 4))) rfl ⟨by decide, ob_12 rfl⟩ rfl miX7_bestPlace tw_582 (by decide) (by decide) rfl (Nat.le_of_ble_eq_true rfl) hc hs dL_law_791 (fun v1 w1 hv1 hw1 iw1 => ?_)
  obtain ⟨hw, hE, hR2⟩ := two (m2 := m_best w1 (sc (i + 1)) (sc (i + 2)) (sc (i + 3)) (sc (i + 4))) (r1 := v1) (T2 := T) hR (by rw [hw1]; exact bestW_M hI) hi_best (fun q => ⟨(best_R q).1.trans hv1.symm, RR_l hw1 (best_R q).2⟩)
  refine g_aload_n h 1 dL_law_794 rfl ?_
  refine lw_arg h hS hb 1 (by omega) hL (by decide) dL_law_795 dL_law_796 dL_law_797 dL_law_798 dL_law_799 ?_
  refine lw_arg h hS hb 2 (by omega) hL (by decide) dL_law_800 dL_law_801 dL_law_802 dL_law_803 dL_law_804 ?_
  refine lw_arg h hS hb 3 (by omega) hL (by decide) dL_law_805 dL_law_806 dL_law_807 dL_law_808 dL_law_809 ?_
  refine lw_arg h hS hb 4 (by omega) hL (by decide) dL_law_810 dL_law_811 dL_law_812 dL_law_813 dL_law_814 ?_
  refine lw_call (k := 647) (ci := 8) (C := RX8) (As := [.int (sc (i + 1)), .int (sc (i + 2)), .int (sc (i + 3)), .int (sc (i + 4))]) (st := [.int v1]) h hX (tX8_bestPlace (xl X) G F w1 iw1 (sc (i + 1)) (sc (i + 2)) (sc (i + 3)) (sc (i + 4)) (hW := hw.w)) rfl ⟨by decide, ob_21 rfl⟩ rfl miX8_bestPlace tw_996 (by decide) (by decide) rfl (Nat.le_of_ble_eq_true rfl) hc hs dL_law_815 (fun v2 w2 hv2 hw2 iw2 => ?_)
  exact g_icmp_eq (tgt := 987) h dL_law_818 (by decide) (fun _ => kk w2 iw2 (RR_2 hw2 (hR2.le (by omega)))) (fun c => absurd (hv2.trans hE).symm c)
theorem lw_c19 (h : Cx X G F 4 code "FibreLoopsLaw" ret) (hX : xR X = room_1) (hS : va_X b L sc (xs X) (xs X).heap) (hb : b < F) (hi : i + 6 ≤ L) (hL : L ≤ 3072) (hI : Inv ω) (hR : RR ω ω T) (hT : T < 5000000) (hc : cells ≤ 600000) (hs : slots ≤ 7302250) (kk : ∀ ω2, Inv ω2 → RR ω2 ω2 (T + 5600) → Vg X Q G F 4 NC (cel F G ω2) cells slots 987 (LC F b i) []) : Vg X Q G F 4 NC (cel F G ω) cells slots 823 (LC F b i) [] := by
  refine g_aload_n h 2 dL_law_823 rfl ?_
  refine lw_call (k := 0) (ci := 7) (C := RX7) (As := []) (st := []) h hX (tX7_bearable (xl X) G F ω hI ) rfl ⟨by decide, ob_12 rfl⟩ rfl miX7_bearable tw_587 (by decide) (by decide) rfl (Nat.le_of_ble_eq_true rfl) hc hs dL_law_824 (fun v1 w1 hv1 hw1 iw1 => ?_)
  obtain ⟨hw, hE, hR2⟩ := two (m2 := m_bear w1) (r1 := v1) (T2 := T) hR (by rw [hw1]; exact beW_M hI) hi_bear (fun q => ⟨(bear_R q hT).1.trans hv1.symm, RR_l hw1 (bear_R q hT).2⟩)
  refine g_aload_n h 1 dL_law_827 rfl ?_
  refine lw_call (k := 647) (ci := 8) (C := RX8) (As := []) (st := [.int v1]) h hX (tX8_bearable (xl X) G F w1 iw1  (hW := hw.w)) rfl ⟨by decide, ob_21 rfl⟩ rfl miX8_bearable tw_1000 (by decide) (by decide) rfl (Nat.le_of_ble_eq_true rfl) hc hs dL_law_828 (fun v2 w2 hv2 hw2 iw2 => ?_)
  exact g_icmp_eq (tgt := 987) h dL_law_831 (by decide) (fun _ => kk w2 iw2 (RR_2 hw2 (hR2.le (by omega)))) (fun c => absurd (hv2.trans hE).symm c)
theorem lw_c20 (h : Cx X G F 4 code "FibreLoopsLaw" ret) (hX : xR X = room_1) (hS : va_X b L sc (xs X) (xs X).heap) (hb : b < F) (hi : i + 6 ≤ L) (hL : L ≤ 3072) (hI : Inv ω) (hR : RR ω ω T) (hT : T < 5000000) (hc : cells ≤ 600000) (hs : slots ≤ 7302250) (kk : ∀ ω2, Inv ω2 → RR ω2 ω2 (T + 5600) → Vg X Q G F 4 NC (cel F G ω2) cells slots 987 (LC F b i) []) : Vg X Q G F 4 NC (cel F G ω) cells slots 836 (LC F b i) [] := by
  refine g_aload_n h 2 dL_law_836 rfl ?_
  refine lw_arg h hS hb 1 (by omega) hL (by decide) dL_law_837 dL_law_838 dL_law_839 dL_law_840 dL_law_841 ?_
  refine g_i2l h dL_law_842 rfl ?_
  refine g_bipush (v := 32) h dL_law_843 (by decide) ?_
  refine g_lshl h dL_law_845 rfl ?_
  refine lw_arg h hS hb 2 (by omega) hL (by decide) dL_law_846 dL_law_847 dL_law_848 dL_law_849 dL_law_850 ?_
  refine g_i2l h dL_law_851 rfl ?_
  refine g_ldc2 (v := 4294967295) h dL_law_852 tw_1062 ?_
  refine g_land h dL_law_855 ?_
  refine g_lor h dL_law_856 ?_
  refine lw_long (fun cc hcc => ?_)
  refine lw_call (k := 0) (ci := 7) (C := RX7) (As := [.long cc]) (st := []) h hX (tX7_put (xl X) G F ω hI (cc)) rfl ⟨by decide, ob_12 rfl⟩ rfl miX7_put tw_593 (by decide) (by decide) rfl (Nat.le_of_ble_eq_true rfl) hc hs dL_law_857 (fun v1 w1 hv1 hw1 iw1 => ?_)
  obtain ⟨hw, hE, hR2⟩ := two (m2 := m_put w1 (cc)) (r1 := v1) (T2 := T) hR (by rw [hw1]; exact putW_M) hi_put (fun q => ⟨(put_R q).1.trans hv1.symm, RR_l hw1 (put_R q).2⟩)
  refine g_aload_n h 1 dL_law_860 rfl ?_
  refine lw_arg h hS hb 1 (by omega) hL (by decide) dL_law_861 dL_law_862 dL_law_863 dL_law_864 dL_law_865 ?_
  refine g_i2l h dL_law_866 rfl ?_
  refine g_bipush (v := 32) h dL_law_867 (by decide) ?_
  refine g_lshl h dL_law_869 rfl ?_
  refine lw_arg h hS hb 2 (by omega) hL (by decide) dL_law_870 dL_law_871 dL_law_872 dL_law_873 dL_law_874 ?_
  refine g_i2l h dL_law_875 rfl ?_
  refine g_ldc2 (v := 4294967295) h dL_law_876 tw_1062 ?_
  refine g_land h dL_law_879 ?_
  refine g_lor h dL_law_880 ?_
  refine lw_back hcc ?_
  refine lw_call (k := 647) (ci := 8) (C := RX8) (As := [.long cc]) (st := [.int v1]) h hX (tX8_put (xl X) G F w1 iw1 (cc) (hp := hw.pd)) rfl ⟨by decide, ob_21 rfl⟩ rfl miX8_put tw_1004 (by decide) (by decide) rfl (Nat.le_of_ble_eq_true rfl) hc hs dL_law_881 (fun v2 w2 hv2 hw2 iw2 => ?_)
  exact g_icmp_eq (tgt := 987) h dL_law_884 (by decide) (fun _ => kk w2 iw2 (RR_2 hw2 (hR2.le (by omega)))) (fun c => absurd (hv2.trans hE).symm c)
theorem lw_c21 (h : Cx X G F 4 code "FibreLoopsLaw" ret) (hX : xR X = room_1) (hS : va_X b L sc (xs X) (xs X).heap) (hb : b < F) (hi : i + 6 ≤ L) (hL : L ≤ 3072) (hI : Inv ω) (hR : RR ω ω T) (hT : T < 5000000) (hc : cells ≤ 600000) (hs : slots ≤ 7302250) (kk : ∀ ω2, Inv ω2 → RR ω2 ω2 (T + 5600) → Vg X Q G F 4 NC (cel F G ω2) cells slots 987 (LC F b i) []) : Vg X Q G F 4 NC (cel F G ω) cells slots 889 (LC F b i) [] := by
  refine g_aload_n h 2 dL_law_889 rfl ?_
  refine lw_call (k := 0) (ci := 7) (C := RX7) (As := []) (st := []) h hX (tX7_wipe (xl X) G F ω hI ) rfl ⟨by decide, ob_12 rfl⟩ rfl miX7_wipe tw_608 (by decide) (by decide) rfl (Nat.le_of_ble_eq_true rfl) hc hs dL_law_890 (fun v1 w1 hv1 hw1 iw1 => ?_)
  obtain ⟨hw, hE, hR2⟩ := lw_two (r2 := w1 647 8) (W2 := wu w1 647 8 0) (r1 := v1) (T2 := T) hR (by rw [hw1]; exact wipeW_M) hi_wipe (fun q => ⟨(wipe_R q).1.trans hv1.symm, RR_l hw1 (wipe_R q).2⟩)
  refine g_aload_n h 1 dL_law_893 rfl ?_
  refine lw_call (k := 647) (ci := 8) (C := RX8) (As := []) (st := [.int v1]) h hX (tX8_wipe (xl X) G F w1 iw1  ) rfl ⟨by decide, ob_21 rfl⟩ rfl miX8_wipe tw_1009 (by decide) (by decide) rfl (Nat.le_of_ble_eq_true rfl) hc hs dL_law_894 (fun v2 w2 hv2 hw2 iw2 => ?_)
  exact g_icmp_eq (tgt := 987) h dL_law_897 (by decide) (fun _ => kk w2 iw2 (RR_2 hw2 (hR2.le (by omega)))) (fun c => absurd (hv2.trans hE).symm c)
theorem lw_c22 (h : Cx X G F 4 code "FibreLoopsLaw" ret) (hX : xR X = room_1) (hS : va_X b L sc (xs X) (xs X).heap) (hb : b < F) (hi : i + 6 ≤ L) (hL : L ≤ 3072) (hI : Inv ω) (hR : RR ω ω T) (hT : T < 5000000) (hc : cells ≤ 600000) (hs : slots ≤ 7302250) (kk : ∀ ω2, Inv ω2 → RR ω2 ω2 (T + 5600) → Vg X Q G F 4 NC (cel F G ω2) cells slots 987 (LC F b i) []) : Vg X Q G F 4 NC (cel F G ω) cells slots 902 (LC F b i) [] := by
  refine g_aload_n h 2 dL_law_902 rfl ?_
  refine lw_call (k := 0) (ci := 7) (C := RX7) (As := []) (st := []) h hX (tX7_fault (xl X) G F ω hI ) rfl ⟨by decide, ob_12 rfl⟩ rfl miX7_fault tw_616 (by decide) (by decide) rfl (Nat.le_of_ble_eq_true rfl) hc hs dL_law_903 (fun v1 w1 hv1 hw1 iw1 => ?_)
  obtain ⟨hw, hE, hR2⟩ := lw_two (r2 := m_ftR w1) (W2 := m_ft w1) (r1 := v1) (T2 := T) hR (by rw [hw1]; exact ffW_M) hi_ft (fun q => ⟨(fault_R q).1.trans hv1.symm, RR_l hw1 (fault_R q).2⟩)
  refine g_aload_n h 1 dL_law_906 rfl ?_
  refine lw_call (k := 647) (ci := 8) (C := RX8) (As := []) (st := [.int v1]) h hX (tX8_fault (xl X) G F w1 iw1  (hp := hw.pd)) rfl ⟨by decide, ob_21 rfl⟩ rfl miX8_fault tw_1013 (by decide) (by decide) rfl (Nat.le_of_ble_eq_true rfl) hc hs dL_law_907 (fun v2 w2 hv2 hw2 iw2 => ?_)
  exact g_icmp_eq (tgt := 987) h dL_law_910 (by decide) (fun _ => kk w2 iw2 (RR_2 hw2 (hR2.le (by omega)))) (fun c => absurd (hv2.trans hE).symm c)
theorem lw_c23 (h : Cx X G F 4 code "FibreLoopsLaw" ret) (hX : xR X = room_1) (hS : va_X b L sc (xs X) (xs X).heap) (hb : b < F) (hi : i + 6 ≤ L) (hL : L ≤ 3072) (hI : Inv ω) (hR : RR ω ω T) (hT : T < 5000000) (hc : cells ≤ 600000) (hs : slots ≤ 7302250) (kk : ∀ ω2, Inv ω2 → RR ω2 ω2 (T + 5600) → Vg X Q G F 4 NC (cel F G ω2) cells slots 987 (LC F b i) []) : Vg X Q G F 4 NC (cel F G ω) cells slots 915 (LC F b i) [] := by
  refine g_aload_n h 2 dL_law_915 rfl ?_
  refine lw_call (k := 0) (ci := 7) (C := RX7) (As := []) (st := []) h hX (tX7_carryOut (xl X) G F ω hI ) rfl ⟨by decide, ob_12 rfl⟩ rfl miX7_carryOut tw_661 (by decide) (by decide) rfl (Nat.le_of_ble_eq_true rfl) hc hs dL_law_916 (fun v1 w1 hv1 hw1 iw1 => ?_)
  obtain ⟨hw, hE, hR2⟩ := lw_two (r2 := m_carryR w1) (W2 := m_carryW w1) (r1 := v1) (T2 := T + 5600) hR (by rw [hw1]; exact (carry_R hR (by omega)).2) hi_carry (fun q => ⟨((carry_R q (by omega)).1).1.trans hv1.symm, RR_l hw1 ((carry_R q (by omega)).1).2⟩)
  refine g_aload_n h 1 dL_law_919 rfl ?_
  refine lw_call (k := 647) (ci := 8) (C := RX8) (As := []) (st := [.int v1]) h hX (tX8_carryOut (xl X) G F w1 iw1  (hW := hw.w) (hK := hw.mk) (hp := hw.pd)) rfl ⟨by decide, ob_21 rfl⟩ rfl miX8_carryOut tw_1037 (by decide) (by decide) rfl (Nat.le_of_ble_eq_true rfl) hc hs dL_law_920 (fun v2 w2 hv2 hw2 iw2 => ?_)
  exact g_icmp_eq (tgt := 987) h dL_law_923 (by decide) (fun _ => kk w2 iw2 (RR_2 hw2 (hR2.le (by omega)))) (fun c => absurd (hv2.trans hE).symm c)
theorem lw_c24 (h : Cx X G F 4 code "FibreLoopsLaw" ret) (hX : xR X = room_1) (hS : va_X b L sc (xs X) (xs X).heap) (hb : b < F) (hi : i + 6 ≤ L) (hL : L ≤ 3072) (hI : Inv ω) (hR : RR ω ω T) (hT : T < 5000000) (hc : cells ≤ 600000) (hs : slots ≤ 7302250) (kk : ∀ ω2, Inv ω2 → RR ω2 ω2 (T + 5600) → Vg X Q G F 4 NC (cel F G ω2) cells slots 987 (LC F b i) []) : Vg X Q G F 4 NC (cel F G ω) cells slots 928 (LC F b i) [] := by
  refine g_aload_n h 2 dL_law_928 rfl ?_
  refine lw_call (k := 0) (ci := 7) (C := RX7) (As := []) (st := []) h hX (tX7_undo (xl X) G F ω hI ) rfl ⟨by decide, ob_12 rfl⟩ rfl miX7_undo tw_682 (by decide) (by decide) rfl (Nat.le_of_ble_eq_true rfl) hc hs dL_law_929 (fun v1 w1 hv1 hw1 iw1 => ?_)
  obtain ⟨hw, hE, hR2⟩ := two (m2 := m_undo w1) (r1 := v1) (T2 := T) hR (by rw [hw1]; exact undoW_M hI) hi_undo (fun q => ⟨(undo_R q).1.trans hv1.symm, RR_l hw1 (undo_R q).2⟩)
  refine g_aload_n h 1 dL_law_932 rfl ?_
  refine lw_call (k := 647) (ci := 8) (C := RX8) (As := []) (st := [.int v1]) h hX (tX8_undo (xl X) G F w1 iw1  (hK := hw.mk)) rfl ⟨by decide, ob_21 rfl⟩ rfl miX8_undo tw_1050 (by decide) (by decide) rfl (Nat.le_of_ble_eq_true rfl) hc hs dL_law_933 (fun v2 w2 hv2 hw2 iw2 => ?_)
  exact g_icmp_eq (tgt := 987) h dL_law_936 (by decide) (fun _ => kk w2 iw2 (RR_2 hw2 (hR2.le (by omega)))) (fun c => absurd (hv2.trans hE).symm c)
theorem lw_c25 (h : Cx X G F 4 code "FibreLoopsLaw" ret) (hX : xR X = room_1) (hS : va_X b L sc (xs X) (xs X).heap) (hb : b < F) (hi : i + 6 ≤ L) (hL : L ≤ 3072) (hI : Inv ω) (hR : RR ω ω T) (hT : T < 5000000) (hc : cells ≤ 600000) (hs : slots ≤ 7302250) (kk : ∀ ω2, Inv ω2 → RR ω2 ω2 (T + 5600) → Vg X Q G F 4 NC (cel F G ω2) cells slots 987 (LC F b i) []) : Vg X Q G F 4 NC (cel F G ω) cells slots 941 (LC F b i) [] := by
  refine g_aload_n h 2 dL_law_941 rfl ?_
  refine lw_arg h hS hb 1 (by omega) hL (by decide) dL_law_942 dL_law_943 dL_law_944 dL_law_945 dL_law_946 ?_
  refine lw_call (k := 0) (ci := 7) (C := RX7) (As := [.int (sc (i + 1))]) (st := []) h hX (tX7_save (xl X) G F ω hI (sc (i + 1))) rfl ⟨by decide, ob_12 rfl⟩ rfl miX7_save tw_690 (by decide) (by decide) rfl (Nat.le_of_ble_eq_true rfl) hc hs dL_law_947 (fun v1 w1 hv1 hw1 iw1 => ?_)
  obtain ⟨hw, hE, hR2⟩ := two (m2 := m_save w1 (sc (i + 1))) (r1 := v1) (T2 := T) hR (by rw [hw1]; exact saveW_M hI) hi_save (fun q => ⟨(save_R q).1.trans hv1.symm, RR_l hw1 (save_R q).2⟩)
  refine g_aload_n h 1 dL_law_950 rfl ?_
  refine lw_arg h hS hb 1 (by omega) hL (by decide) dL_law_951 dL_law_952 dL_law_953 dL_law_954 dL_law_955 ?_
  refine lw_call (k := 647) (ci := 8) (C := RX8) (As := [.int (sc (i + 1))]) (st := [.int v1]) h hX (tX8_save (xl X) G F w1 iw1 (sc (i + 1)) ) rfl ⟨by decide, ob_21 rfl⟩ rfl miX8_save tw_1054 (by decide) (by decide) rfl (Nat.le_of_ble_eq_true rfl) hc hs dL_law_956 (fun v2 w2 hv2 hw2 iw2 => ?_)
  exact g_icmp_eq (tgt := 987) h dL_law_959 (by decide) (fun _ => kk w2 iw2 (RR_2 hw2 (hR2.le (by omega)))) (fun c => absurd (hv2.trans hE).symm c)
theorem lw_c26 (h : Cx X G F 4 code "FibreLoopsLaw" ret) (hX : xR X = room_1) (hS : va_X b L sc (xs X) (xs X).heap) (hb : b < F) (hi : i + 6 ≤ L) (hL : L ≤ 3072) (hI : Inv ω) (hR : RR ω ω T) (hT : T < 5000000) (hc : cells ≤ 600000) (hs : slots ≤ 7302250) (kk : ∀ ω2, Inv ω2 → RR ω2 ω2 (T + 5600) → Vg X Q G F 4 NC (cel F G ω2) cells slots 987 (LC F b i) []) : Vg X Q G F 4 NC (cel F G ω) cells slots 964 (LC F b i) [] := by
  refine g_aload_n h 2 dL_law_964 rfl ?_
  refine lw_arg h hS hb 1 (by omega) hL (by decide) dL_law_965 dL_law_966 dL_law_967 dL_law_968 dL_law_969 ?_
  refine lw_call (k := 0) (ci := 7) (C := RX7) (As := [.int (sc (i + 1))]) (st := []) h hX (tX7_restore (xl X) G F ω hI (sc (i + 1))) rfl ⟨by decide, ob_12 rfl⟩ rfl miX7_restore tw_698 (by decide) (by decide) rfl (Nat.le_of_ble_eq_true rfl) hc hs dL_law_970 (fun v1 w1 hv1 hw1 iw1 => ?_)
  obtain ⟨hw, hE, hR2⟩ := two (m2 := m_rest w1 (sc (i + 1))) (r1 := v1) (T2 := T + 5600) hR (by rw [hw1]; exact restW_M hR hI) hi_rest (fun q => ⟨(restore_R q (by omega)).1.trans hv1.symm, RR_l hw1 (restore_R q (by omega)).2⟩)
  refine g_aload_n h 1 dL_law_973 rfl ?_
  refine lw_arg h hS hb 1 (by omega) hL (by decide) dL_law_974 dL_law_975 dL_law_976 dL_law_977 dL_law_978 ?_
  refine lw_call (k := 647) (ci := 8) (C := RX8) (As := [.int (sc (i + 1))]) (st := [.int v1]) h hX (tX8_restore (xl X) G F w1 iw1 (sc (i + 1)) (hK := hw.mk)) rfl ⟨by decide, ob_21 rfl⟩ rfl miX8_restore tw_1058 (by decide) (by decide) rfl (Nat.le_of_ble_eq_true rfl) hc hs dL_law_979 (fun v2 w2 hv2 hw2 iw2 => ?_)
  exact g_icmp_eq (tgt := 987) h dL_law_982 (by decide) (fun _ => kk w2 iw2 (RR_2 hw2 (hR2.le (by omega)))) (fun c => absurd (hv2.trans hE).symm c)

theorem lw_step (h : Cx X G F 4 code "FibreLoopsLaw" ret) (hX : xR X = room_1) (hS : va_X b L sc (xs X) (xs X).heap) (hb : b < F) (hi : i + 6 ≤ L) (hL : L ≤ 3072) (hI : Inv ω) (hR : RR ω ω T) (hT : T < 5000000) (hc : cells ≤ 600000) (hs : slots ≤ 7302250) (kk : ∀ ω2, Inv ω2 → RR ω2 ω2 (T + 5600) → Vg X Q G F 4 NC (cel F G ω2) cells slots 987 (LC F b i) []) : Vg X Q G F 4 NC (cel F G ω) cells slots 27 (LC F b i) [] := by
  refine g_aload_n h 3 dL_law_27 rfl ?_
  refine g_iload_n h 0 dL_law_28 rfl ?_
  refine lw_sld h hS hb (by omega) hL dL_law_29 ?_
  refine g_bipush (v := 31) h dL_law_30 (by decide) ?_
  refine g_iand h dL_law_32 ?_
  generalize (sc i &&& 31 : Int32) = x
  by_cases hx : x.toInt < 0 ∨ 26 < x.toInt
  · exact g_tableOut (tgt := 987) h dL_law_33 hx (by decide) (kk ω hI (hR.le (by omega)))
  · have e : ∃ k : Nat, k ≤ 26 ∧ x = nI k := nI_of2 (M := 26) (n := 26) rfl (fun q => hx (Or.inl (Int32.lt_iff_toInt_lt.mp q))) (Int32.le_iff_toInt_le.mpr (by have : (26 : Int32).toInt = 26 := rfl; omega))
    obtain ⟨k, hk, rfl⟩ := e
    match k, hk with
    | 0, _ => exact g_tableIn (off := 123) (tgt := 156) h dL_law_33 (by decide) (by decide) rfl (by decide) (lw_c0 h hX hS hb hi hL hI hR hT hc hs kk)
    | 1, _ => exact g_tableIn (off := 156) (tgt := 189) h dL_law_33 (by decide) (by decide) rfl (by decide) (lw_c1 h hX hS hb hi hL hI hR hT hc hs kk)
    | 2, _ => exact g_tableIn (off := 179) (tgt := 212) h dL_law_33 (by decide) (by decide) rfl (by decide) (lw_c2 h hX hS hb hi hL hI hR hT hc hs kk)
    | 3, _ => exact g_tableIn (off := 242) (tgt := 275) h dL_law_33 (by decide) (by decide) rfl (by decide) (lw_c3 h hX hS hb hi hL hI hR hT hc hs kk)
    | 4, _ => exact g_tableIn (off := 295) (tgt := 328) h dL_law_33 (by decide) (by decide) rfl (by decide) (lw_c4 h hX hS hb hi hL hI hR hT hc hs kk)
    | 5, _ => exact g_tableIn (off := 328) (tgt := 361) h dL_law_33 (by decide) (by decide) rfl (by decide) (lw_c5 h hX hS hb hi hL hI hR hT hc hs kk)
    | 6, _ => exact g_tableIn (off := 361) (tgt := 394) h dL_law_33 (by decide) (by decide) rfl (by decide) (lw_c6 h hX hS hb hi hL hI hR hT hc hs kk)
    | 7, _ => exact g_tableIn (off := 404) (tgt := 437) h dL_law_33 (by decide) (by decide) rfl (by decide) (lw_c7 h hX hS hb hi hL hI hR hT hc hs kk)
    | 8, _ => exact g_tableIn (off := 427) (tgt := 460) h dL_law_33 (by decide) (by decide) rfl (by decide) (lw_c8 h hX hS hb hi hL hI hR hT hc hs kk)
    | 9, _ => exact g_tableIn (off := 470) (tgt := 503) h dL_law_33 (by decide) (by decide) rfl (by decide) (lw_c9 h hX hS hb hi hL hI hR hT hc hs kk)
    | 10, _ => exact g_tableIn (off := 503) (tgt := 536) h dL_law_33 (by decide) (by decide) rfl (by decide) (lw_c10 h hX hS hb hi hL hI hR hT hc hs kk)
    | 11, _ => exact g_tableIn (off := 536) (tgt := 569) h dL_law_33 (by decide) (by decide) rfl (by decide) (lw_c11 h hX hS hb hi hL hI hR hT hc hs kk)
    | 12, _ => exact g_tableIn (off := 569) (tgt := 602) h dL_law_33 (by decide) (by decide) rfl (by decide) (lw_c12 h hX hS hb hi hL hI hR hT hc hs kk)
    | 13, _ => exact g_tableIn (off := 602) (tgt := 635) h dL_law_33 (by decide) (by decide) rfl (by decide) (lw_c13 h hX hS hb hi hL hI hR hT hc hs kk)
    | 14, _ => exact g_tableIn (off := 635) (tgt := 668) h dL_law_33 (by decide) (by decide) rfl (by decide) (lw_c14 h hX hS hb hi hL hI hR hT hc hs kk)
    | 15, _ => exact g_tableIn (off := 658) (tgt := 691) h dL_law_33 (by decide) (by decide) rfl (by decide) (lw_c15 h hX hS hb hi hL hI hR hT hc hs kk)
    | 16, _ => exact g_tableIn (off := 701) (tgt := 734) h dL_law_33 (by decide) (by decide) rfl (by decide) (lw_c16 h hX hS hb hi hL hI hR hT hc hs kk)
    | 17, _ => exact g_tableIn (off := 724) (tgt := 757) h dL_law_33 (by decide) (by decide) rfl (by decide) (lw_c17 h hX hS hb hi hL hI hR hT hc hs kk)
    | 18, _ => exact g_tableIn (off := 737) (tgt := 770) h dL_law_33 (by decide) (by decide) rfl (by decide) (lw_c18 h hX hS hb hi hL hI hR hT hc hs kk)
    | 19, _ => exact g_tableIn (off := 790) (tgt := 823) h dL_law_33 (by decide) (by decide) rfl (by decide) (lw_c19 h hX hS hb hi hL hI hR hT hc hs kk)
    | 20, _ => exact g_tableIn (off := 803) (tgt := 836) h dL_law_33 (by decide) (by decide) rfl (by decide) (lw_c20 h hX hS hb hi hL hI hR hT hc hs kk)
    | 21, _ => exact g_tableIn (off := 856) (tgt := 889) h dL_law_33 (by decide) (by decide) rfl (by decide) (lw_c21 h hX hS hb hi hL hI hR hT hc hs kk)
    | 22, _ => exact g_tableIn (off := 869) (tgt := 902) h dL_law_33 (by decide) (by decide) rfl (by decide) (lw_c22 h hX hS hb hi hL hI hR hT hc hs kk)
    | 23, _ => exact g_tableIn (off := 882) (tgt := 915) h dL_law_33 (by decide) (by decide) rfl (by decide) (lw_c23 h hX hS hb hi hL hI hR hT hc hs kk)
    | 24, _ => exact g_tableIn (off := 895) (tgt := 928) h dL_law_33 (by decide) (by decide) rfl (by decide) (lw_c24 h hX hS hb hi hL hI hR hT hc hs kk)
    | 25, _ => exact g_tableIn (off := 908) (tgt := 941) h dL_law_33 (by decide) (by decide) rfl (by decide) (lw_c25 h hX hS hb hi hL hI hR hT hc hs kk)
    | 26, _ => exact g_tableIn (off := 931) (tgt := 964) h dL_law_33 (by decide) (by decide) rfl (by decide) (lw_c26 h hX hS hb hi hL hI hR hT hc hs kk)
    | n + 27, hk => exact absurd hk (by omega)
theorem lw_gt {j : Nat} (hL : L ≤ 3072) (hj : 6 * j ≤ 3078) (c : ¬ nI L - 6 < nI (6 * j)) : 6 * j + 6 ≤ L := by
  by_cases z : L < 6
  · exfalso
    apply c
    have e : ∀ a, a < 6 → (nI a - 6).toInt < 0 := by decide +kernel
    refine Int32.lt_iff_toInt_lt.mpr ?_
    rw [nI_toInt (by omega)]
    have := e L z
    omega
  · obtain ⟨m, rfl⟩ : ∃ m, L = m + 6 := ⟨L - 6, by omega⟩
    have e : nI (m + 6) - 6 = nI m := by
      rw [← nI_add]
      exact Int32.add_sub_cancel _ _
    rw [e] at c
    by_cases q : m < 6 * j
    · exact absurd (nI_lt q (by omega)) c
    · omega
theorem lw_loop (h : Cx X G F 4 code "FibreLoopsLaw" ret) (hX : xR X = room_1) (hS : va_X b L sc (xs X) (xs X).heap) (hb : b < F) (hL : L ≤ 3072) (hc : cells ≤ 600000) (hs : slots ≤ 7302250) (hx : ∀ (ω : fOm) (j : Nat), Vg X Q G F 4 NC (cel F G ω) cells slots 993 (LC F b (6 * j)) []) : ∀ (m j : Nat) (ω : fOm), j + m = 513 → Inv ω → RR ω ω (5600 * j) → Vg X Q G F 4 NC (cel F G ω) cells slots 18 (LC F b (6 * j)) [] := by
  intro m
  induction m with
  | zero =>
    intro j ω hj hI hR
    refine g_iload_n h 0 dL_law_18 rfl ?_
    refine g_aload_n h 3 dL_law_19 rfl ?_
    refine lw_sln h hS hb dL_law_20 ?_
    refine g_bipush (v := 6) h dL_law_21 (by decide) ?_
    refine g_isub h dL_law_23 ?_
    refine g_icmp_gt (tgt := 993) h dL_law_24 (by decide) (fun _ => hx ω j) (fun c => ?_)
    exact absurd (lw_gt hL (by omega) c) (by omega)
  | succ m ih =>
    intro j ω hj hI hR
    refine g_iload_n h 0 dL_law_18 rfl ?_
    refine g_aload_n h 3 dL_law_19 rfl ?_
    refine lw_sln h hS hb dL_law_20 ?_
    refine g_bipush (v := 6) h dL_law_21 (by decide) ?_
    refine g_isub h dL_law_23 ?_
    refine g_icmp_gt (tgt := 993) h dL_law_24 (by decide) (fun _ => hx ω j) (fun c => ?_)
    have hi := lw_gt hL (by omega) c
    refine lw_step h hX hS hb hi hL hI hR (by omega) hc hs (fun ω2 i2 r2 => ?_)
    refine g_iinc (v := nI (6 * (j + 1))) h 0 dL_law_987 rfl (nI_add (6 * j) 6) (by decide) rfl ?_
    refine g_goto (tgt := 18) h dL_law_990 (by decide) ?_
    exact ih (j + 1) ω2 (by omega) i2 r2
end FLW
