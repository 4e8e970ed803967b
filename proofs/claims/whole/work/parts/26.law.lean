theorem ch_L_119 : uCSH RL 119 yL_append cL_append 8 (some .int) [(0, 16, 19, 13)] 7 := ⟨gw_pl [437, 438, 82, 439] (by decide +kernel) (by decide +kernel), by decide +kernel⟩
theorem ch_L_128 : uCSH RL 128 yL_truncate cL_truncate 4 (some .int) [(0, 9, 12, 19)] 3 := ⟨gw_pl [517, 518, 82, 519] (by decide +kernel) (by decide +kernel), by decide +kernel⟩
theorem ch_L_132 : uCSH RL 132 yL_load cL_load 3 (some .int) [(0, 8, 11, 25)] 2 := ⟨gw_pl [541, 542, 82, 543] (by decide +kernel) (by decide +kernel), by decide +kernel⟩
theorem ch_L_144 : uCSH RL 144 yL_report cL_report 4 (some .int) [(0, 9, 12, 25)] 3 := ⟨gw_pl [710, 711, 82, 712] (by decide +kernel) (by decide +kernel), by decide +kernel⟩
theorem ch_L_147 : uCSH RL 147 yL_device cL_device 5 (some .int) [(0, 10, 13, 19), (0, 10, 17, 25)] 4 := ⟨gw_pl [718, 719, 82, 720] (by decide +kernel) (by decide +kernel), by decide +kernel⟩
theorem ch_L_151 : uCSH RL 151 yL_block cL_block 5 (some .int) [(0, 10, 13, 19), (0, 10, 17, 25)] 4 := ⟨gw_pl [745, 746, 82, 747] (by decide +kernel) (by decide +kernel), by decide +kernel⟩
theorem ch_L_154 : uCSH RL 154 yL_find cL_find 5 (some .int) [(0, 10, 13, 19), (0, 10, 17, 40)] 4 := ⟨gw_pl [757, 758, 82, 759] (by decide +kernel) (by decide +kernel), by decide +kernel⟩
theorem ch_L_157 : uCSH RL 157 yL_oldest cL_oldest 3 (some .int) [(0, 8, 11, 40)] 2 := ⟨gw_pl [790, 791, 82, 792] (by decide +kernel) (by decide +kernel), by decide +kernel⟩
theorem ch_L_160 : uCSH RL 160 yL_total cL_total 4 (some .int) [(0, 9, 12, 25)] 3 := ⟨gw_pl [798, 799, 82, 800] (by decide +kernel) (by decide +kernel), by decide +kernel⟩
theorem ch_L_163 : uCSH RL 163 yL_write cL_write 6 (some .int) [(0, 19, 22, 19), (0, 19, 26, 25), (0, 19, 30, 13)] 5 := ⟨gw_pl [806, 807, 82, 808] (by decide +kernel) (by decide +kernel), by decide +kernel⟩
theorem ch_L_167 : uCSH RL 167 yL_wouldCache cL_wouldCache 6 (some .int) [(0, 19, 22, 19), (0, 19, 26, 25), (0, 19, 30, 13)] 5 := ⟨gw_pl [845, 846, 82, 847] (by decide +kernel) (by decide +kernel), by decide +kernel⟩
theorem ch_L_170 : uCSH RL 170 yL_clean cL_clean 4 (some .int) [(0, 9, 12, 19), (0, 9, 15, 13)] 3 := ⟨gw_pl [852, 853, 82, 854] (by decide +kernel) (by decide +kernel), by decide +kernel⟩
theorem ch_L_173 : uCSH RL 173 yL_setFailed cL_setFailed 5 (some .int) [(0, 17, 20, 19)] 4 := ⟨gw_pl [861, 862, 82, 863] (by decide +kernel) (by decide +kernel), by decide +kernel⟩
theorem ch_L_177 : uCSH RL 177 yL_setMode cL_setMode 5 (some .int) [(0, 10, 13, 25)] 4 := ⟨gw_pl [868, 869, 82, 870] (by decide +kernel) (by decide +kernel), by decide +kernel⟩
theorem ch_L_185 : uCSH RL 185 yL_advance cL_advance 4 (some .int) [(0, 9, 12, 25)] 3 := ⟨gw_pl [877, 878, 82, 879] (by decide +kernel) (by decide +kernel), by decide +kernel⟩
theorem ch_L_188 : uCSH RL 188 yL_flush cL_flush 3 (some .int) [(0, 8, 11, 13)] 2 := ⟨gw_pl [903, 904, 82, 905] (by decide +kernel) (by decide +kernel), by decide +kernel⟩
theorem ch_L_191 : uCSH RL 191 yL_flushDevice cL_flushDevice 4 (some .int) [(0, 9, 12, 19), (0, 9, 15, 13)] 3 := ⟨gw_pl [948, 949, 82, 950] (by decide +kernel) (by decide +kernel), by decide +kernel⟩
theorem ch_L_198 : uCSH RL 198 yL_energyOf cL_energyOf 4 (some .int) [(0, 9, 12, 25)] 3 := ⟨gw_pl [956, 957, 82, 958] (by decide +kernel) (by decide +kernel), by decide +kernel⟩
theorem ch_L_201 : uCSH RL 201 yL_valueOf cL_valueOf 4 (some .int) [(0, 9, 12, 25)] 3 := ⟨gw_pl [969, 970, 82, 971] (by decide +kernel) (by decide +kernel), by decide +kernel⟩
theorem ch_L_204 : uCSH RL 204 yL_bestSet cL_bestSet 4 (some .int) [(0, 9, 12, 25)] 3 := ⟨gw_pl [976, 977, 82, 978] (by decide +kernel) (by decide +kernel), by decide +kernel⟩
theorem ch_L_207 : uCSH RL 207 yL_bestValue cL_bestValue 4 (some .int) [(0, 9, 12, 25)] 3 := ⟨gw_pl [988, 989, 82, 990] (by decide +kernel) (by decide +kernel), by decide +kernel⟩
theorem ch_L_210 : uCSH RL 210 yL_greedySet cL_greedySet 4 (some .int) [(0, 9, 12, 25)] 3 := ⟨gw_pl [999, 1000, 82, 1001] (by decide +kernel) (by decide +kernel), by decide +kernel⟩
theorem ch_L_213 : uCSH RL 213 yL_quality cL_quality 4 (some .int) [(0, 8, 11, 25), (0, 8, 14, 40)] 3 := ⟨gw_pl [1014, 1015, 82, 1016] (by decide +kernel) (by decide +kernel), by decide +kernel⟩
theorem ch_L_217 : uCSH RL 217 yL_energyFor cL_energyFor 4 (some .int) [(0, 9, 12, 25), (0, 9, 15, 40)] 3 := ⟨gw_pl [1022, 1023, 82, 1024] (by decide +kernel) (by decide +kernel), by decide +kernel⟩
theorem ch_L_220 : uCSH RL 220 yL_extra cL_extra 4 (some .int) [(0, 9, 12, 19), (0, 9, 15, 13)] 3 := ⟨gw_pl [1034, 1035, 82, 1036] (by decide +kernel) (by decide +kernel), by decide +kernel⟩
theorem ch_L_227 : uCSH RL 227 yL_valueAfter cL_valueAfter 4 (some .int) [(0, 9, 12, 25)] 3 := ⟨gw_pl [1042, 1043, 82, 1044] (by decide +kernel) (by decide +kernel), by decide +kernel⟩
theorem ch_L_234 : uCSH RL 234 yL_gainOfRepair cL_gainOfRepair 4 (some .int) [(0, 9, 12, 19)] 3 := ⟨gw_pl [1049, 1050, 82, 1051] (by decide +kernel) (by decide +kernel), by decide +kernel⟩
theorem ch_L_237 : uCSH RL 237 yL_costliest cL_costliest 3 (some .int) [(0, 8, 11, 40)] 2 := ⟨gw_pl [1056, 1057, 82, 1058] (by decide +kernel) (by decide +kernel), by decide +kernel⟩
theorem ch_L_240 : uCSH RL 240 yL_save cL_save 3 (some .int) [(0, 5, 8, 19)] 2 := ⟨gw_pl [1064, 1065, 82, 1066] (by decide +kernel) (by decide +kernel), by decide +kernel⟩
theorem ch_L_244 : uCSH RL 244 yL_restore cL_restore 3 (some .int) [(0, 5, 8, 19), (0, 5, 11, 40)] 2 := ⟨gw_pl [1076, 1077, 82, 1078] (by decide +kernel) (by decide +kernel), by decide +kernel⟩
theorem lc_0 {M : uM} {D : va_G} {base : Nat} {cB cI cJ cZ cD cO : ClassId} {sK sV : Nat → Nat} {b L : Nat} {xs : Nat → Int32} {Q : State → Prop} (C : uCx M (vJ D base cB cI cJ cZ cD cO sK sV) cL_law 9 RL 15 560 601024 7293034) (hX : va_X b L xs (mS M) (mS M).heap) (hbl : b < (mS M).heap.size) (hbb : ¬ base ≤ b) (hL : L ≤ 3072) {i : Nat} (hi : i + 6 ≤ L) {x1 : Int32} (e1 : xs (i + 1) = x1) {x2 : Int32} (e2 : xs (i + 2) = x2) {x3 : Int32} (e3 : xs (i + 3) = x3) {x4 : Int32} (e4 : xs (i + 4) = x4) {x5 : Int32} (e5 : xs (i + 5) = x5) {cells slots : Nat} (hc : cells + 8 ≤ 601024) (hs : slots + 60 ≤ 7293034) {a c : uSt} {R : uSt → uSt → Prop} (h : cKI (fL_append x1 x2 x3 x4 x5) (fX8_append x1 x2 x3 x4 x5) R a c) (K : ∀ a1 c1, R a1 c1 → uW M (vJ D base cB cI cJ cZ cD cO sK sV) Q 9 (cells + 8) (slots + 60) 2116 [(5, .int (nI i)), (4, .ref (vA (vC D base cB cI cJ cZ cD cO sK sV) 72)), (3, .ref (vA (vC D base cB cI cJ cZ cD cO sK sV) 71)), (2, .ref (vA (vM D (base + 71) cI cJ cZ (jB base) sK sV) 0)), (1, .ref (vA (vC D base cB cI cJ cZ cD cO sK sV) 0)), (0, .ref b)] [] (jS a1 c1)) : uW M (vJ D base cB cI cJ cZ cD cO sK sV) Q 9 cells slots 204 [(5, .int (nI i)), (4, .ref (vA (vC D base cB cI cJ cZ cD cO sK sV) 72)), (3, .ref (vA (vC D base cB cI cJ cZ cD cO sK sV) 71)), (2, .ref (vA (vM D (base + 71) cI cJ cZ (jB base) sK sV) 0)), (1, .ref (vA (vC D base cB cI cJ cZ cD cO sK sV) 0)), (0, .ref b)] [] (jS a c) := by
  obtain ⟨k, a1, r, c1, hF, hG, hT, hO, hP⟩ := h
  refine ux_aload_n C dL_law_204 4 rfl ?_
  refine ux_aload_n C dL_law_205 5 rfl ?_
  refine ux_iload C dL_law_206 0 rfl ?_
  refine ux_iconst C dL_law_208 rfl ?_
  refine ux_iadd C dL_law_209 ?_
  refine jx_sld C hX hbl hbb (jin (k := 1) (xs := xs) rfl (by omega) hL).1 ((jin (k := 1) (xs := xs) rfl (by omega) hL).2.trans e1) dL_law_210 ?_
  refine ux_aload_n C dL_law_211 5 rfl ?_
  refine ux_iload C dL_law_212 0 rfl ?_
  refine ux_iconst C dL_law_214 rfl ?_
  refine ux_iadd C dL_law_215 ?_
  refine jx_sld C hX hbl hbb (jin (k := 2) (xs := xs) rfl (by omega) hL).1 ((jin (k := 2) (xs := xs) rfl (by omega) hL).2.trans e2) dL_law_216 ?_
  refine ux_aload_n C dL_law_217 5 rfl ?_
  refine ux_iload C dL_law_218 0 rfl ?_
  refine ux_iconst C dL_law_220 rfl ?_
  refine ux_iadd C dL_law_221 ?_
  refine jx_sld C hX hbl hbb (jin (k := 3) (xs := xs) rfl (by omega) hL).1 ((jin (k := 3) (xs := xs) rfl (by omega) hL).2.trans e3) dL_law_222 ?_
  refine ux_aload_n C dL_law_223 5 rfl ?_
  refine ux_iload C dL_law_224 0 rfl ?_
  refine ux_iconst C dL_law_226 rfl ?_
  refine ux_iadd C dL_law_227 ?_
  refine jx_sld C hX hbl hbb (jin (k := 4) (xs := xs) rfl (by omega) hL).1 ((jin (k := 4) (xs := xs) rfl (by omega) hL).2.trans e4) dL_law_228 ?_
  refine ux_aload_n C dL_law_229 5 rfl ?_
  refine ux_iload C dL_law_230 0 rfl ?_
  refine ux_iconst C dL_law_232 rfl ?_
  refine ux_iadd C dL_law_233 ?_
  refine jx_sld C hX hbl hbb (jin (k := 5) (xs := xs) rfl (by omega) hL).1 ((jin (k := 5) (xs := xs) rfl (by omega) hL).2.trans e5) dL_law_234 ?_
  refine ux_aload_n C dL_law_235 2 rfl ?_
  refine jx_callH C jSub_C (jGo_C a c a1) ch_L_119 dL_law_236 (kL_append (vC_ok C.traces) hF) rfl (Nat.le_of_ble_eq_true rfl) ⟨(Nat.le_of_ble_eq_true rfl), (Nat.le_of_ble_eq_true rfl)⟩ ⟨by omega, by omega⟩ ?_ rfl
  refine jx_istore C dL_law_239 rfl (Nat.le_of_ble_eq_true rfl) ?_
  refine ux_aload_n C dL_law_241 4 rfl ?_
  refine ux_aload_n C dL_law_242 6 rfl ?_
  refine ux_iload C dL_law_243 1 rfl ?_
  refine ux_iconst C dL_law_245 rfl ?_
  refine ux_iadd C dL_law_246 ?_
  refine jx_sld C hX hbl hbb (jin (k := 1) (xs := xs) rfl (by omega) hL).1 ((jin (k := 1) (xs := xs) rfl (by omega) hL).2.trans e1) dL_law_247 ?_
  refine ux_aload_n C dL_law_248 6 rfl ?_
  refine ux_iload C dL_law_249 1 rfl ?_
  refine ux_iconst C dL_law_251 rfl ?_
  refine ux_iadd C dL_law_252 ?_
  refine jx_sld C hX hbl hbb (jin (k := 2) (xs := xs) rfl (by omega) hL).1 ((jin (k := 2) (xs := xs) rfl (by omega) hL).2.trans e2) dL_law_253 ?_
  refine ux_aload_n C dL_law_254 6 rfl ?_
  refine ux_iload C dL_law_255 1 rfl ?_
  refine ux_iconst C dL_law_257 rfl ?_
  refine ux_iadd C dL_law_258 ?_
  refine jx_sld C hX hbl hbb (jin (k := 3) (xs := xs) rfl (by omega) hL).1 ((jin (k := 3) (xs := xs) rfl (by omega) hL).2.trans e3) dL_law_259 ?_
  refine ux_aload_n C dL_law_260 6 rfl ?_
  refine ux_iload C dL_law_261 1 rfl ?_
  refine ux_iconst C dL_law_263 rfl ?_
  refine ux_iadd C dL_law_264 ?_
  refine jx_sld C hX hbl hbb (jin (k := 4) (xs := xs) rfl (by omega) hL).1 ((jin (k := 4) (xs := xs) rfl (by omega) hL).2.trans e4) dL_law_265 ?_
  refine ux_aload_n C dL_law_266 6 rfl ?_
  refine ux_iload C dL_law_267 1 rfl ?_
  refine ux_iconst C dL_law_269 rfl ?_
  refine ux_iadd C dL_law_270 ?_
  refine jx_sld C hX hbl hbb (jin (k := 5) (xs := xs) rfl (by omega) hL).1 ((jin (k := 5) (xs := xs) rfl (by omega) hL).2.trans e5) dL_law_271 ?_
  refine jx_callV (As := [.int x1, .int x2, .int x3, .int x4, .int x5]) C jSub_M (jGo_M a1 c c1) cv_L_124 dL_law_272 (oM (vMj_ok C.traces)) rfl (kX8_append (vMj_ok C.traces) hG) rfl (Nat.le_of_ble_eq_true rfl) ⟨(Nat.le_of_ble_eq_true rfl), (Nat.le_of_ble_eq_true rfl)⟩ ⟨by omega, by omega⟩ ?_ rfl
  refine jx_istore C dL_law_275 rfl (Nat.le_of_ble_eq_true rfl) ?_
  refine ux_aload_n C dL_law_277 5 rfl ?_
  refine jx_callV (As := []) C jSub_M (jGo_M a1 c1 c1) cv_L_125 dL_law_278 (oM (vMj_ok C.traces)) rfl (kX8_thrown (vMj_ok C.traces) (r := c1.1 0 0) rfl) rfl (Nat.le_of_ble_eq_true rfl) ⟨(Nat.le_of_ble_eq_true rfl), (Nat.le_of_ble_eq_true rfl)⟩ ⟨by omega, by omega⟩ ?_ rfl
  refine ux_iload C dL_law_281 1 rfl ?_
  refine jx_same C dL_law_283 hT ?_
  refine ux_iload C dL_law_288 1 rfl ?_
  by_cases zk : k = 0
  · refine jx_ifne_f C dL_law_290 zk ?_
    refine ux_aload_n C dL_law_293 4 rfl ?_
    refine ux_iconst C dL_law_294 rfl ?_
    refine ux_laldK (j := 0) C jOut dL_law_295 (by decide) (by decide) ?_
    refine ux_iload C dL_law_296 0 rfl ?_
    refine ux_i2l C dL_law_298 ?_
    refine ux_lcmp C dL_law_299 ?_
    refine jx_ifeq_t C dL_law_300 (lg_same (hO zk)) ?_
    refine ux_goto C dL_law_305 ?_
    refine ux_sub [2, 3, 4, 5, 6, 7] rfl ?_
    refine ux_widen (k := cells + 8) (n := slots + 60) (by omega) (by omega) ?_
    exact K _ _ hP
  · refine jx_ifne_t C dL_law_290 zk ?_
    refine ux_goto C dL_law_305 ?_
    refine ux_sub [2, 3, 4, 5, 6, 7] rfl ?_
    refine ux_widen (k := cells + 8) (n := slots + 60) (by omega) (by omega) ?_
    exact K _ _ hP
theorem lc_1 {M : uM} {D : va_G} {base : Nat} {cB cI cJ cZ cD cO : ClassId} {sK sV : Nat → Nat} {b L : Nat} {xs : Nat → Int32} {Q : State → Prop} (C : uCx M (vJ D base cB cI cJ cZ cD cO sK sV) cL_law 9 RL 15 560 601024 7293034) (hX : va_X b L xs (mS M) (mS M).heap) (hbl : b < (mS M).heap.size) (hbb : ¬ base ≤ b) (hL : L ≤ 3072) {i : Nat} (hi : i + 6 ≤ L) {x1 : Int32} (e1 : xs (i + 1) = x1) {cells slots : Nat} (hc : cells + 8 ≤ 601024) (hs : slots + 60 ≤ 7293034) {a c : uSt} {R : uSt → uSt → Prop} (h : cKI (fL_truncate x1) (fX8_truncate x1) R a c) (K : ∀ a1 c1, R a1 c1 → uW M (vJ D base cB cI cJ cZ cD cO sK sV) Q 9 (cells + 8) (slots + 60) 2116 [(5, .int (nI i)), (4, .ref (vA (vC D base cB cI cJ cZ cD cO sK sV) 72)), (3, .ref (vA (vC D base cB cI cJ cZ cD cO sK sV) 71)), (2, .ref (vA (vM D (base + 71) cI cJ cZ (jB base) sK sV) 0)), (1, .ref (vA (vC D base cB cI cJ cZ cD cO sK sV) 0)), (0, .ref b)] [] (jS a1 c1)) : uW M (vJ D base cB cI cJ cZ cD cO sK sV) Q 9 cells slots 308 [(5, .int (nI i)), (4, .ref (vA (vC D base cB cI cJ cZ cD cO sK sV) 72)), (3, .ref (vA (vC D base cB cI cJ cZ cD cO sK sV) 71)), (2, .ref (vA (vM D (base + 71) cI cJ cZ (jB base) sK sV) 0)), (1, .ref (vA (vC D base cB cI cJ cZ cD cO sK sV) 0)), (0, .ref b)] [] (jS a c) := by
  obtain ⟨k, a1, r, c1, hF, hG, hT, hO, hP⟩ := h
  refine ux_aload_n C dL_law_308 4 rfl ?_
  refine ux_aload_n C dL_law_309 5 rfl ?_
  refine ux_iload C dL_law_310 0 rfl ?_
  refine ux_iconst C dL_law_312 rfl ?_
  refine ux_iadd C dL_law_313 ?_
  refine jx_sld C hX hbl hbb (jin (k := 1) (xs := xs) rfl (by omega) hL).1 ((jin (k := 1) (xs := xs) rfl (by omega) hL).2.trans e1) dL_law_314 ?_
  refine ux_aload_n C dL_law_315 2 rfl ?_
  refine jx_callH C jSub_C (jGo_C a c a1) ch_L_128 dL_law_316 (kL_truncate (vC_ok C.traces) hF) rfl (Nat.le_of_ble_eq_true rfl) ⟨(Nat.le_of_ble_eq_true rfl), (Nat.le_of_ble_eq_true rfl)⟩ ⟨by omega, by omega⟩ ?_ rfl
  refine jx_istore C dL_law_319 rfl (Nat.le_of_ble_eq_true rfl) ?_
  refine ux_aload_n C dL_law_321 4 rfl ?_
  refine ux_aload_n C dL_law_322 6 rfl ?_
  refine ux_iload C dL_law_323 1 rfl ?_
  refine ux_iconst C dL_law_325 rfl ?_
  refine ux_iadd C dL_law_326 ?_
  refine jx_sld C hX hbl hbb (jin (k := 1) (xs := xs) rfl (by omega) hL).1 ((jin (k := 1) (xs := xs) rfl (by omega) hL).2.trans e1) dL_law_327 ?_
  refine jx_callV (As := [.int x1]) C jSub_M (jGo_M a1 c c1) cv_L_131 dL_law_328 (oM (vMj_ok C.traces)) rfl (kX8_truncate (vMj_ok C.traces) hG) rfl (Nat.le_of_ble_eq_true rfl) ⟨(Nat.le_of_ble_eq_true rfl), (Nat.le_of_ble_eq_true rfl)⟩ ⟨by omega, by omega⟩ ?_ rfl
  refine jx_istore C dL_law_331 rfl (Nat.le_of_ble_eq_true rfl) ?_
  refine ux_aload_n C dL_law_333 5 rfl ?_
  refine jx_callV (As := []) C jSub_M (jGo_M a1 c1 c1) cv_L_125 dL_law_334 (oM (vMj_ok C.traces)) rfl (kX8_thrown (vMj_ok C.traces) (r := c1.1 0 0) rfl) rfl (Nat.le_of_ble_eq_true rfl) ⟨(Nat.le_of_ble_eq_true rfl), (Nat.le_of_ble_eq_true rfl)⟩ ⟨by omega, by omega⟩ ?_ rfl
  refine ux_iload C dL_law_337 1 rfl ?_
  refine jx_same C dL_law_339 hT ?_
  refine ux_iload C dL_law_344 1 rfl ?_
  by_cases zk : k = 0
  · refine jx_ifne_f C dL_law_346 zk ?_
    refine ux_aload_n C dL_law_349 4 rfl ?_
    refine ux_iconst C dL_law_350 rfl ?_
    refine ux_laldK (j := 0) C jOut dL_law_351 (by decide) (by decide) ?_
    refine ux_iload C dL_law_352 0 rfl ?_
    refine ux_i2l C dL_law_354 ?_
    refine ux_lcmp C dL_law_355 ?_
    refine jx_ifeq_t C dL_law_356 (lg_same (hO zk)) ?_
    refine ux_goto C dL_law_361 ?_
    refine ux_sub [2, 3, 4, 5, 6, 7] rfl ?_
    refine ux_widen (k := cells + 8) (n := slots + 60) (by omega) (by omega) ?_
    exact K _ _ hP
  · refine jx_ifne_t C dL_law_346 zk ?_
    refine ux_goto C dL_law_361 ?_
    refine ux_sub [2, 3, 4, 5, 6, 7] rfl ?_
    refine ux_widen (k := cells + 8) (n := slots + 60) (by omega) (by omega) ?_
    exact K _ _ hP
theorem lc_2 {M : uM} {D : va_G} {base : Nat} {cB cI cJ cZ cD cO : ClassId} {sK sV : Nat → Nat} {b L : Nat} {xs : Nat → Int32} {Q : State → Prop} (C : uCx M (vJ D base cB cI cJ cZ cD cO sK sV) cL_law 9 RL 15 560 601024 7293034) (hX : va_X b L xs (mS M) (mS M).heap) (hbl : b < (mS M).heap.size) (hbb : ¬ base ≤ b) (hL : L ≤ 3072) {i : Nat} (hi : i + 6 ≤ L) {cells slots : Nat} (hc : cells + 8 ≤ 601024) (hs : slots + 60 ≤ 7293034) {a c : uSt} {R : uSt → uSt → Prop} (h : cKI (fL_load) (fX8_load) R a c) (K : ∀ a1 c1, R a1 c1 → uW M (vJ D base cB cI cJ cZ cD cO sK sV) Q 9 (cells + 8) (slots + 60) 2116 [(5, .int (nI i)), (4, .ref (vA (vC D base cB cI cJ cZ cD cO sK sV) 72)), (3, .ref (vA (vC D base cB cI cJ cZ cD cO sK sV) 71)), (2, .ref (vA (vM D (base + 71) cI cJ cZ (jB base) sK sV) 0)), (1, .ref (vA (vC D base cB cI cJ cZ cD cO sK sV) 0)), (0, .ref b)] [] (jS a1 c1)) : uW M (vJ D base cB cI cJ cZ cD cO sK sV) Q 9 cells slots 364 [(5, .int (nI i)), (4, .ref (vA (vC D base cB cI cJ cZ cD cO sK sV) 72)), (3, .ref (vA (vC D base cB cI cJ cZ cD cO sK sV) 71)), (2, .ref (vA (vM D (base + 71) cI cJ cZ (jB base) sK sV) 0)), (1, .ref (vA (vC D base cB cI cJ cZ cD cO sK sV) 0)), (0, .ref b)] [] (jS a c) := by
  obtain ⟨k, a1, r, c1, hF, hG, hT, hO, hP⟩ := h
  refine ux_aload_n C dL_law_364 4 rfl ?_
  refine ux_aload_n C dL_law_365 2 rfl ?_
  refine jx_callH C jSub_C (jGo_C a c a1) ch_L_132 dL_law_366 (kL_load (vC_ok C.traces) hF) rfl (Nat.le_of_ble_eq_true rfl) ⟨(Nat.le_of_ble_eq_true rfl), (Nat.le_of_ble_eq_true rfl)⟩ ⟨by omega, by omega⟩ ?_ rfl
  refine jx_istore C dL_law_369 rfl (Nat.le_of_ble_eq_true rfl) ?_
  refine ux_aload_n C dL_law_371 4 rfl ?_
  refine jx_callV (As := []) C jSub_M (jGo_M a1 c c1) cv_L_135 dL_law_372 (oM (vMj_ok C.traces)) rfl (kX8_load (vMj_ok C.traces) hG) rfl (Nat.le_of_ble_eq_true rfl) ⟨(Nat.le_of_ble_eq_true rfl), (Nat.le_of_ble_eq_true rfl)⟩ ⟨by omega, by omega⟩ ?_ rfl
  refine jx_istore C dL_law_375 rfl (Nat.le_of_ble_eq_true rfl) ?_
  refine ux_aload_n C dL_law_377 5 rfl ?_
  refine jx_callV (As := []) C jSub_M (jGo_M a1 c1 c1) cv_L_125 dL_law_378 (oM (vMj_ok C.traces)) rfl (kX8_thrown (vMj_ok C.traces) (r := c1.1 0 0) rfl) rfl (Nat.le_of_ble_eq_true rfl) ⟨(Nat.le_of_ble_eq_true rfl), (Nat.le_of_ble_eq_true rfl)⟩ ⟨by omega, by omega⟩ ?_ rfl
  refine ux_iload C dL_law_381 1 rfl ?_
  refine jx_same C dL_law_383 hT ?_
  refine ux_iload C dL_law_388 1 rfl ?_
  by_cases zk : k = 0
  · refine jx_ifne_f C dL_law_390 zk ?_
    refine ux_aload_n C dL_law_393 4 rfl ?_
    refine ux_iconst C dL_law_394 rfl ?_
    refine ux_laldK (j := 0) C jOut dL_law_395 (by decide) (by decide) ?_
    refine ux_iload C dL_law_396 0 rfl ?_
    refine ux_i2l C dL_law_398 ?_
    refine ux_lcmp C dL_law_399 ?_
    refine jx_ifeq_t C dL_law_400 (lg_same (hO zk)) ?_
    refine ux_goto C dL_law_405 ?_
    refine ux_sub [2, 3, 4, 5, 6, 7] rfl ?_
    refine ux_widen (k := cells + 8) (n := slots + 60) (by omega) (by omega) ?_
    exact K _ _ hP
  · refine jx_ifne_t C dL_law_390 zk ?_
    refine ux_goto C dL_law_405 ?_
    refine ux_sub [2, 3, 4, 5, 6, 7] rfl ?_
    refine ux_widen (k := cells + 8) (n := slots + 60) (by omega) (by omega) ?_
    exact K _ _ hP
theorem lc_3 {M : uM} {D : va_G} {base : Nat} {cB cI cJ cZ cD cO : ClassId} {sK sV : Nat → Nat} {b L : Nat} {xs : Nat → Int32} {Q : State → Prop} (C : uCx M (vJ D base cB cI cJ cZ cD cO sK sV) cL_law 9 RL 15 560 601024 7293034) (hX : va_X b L xs (mS M) (mS M).heap) (hbl : b < (mS M).heap.size) (hbb : ¬ base ≤ b) (hL : L ≤ 3072) {i : Nat} (hi : i + 6 ≤ L) {cells slots : Nat} (hc : cells + 8 ≤ 601024) (hs : slots + 60 ≤ 7293034) {a c : uSt} {R : uSt → uSt → Prop} (h : cQ0 (fX7_errorCode) (fX8_errorCode) R a c) (K : ∀ a1 c1, R a1 c1 → uW M (vJ D base cB cI cJ cZ cD cO sK sV) Q 9 (cells + 8) (slots + 60) 2116 [(5, .int (nI i)), (4, .ref (vA (vC D base cB cI cJ cZ cD cO sK sV) 72)), (3, .ref (vA (vC D base cB cI cJ cZ cD cO sK sV) 71)), (2, .ref (vA (vM D (base + 71) cI cJ cZ (jB base) sK sV) 0)), (1, .ref (vA (vC D base cB cI cJ cZ cD cO sK sV) 0)), (0, .ref b)] [] (jS a1 c1)) : uW M (vJ D base cB cI cJ cZ cD cO sK sV) Q 9 cells slots 408 [(5, .int (nI i)), (4, .ref (vA (vC D base cB cI cJ cZ cD cO sK sV) 72)), (3, .ref (vA (vC D base cB cI cJ cZ cD cO sK sV) 71)), (2, .ref (vA (vM D (base + 71) cI cJ cZ (jB base) sK sV) 0)), (1, .ref (vA (vC D base cB cI cJ cZ cD cO sK sV) 0)), (0, .ref b)] [] (jS a c) := by
  obtain ⟨r, c1, hF, hG, hP⟩ := h
  refine ux_aload_n C dL_law_408 4 rfl ?_
  refine jx_callV (As := []) C jSub_C (jGo_C a c a) cv_L_136 dL_law_409 (oF (vC_ok C.traces)) rfl (kX7_errorCode (vC_ok C.traces) hF) rfl (Nat.le_of_ble_eq_true rfl) ⟨(Nat.le_of_ble_eq_true rfl), (Nat.le_of_ble_eq_true rfl)⟩ ⟨by omega, by omega⟩ ?_ rfl
  refine ux_aload_n C dL_law_412 3 rfl ?_
  refine jx_callV (As := []) C jSub_M (jGo_M a c c1) cv_L_139 dL_law_413 (oM (vMj_ok C.traces)) rfl (kX8_errorCode (vMj_ok C.traces) hG) rfl (Nat.le_of_ble_eq_true rfl) ⟨(Nat.le_of_ble_eq_true rfl), (Nat.le_of_ble_eq_true rfl)⟩ ⟨by omega, by omega⟩ ?_ rfl
  refine jx_same C dL_law_416 rfl ?_
  refine ux_widen (k := cells + 8) (n := slots + 60) (by omega) (by omega) ?_
  exact K _ _ hP
theorem lc_4 {M : uM} {D : va_G} {base : Nat} {cB cI cJ cZ cD cO : ClassId} {sK sV : Nat → Nat} {b L : Nat} {xs : Nat → Int32} {Q : State → Prop} (C : uCx M (vJ D base cB cI cJ cZ cD cO sK sV) cL_law 9 RL 15 560 601024 7293034) (hX : va_X b L xs (mS M) (mS M).heap) (hbl : b < (mS M).heap.size) (hbb : ¬ base ≤ b) (hL : L ≤ 3072) {i : Nat} (hi : i + 6 ≤ L) {cells slots : Nat} (hc : cells + 8 ≤ 601024) (hs : slots + 60 ≤ 7293034) {a c : uSt} {R : uSt → uSt → Prop} (h : cQ0 (fX7_errorPosition) (fX8_errorPosition) R a c) (K : ∀ a1 c1, R a1 c1 → uW M (vJ D base cB cI cJ cZ cD cO sK sV) Q 9 (cells + 8) (slots + 60) 2116 [(5, .int (nI i)), (4, .ref (vA (vC D base cB cI cJ cZ cD cO sK sV) 72)), (3, .ref (vA (vC D base cB cI cJ cZ cD cO sK sV) 71)), (2, .ref (vA (vM D (base + 71) cI cJ cZ (jB base) sK sV) 0)), (1, .ref (vA (vC D base cB cI cJ cZ cD cO sK sV) 0)), (0, .ref b)] [] (jS a1 c1)) : uW M (vJ D base cB cI cJ cZ cD cO sK sV) Q 9 cells slots 421 [(5, .int (nI i)), (4, .ref (vA (vC D base cB cI cJ cZ cD cO sK sV) 72)), (3, .ref (vA (vC D base cB cI cJ cZ cD cO sK sV) 71)), (2, .ref (vA (vM D (base + 71) cI cJ cZ (jB base) sK sV) 0)), (1, .ref (vA (vC D base cB cI cJ cZ cD cO sK sV) 0)), (0, .ref b)] [] (jS a c) := by
  obtain ⟨r, c1, hF, hG, hP⟩ := h
  refine ux_aload_n C dL_law_421 4 rfl ?_
  refine jx_callV (As := []) C jSub_C (jGo_C a c a) cv_L_140 dL_law_422 (oF (vC_ok C.traces)) rfl (kX7_errorPosition (vC_ok C.traces) hF) rfl (Nat.le_of_ble_eq_true rfl) ⟨(Nat.le_of_ble_eq_true rfl), (Nat.le_of_ble_eq_true rfl)⟩ ⟨by omega, by omega⟩ ?_ rfl
  refine ux_aload_n C dL_law_425 3 rfl ?_
  refine jx_callV (As := []) C jSub_M (jGo_M a c c1) cv_L_143 dL_law_426 (oM (vMj_ok C.traces)) rfl (kX8_errorPosition (vMj_ok C.traces) hG) rfl (Nat.le_of_ble_eq_true rfl) ⟨(Nat.le_of_ble_eq_true rfl), (Nat.le_of_ble_eq_true rfl)⟩ ⟨by omega, by omega⟩ ?_ rfl
  refine jx_same C dL_law_429 rfl ?_
  refine ux_widen (k := cells + 8) (n := slots + 60) (by omega) (by omega) ?_
  exact K _ _ hP
theorem lc_5 {M : uM} {D : va_G} {base : Nat} {cB cI cJ cZ cD cO : ClassId} {sK sV : Nat → Nat} {b L : Nat} {xs : Nat → Int32} {Q : State → Prop} (C : uCx M (vJ D base cB cI cJ cZ cD cO sK sV) cL_law 9 RL 15 560 601024 7293034) (hX : va_X b L xs (mS M) (mS M).heap) (hbl : b < (mS M).heap.size) (hbb : ¬ base ≤ b) (hL : L ≤ 3072) {i : Nat} (hi : i + 6 ≤ L) {x1 : Int32} (e1 : xs (i + 1) = x1) {cells slots : Nat} (hc : cells + 8 ≤ 601024) (hs : slots + 60 ≤ 7293034) {a c : uSt} {R : uSt → uSt → Prop} (h : cKI (fL_report x1) (fX8_report x1) R a c) (K : ∀ a1 c1, R a1 c1 → uW M (vJ D base cB cI cJ cZ cD cO sK sV) Q 9 (cells + 8) (slots + 60) 2116 [(5, .int (nI i)), (4, .ref (vA (vC D base cB cI cJ cZ cD cO sK sV) 72)), (3, .ref (vA (vC D base cB cI cJ cZ cD cO sK sV) 71)), (2, .ref (vA (vM D (base + 71) cI cJ cZ (jB base) sK sV) 0)), (1, .ref (vA (vC D base cB cI cJ cZ cD cO sK sV) 0)), (0, .ref b)] [] (jS a1 c1)) : uW M (vJ D base cB cI cJ cZ cD cO sK sV) Q 9 cells slots 434 [(5, .int (nI i)), (4, .ref (vA (vC D base cB cI cJ cZ cD cO sK sV) 72)), (3, .ref (vA (vC D base cB cI cJ cZ cD cO sK sV) 71)), (2, .ref (vA (vM D (base + 71) cI cJ cZ (jB base) sK sV) 0)), (1, .ref (vA (vC D base cB cI cJ cZ cD cO sK sV) 0)), (0, .ref b)] [] (jS a c) := by
  obtain ⟨k, a1, r, c1, hF, hG, hT, hO, hP⟩ := h
  refine ux_aload_n C dL_law_434 4 rfl ?_
  refine ux_aload_n C dL_law_435 5 rfl ?_
  refine ux_iload C dL_law_436 0 rfl ?_
  refine ux_iconst C dL_law_438 rfl ?_
  refine ux_iadd C dL_law_439 ?_
  refine jx_sld C hX hbl hbb (jin (k := 1) (xs := xs) rfl (by omega) hL).1 ((jin (k := 1) (xs := xs) rfl (by omega) hL).2.trans e1) dL_law_440 ?_
  refine ux_aload_n C dL_law_441 2 rfl ?_
  refine jx_callH C jSub_C (jGo_C a c a1) ch_L_144 dL_law_442 (kL_report (vC_ok C.traces) hF) rfl (Nat.le_of_ble_eq_true rfl) ⟨(Nat.le_of_ble_eq_true rfl), (Nat.le_of_ble_eq_true rfl)⟩ ⟨by omega, by omega⟩ ?_ rfl
  refine jx_istore C dL_law_445 rfl (Nat.le_of_ble_eq_true rfl) ?_
  refine ux_aload_n C dL_law_447 4 rfl ?_
  refine ux_aload_n C dL_law_448 6 rfl ?_
  refine ux_iload C dL_law_449 1 rfl ?_
  refine ux_iconst C dL_law_451 rfl ?_
  refine ux_iadd C dL_law_452 ?_
  refine jx_sld C hX hbl hbb (jin (k := 1) (xs := xs) rfl (by omega) hL).1 ((jin (k := 1) (xs := xs) rfl (by omega) hL).2.trans e1) dL_law_453 ?_
  refine jx_callV (As := [.int x1]) C jSub_M (jGo_M a1 c c1) cv_L_146 dL_law_454 (oM (vMj_ok C.traces)) rfl (kX8_report (vMj_ok C.traces) hG) rfl (Nat.le_of_ble_eq_true rfl) ⟨(Nat.le_of_ble_eq_true rfl), (Nat.le_of_ble_eq_true rfl)⟩ ⟨by omega, by omega⟩ ?_ rfl
  refine jx_istore C dL_law_457 rfl (Nat.le_of_ble_eq_true rfl) ?_
  refine ux_aload_n C dL_law_459 5 rfl ?_
  refine jx_callV (As := []) C jSub_M (jGo_M a1 c1 c1) cv_L_125 dL_law_460 (oM (vMj_ok C.traces)) rfl (kX8_thrown (vMj_ok C.traces) (r := c1.1 0 0) rfl) rfl (Nat.le_of_ble_eq_true rfl) ⟨(Nat.le_of_ble_eq_true rfl), (Nat.le_of_ble_eq_true rfl)⟩ ⟨by omega, by omega⟩ ?_ rfl
  refine ux_iload C dL_law_463 1 rfl ?_
  refine jx_same C dL_law_465 hT ?_
  refine ux_iload C dL_law_470 1 rfl ?_
  by_cases zk : k = 0
  · refine jx_ifne_f C dL_law_472 zk ?_
    refine ux_aload_n C dL_law_475 4 rfl ?_
    refine ux_iconst C dL_law_476 rfl ?_
    refine ux_laldK (j := 0) C jOut dL_law_477 (by decide) (by decide) ?_
    refine ux_iload C dL_law_478 0 rfl ?_
    refine ux_i2l C dL_law_480 ?_
    refine ux_lcmp C dL_law_481 ?_
    refine jx_ifeq_t C dL_law_482 (lg_same (hO zk)) ?_
    refine ux_goto C dL_law_487 ?_
    refine ux_sub [2, 3, 4, 5, 6, 7] rfl ?_
    refine ux_widen (k := cells + 8) (n := slots + 60) (by omega) (by omega) ?_
    exact K _ _ hP
  · refine jx_ifne_t C dL_law_472 zk ?_
    refine ux_goto C dL_law_487 ?_
    refine ux_sub [2, 3, 4, 5, 6, 7] rfl ?_
    refine ux_widen (k := cells + 8) (n := slots + 60) (by omega) (by omega) ?_
    exact K _ _ hP
theorem lc_6 {M : uM} {D : va_G} {base : Nat} {cB cI cJ cZ cD cO : ClassId} {sK sV : Nat → Nat} {b L : Nat} {xs : Nat → Int32} {Q : State → Prop} (C : uCx M (vJ D base cB cI cJ cZ cD cO sK sV) cL_law 9 RL 15 560 601024 7293034) (hX : va_X b L xs (mS M) (mS M).heap) (hbl : b < (mS M).heap.size) (hbb : ¬ base ≤ b) (hL : L ≤ 3072) {i : Nat} (hi : i + 6 ≤ L) {x1 : Int32} (e1 : xs (i + 1) = x1) {x2 : Int32} (e2 : xs (i + 2) = x2) {cells slots : Nat} (hc : cells + 8 ≤ 601024) (hs : slots + 60 ≤ 7293034) {a c : uSt} {R : uSt → uSt → Prop} (h : cKI (fL_device x1 x2) (fX8_device x1 x2) R a c) (K : ∀ a1 c1, R a1 c1 → uW M (vJ D base cB cI cJ cZ cD cO sK sV) Q 9 (cells + 8) (slots + 60) 2116 [(5, .int (nI i)), (4, .ref (vA (vC D base cB cI cJ cZ cD cO sK sV) 72)), (3, .ref (vA (vC D base cB cI cJ cZ cD cO sK sV) 71)), (2, .ref (vA (vM D (base + 71) cI cJ cZ (jB base) sK sV) 0)), (1, .ref (vA (vC D base cB cI cJ cZ cD cO sK sV) 0)), (0, .ref b)] [] (jS a1 c1)) : uW M (vJ D base cB cI cJ cZ cD cO sK sV) Q 9 cells slots 490 [(5, .int (nI i)), (4, .ref (vA (vC D base cB cI cJ cZ cD cO sK sV) 72)), (3, .ref (vA (vC D base cB cI cJ cZ cD cO sK sV) 71)), (2, .ref (vA (vM D (base + 71) cI cJ cZ (jB base) sK sV) 0)), (1, .ref (vA (vC D base cB cI cJ cZ cD cO sK sV) 0)), (0, .ref b)] [] (jS a c) := by
  obtain ⟨k, a1, r, c1, hF, hG, hT, hO, hP⟩ := h
  refine ux_aload_n C dL_law_490 4 rfl ?_
  refine ux_aload_n C dL_law_491 5 rfl ?_
  refine ux_iload C dL_law_492 0 rfl ?_
  refine ux_iconst C dL_law_494 rfl ?_
  refine ux_iadd C dL_law_495 ?_
  refine jx_sld C hX hbl hbb (jin (k := 1) (xs := xs) rfl (by omega) hL).1 ((jin (k := 1) (xs := xs) rfl (by omega) hL).2.trans e1) dL_law_496 ?_
  refine ux_aload_n C dL_law_497 5 rfl ?_
  refine ux_iload C dL_law_498 0 rfl ?_
  refine ux_iconst C dL_law_500 rfl ?_
  refine ux_iadd C dL_law_501 ?_
  refine jx_sld C hX hbl hbb (jin (k := 2) (xs := xs) rfl (by omega) hL).1 ((jin (k := 2) (xs := xs) rfl (by omega) hL).2.trans e2) dL_law_502 ?_
  refine ux_aload_n C dL_law_503 2 rfl ?_
  refine jx_callH C jSub_C (jGo_C a c a1) ch_L_147 dL_law_504 (kL_device (vC_ok C.traces) hF) rfl (Nat.le_of_ble_eq_true rfl) ⟨(Nat.le_of_ble_eq_true rfl), (Nat.le_of_ble_eq_true rfl)⟩ ⟨by omega, by omega⟩ ?_ rfl
  refine jx_istore C dL_law_507 rfl (Nat.le_of_ble_eq_true rfl) ?_
  refine ux_aload_n C dL_law_509 4 rfl ?_
  refine ux_aload_n C dL_law_510 6 rfl ?_
  refine ux_iload C dL_law_511 1 rfl ?_
  refine ux_iconst C dL_law_513 rfl ?_
  refine ux_iadd C dL_law_514 ?_
  refine jx_sld C hX hbl hbb (jin (k := 1) (xs := xs) rfl (by omega) hL).1 ((jin (k := 1) (xs := xs) rfl (by omega) hL).2.trans e1) dL_law_515 ?_
  refine ux_aload_n C dL_law_516 6 rfl ?_
  refine ux_iload C dL_law_517 1 rfl ?_
  refine ux_iconst C dL_law_519 rfl ?_
  refine ux_iadd C dL_law_520 ?_
  refine jx_sld C hX hbl hbb (jin (k := 2) (xs := xs) rfl (by omega) hL).1 ((jin (k := 2) (xs := xs) rfl (by omega) hL).2.trans e2) dL_law_521 ?_
  refine jx_callV (As := [.int x1, .int x2]) C jSub_M (jGo_M a1 c c1) cv_L_150 dL_law_522 (oM (vMj_ok C.traces)) rfl (kX8_device (vMj_ok C.traces) hG) rfl (Nat.le_of_ble_eq_true rfl) ⟨(Nat.le_of_ble_eq_true rfl), (Nat.le_of_ble_eq_true rfl)⟩ ⟨by omega, by omega⟩ ?_ rfl
  refine jx_istore C dL_law_525 rfl (Nat.le_of_ble_eq_true rfl) ?_
  refine ux_aload_n C dL_law_527 5 rfl ?_
  refine jx_callV (As := []) C jSub_M (jGo_M a1 c1 c1) cv_L_125 dL_law_528 (oM (vMj_ok C.traces)) rfl (kX8_thrown (vMj_ok C.traces) (r := c1.1 0 0) rfl) rfl (Nat.le_of_ble_eq_true rfl) ⟨(Nat.le_of_ble_eq_true rfl), (Nat.le_of_ble_eq_true rfl)⟩ ⟨by omega, by omega⟩ ?_ rfl
  refine ux_iload C dL_law_531 1 rfl ?_
  refine jx_same C dL_law_533 hT ?_
  refine ux_iload C dL_law_538 1 rfl ?_
  by_cases zk : k = 0
  · refine jx_ifne_f C dL_law_540 zk ?_
    refine ux_aload_n C dL_law_543 4 rfl ?_
    refine ux_iconst C dL_law_544 rfl ?_
    refine ux_laldK (j := 0) C jOut dL_law_545 (by decide) (by decide) ?_
    refine ux_iload C dL_law_546 0 rfl ?_
    refine ux_i2l C dL_law_548 ?_
    refine ux_lcmp C dL_law_549 ?_
    refine jx_ifeq_t C dL_law_550 (lg_same (hO zk)) ?_
    refine ux_goto C dL_law_555 ?_
    refine ux_sub [2, 3, 4, 5, 6, 7] rfl ?_
    refine ux_widen (k := cells + 8) (n := slots + 60) (by omega) (by omega) ?_
    exact K _ _ hP
  · refine jx_ifne_t C dL_law_540 zk ?_
    refine ux_goto C dL_law_555 ?_
    refine ux_sub [2, 3, 4, 5, 6, 7] rfl ?_
    refine ux_widen (k := cells + 8) (n := slots + 60) (by omega) (by omega) ?_
    exact K _ _ hP
theorem lc_7 {M : uM} {D : va_G} {base : Nat} {cB cI cJ cZ cD cO : ClassId} {sK sV : Nat → Nat} {b L : Nat} {xs : Nat → Int32} {Q : State → Prop} (C : uCx M (vJ D base cB cI cJ cZ cD cO sK sV) cL_law 9 RL 15 560 601024 7293034) (hX : va_X b L xs (mS M) (mS M).heap) (hbl : b < (mS M).heap.size) (hbb : ¬ base ≤ b) (hL : L ≤ 3072) {i : Nat} (hi : i + 6 ≤ L) {x1 : Int32} (e1 : xs (i + 1) = x1) {x2 : Int32} (e2 : xs (i + 2) = x2) {cells slots : Nat} (hc : cells + 8 ≤ 601024) (hs : slots + 60 ≤ 7293034) {a c : uSt} {R : uSt → uSt → Prop} (h : cKI (fL_block x1 x2) (fX8_block x1 x2) R a c) (K : ∀ a1 c1, R a1 c1 → uW M (vJ D base cB cI cJ cZ cD cO sK sV) Q 9 (cells + 8) (slots + 60) 2116 [(5, .int (nI i)), (4, .ref (vA (vC D base cB cI cJ cZ cD cO sK sV) 72)), (3, .ref (vA (vC D base cB cI cJ cZ cD cO sK sV) 71)), (2, .ref (vA (vM D (base + 71) cI cJ cZ (jB base) sK sV) 0)), (1, .ref (vA (vC D base cB cI cJ cZ cD cO sK sV) 0)), (0, .ref b)] [] (jS a1 c1)) : uW M (vJ D base cB cI cJ cZ cD cO sK sV) Q 9 cells slots 558 [(5, .int (nI i)), (4, .ref (vA (vC D base cB cI cJ cZ cD cO sK sV) 72)), (3, .ref (vA (vC D base cB cI cJ cZ cD cO sK sV) 71)), (2, .ref (vA (vM D (base + 71) cI cJ cZ (jB base) sK sV) 0)), (1, .ref (vA (vC D base cB cI cJ cZ cD cO sK sV) 0)), (0, .ref b)] [] (jS a c) := by
  obtain ⟨k, a1, r, c1, hF, hG, hT, hO, hP⟩ := h
  refine ux_aload_n C dL_law_558 4 rfl ?_
  refine ux_aload_n C dL_law_559 5 rfl ?_
  refine ux_iload C dL_law_560 0 rfl ?_
  refine ux_iconst C dL_law_562 rfl ?_
  refine ux_iadd C dL_law_563 ?_
  refine jx_sld C hX hbl hbb (jin (k := 1) (xs := xs) rfl (by omega) hL).1 ((jin (k := 1) (xs := xs) rfl (by omega) hL).2.trans e1) dL_law_564 ?_
  refine ux_aload_n C dL_law_565 5 rfl ?_
  refine ux_iload C dL_law_566 0 rfl ?_
  refine ux_iconst C dL_law_568 rfl ?_
  refine ux_iadd C dL_law_569 ?_
  refine jx_sld C hX hbl hbb (jin (k := 2) (xs := xs) rfl (by omega) hL).1 ((jin (k := 2) (xs := xs) rfl (by omega) hL).2.trans e2) dL_law_570 ?_
  refine ux_aload_n C dL_law_571 2 rfl ?_
  refine jx_callH C jSub_C (jGo_C a c a1) ch_L_151 dL_law_572 (kL_block (vC_ok C.traces) hF) rfl (Nat.le_of_ble_eq_true rfl) ⟨(Nat.le_of_ble_eq_true rfl), (Nat.le_of_ble_eq_true rfl)⟩ ⟨by omega, by omega⟩ ?_ rfl
  refine jx_istore C dL_law_575 rfl (Nat.le_of_ble_eq_true rfl) ?_
  refine ux_aload_n C dL_law_577 4 rfl ?_
  refine ux_aload_n C dL_law_578 6 rfl ?_
  refine ux_iload C dL_law_579 1 rfl ?_
  refine ux_iconst C dL_law_581 rfl ?_
  refine ux_iadd C dL_law_582 ?_
  refine jx_sld C hX hbl hbb (jin (k := 1) (xs := xs) rfl (by omega) hL).1 ((jin (k := 1) (xs := xs) rfl (by omega) hL).2.trans e1) dL_law_583 ?_
  refine ux_aload_n C dL_law_584 6 rfl ?_
  refine ux_iload C dL_law_585 1 rfl ?_
  refine ux_iconst C dL_law_587 rfl ?_
  refine ux_iadd C dL_law_588 ?_
  refine jx_sld C hX hbl hbb (jin (k := 2) (xs := xs) rfl (by omega) hL).1 ((jin (k := 2) (xs := xs) rfl (by omega) hL).2.trans e2) dL_law_589 ?_
  refine jx_callV (As := [.int x1, .int x2]) C jSub_M (jGo_M a1 c c1) cv_L_153 dL_law_590 (oM (vMj_ok C.traces)) rfl (kX8_block (vMj_ok C.traces) hG) rfl (Nat.le_of_ble_eq_true rfl) ⟨(Nat.le_of_ble_eq_true rfl), (Nat.le_of_ble_eq_true rfl)⟩ ⟨by omega, by omega⟩ ?_ rfl
  refine jx_istore C dL_law_593 rfl (Nat.le_of_ble_eq_true rfl) ?_
  refine ux_aload_n C dL_law_595 5 rfl ?_
  refine jx_callV (As := []) C jSub_M (jGo_M a1 c1 c1) cv_L_125 dL_law_596 (oM (vMj_ok C.traces)) rfl (kX8_thrown (vMj_ok C.traces) (r := c1.1 0 0) rfl) rfl (Nat.le_of_ble_eq_true rfl) ⟨(Nat.le_of_ble_eq_true rfl), (Nat.le_of_ble_eq_true rfl)⟩ ⟨by omega, by omega⟩ ?_ rfl
  refine ux_iload C dL_law_599 1 rfl ?_
  refine jx_same C dL_law_601 hT ?_
  refine ux_iload C dL_law_606 1 rfl ?_
  by_cases zk : k = 0
  · refine jx_ifne_f C dL_law_608 zk ?_
    refine ux_aload_n C dL_law_611 4 rfl ?_
    refine ux_iconst C dL_law_612 rfl ?_
    refine ux_laldK (j := 0) C jOut dL_law_613 (by decide) (by decide) ?_
    refine ux_iload C dL_law_614 0 rfl ?_
    refine ux_i2l C dL_law_616 ?_
    refine ux_lcmp C dL_law_617 ?_
    refine jx_ifeq_t C dL_law_618 (lg_same (hO zk)) ?_
    refine ux_goto C dL_law_623 ?_
    refine ux_sub [2, 3, 4, 5, 6, 7] rfl ?_
    refine ux_widen (k := cells + 8) (n := slots + 60) (by omega) (by omega) ?_
    exact K _ _ hP
  · refine jx_ifne_t C dL_law_608 zk ?_
    refine ux_goto C dL_law_623 ?_
    refine ux_sub [2, 3, 4, 5, 6, 7] rfl ?_
    refine ux_widen (k := cells + 8) (n := slots + 60) (by omega) (by omega) ?_
    exact K _ _ hP
theorem lc_8 {M : uM} {D : va_G} {base : Nat} {cB cI cJ cZ cD cO : ClassId} {sK sV : Nat → Nat} {b L : Nat} {xs : Nat → Int32} {Q : State → Prop} (C : uCx M (vJ D base cB cI cJ cZ cD cO sK sV) cL_law 9 RL 15 560 601024 7293034) (hX : va_X b L xs (mS M) (mS M).heap) (hbl : b < (mS M).heap.size) (hbb : ¬ base ≤ b) (hL : L ≤ 3072) {i : Nat} (hi : i + 6 ≤ L) {x1 : Int32} (e1 : xs (i + 1) = x1) {x2 : Int32} (e2 : xs (i + 2) = x2) {cells slots : Nat} (hc : cells + 8 ≤ 601024) (hs : slots + 60 ≤ 7293034) {a c : uSt} {R : uSt → uSt → Prop} (h : cKI (fL_find x1 x2) (fX8_find x1 x2) R a c) (K : ∀ a1 c1, R a1 c1 → uW M (vJ D base cB cI cJ cZ cD cO sK sV) Q 9 (cells + 8) (slots + 60) 2116 [(5, .int (nI i)), (4, .ref (vA (vC D base cB cI cJ cZ cD cO sK sV) 72)), (3, .ref (vA (vC D base cB cI cJ cZ cD cO sK sV) 71)), (2, .ref (vA (vM D (base + 71) cI cJ cZ (jB base) sK sV) 0)), (1, .ref (vA (vC D base cB cI cJ cZ cD cO sK sV) 0)), (0, .ref b)] [] (jS a1 c1)) : uW M (vJ D base cB cI cJ cZ cD cO sK sV) Q 9 cells slots 626 [(5, .int (nI i)), (4, .ref (vA (vC D base cB cI cJ cZ cD cO sK sV) 72)), (3, .ref (vA (vC D base cB cI cJ cZ cD cO sK sV) 71)), (2, .ref (vA (vM D (base + 71) cI cJ cZ (jB base) sK sV) 0)), (1, .ref (vA (vC D base cB cI cJ cZ cD cO sK sV) 0)), (0, .ref b)] [] (jS a c) := by
  obtain ⟨k, a1, r, c1, hF, hG, hT, hO, hP⟩ := h
  refine ux_aload_n C dL_law_626 4 rfl ?_
  refine ux_aload_n C dL_law_627 5 rfl ?_
  refine ux_iload C dL_law_628 0 rfl ?_
  refine ux_iconst C dL_law_630 rfl ?_
  refine ux_iadd C dL_law_631 ?_
  refine jx_sld C hX hbl hbb (jin (k := 1) (xs := xs) rfl (by omega) hL).1 ((jin (k := 1) (xs := xs) rfl (by omega) hL).2.trans e1) dL_law_632 ?_
  refine ux_aload_n C dL_law_633 5 rfl ?_
  refine ux_iload C dL_law_634 0 rfl ?_
  refine ux_iconst C dL_law_636 rfl ?_
  refine ux_iadd C dL_law_637 ?_
  refine jx_sld C hX hbl hbb (jin (k := 2) (xs := xs) rfl (by omega) hL).1 ((jin (k := 2) (xs := xs) rfl (by omega) hL).2.trans e2) dL_law_638 ?_
  refine ux_aload_n C dL_law_639 2 rfl ?_
  refine jx_callH C jSub_C (jGo_C a c a1) ch_L_154 dL_law_640 (kL_find (vC_ok C.traces) hF) rfl (Nat.le_of_ble_eq_true rfl) ⟨(Nat.le_of_ble_eq_true rfl), (Nat.le_of_ble_eq_true rfl)⟩ ⟨by omega, by omega⟩ ?_ rfl
  refine jx_istore C dL_law_643 rfl (Nat.le_of_ble_eq_true rfl) ?_
  refine ux_aload_n C dL_law_645 4 rfl ?_
  refine ux_aload_n C dL_law_646 6 rfl ?_
  refine ux_iload C dL_law_647 1 rfl ?_
  refine ux_iconst C dL_law_649 rfl ?_
  refine ux_iadd C dL_law_650 ?_
  refine jx_sld C hX hbl hbb (jin (k := 1) (xs := xs) rfl (by omega) hL).1 ((jin (k := 1) (xs := xs) rfl (by omega) hL).2.trans e1) dL_law_651 ?_
  refine ux_aload_n C dL_law_652 6 rfl ?_
  refine ux_iload C dL_law_653 1 rfl ?_
  refine ux_iconst C dL_law_655 rfl ?_
  refine ux_iadd C dL_law_656 ?_
  refine jx_sld C hX hbl hbb (jin (k := 2) (xs := xs) rfl (by omega) hL).1 ((jin (k := 2) (xs := xs) rfl (by omega) hL).2.trans e2) dL_law_657 ?_
  refine jx_callV (As := [.int x1, .int x2]) C jSub_M (jGo_M a1 c c1) cv_L_156 dL_law_658 (oM (vMj_ok C.traces)) rfl (kX8_find (vMj_ok C.traces) hG) rfl (Nat.le_of_ble_eq_true rfl) ⟨(Nat.le_of_ble_eq_true rfl), (Nat.le_of_ble_eq_true rfl)⟩ ⟨by omega, by omega⟩ ?_ rfl
  refine jx_istore C dL_law_661 rfl (Nat.le_of_ble_eq_true rfl) ?_
  refine ux_aload_n C dL_law_663 5 rfl ?_
  refine jx_callV (As := []) C jSub_M (jGo_M a1 c1 c1) cv_L_125 dL_law_664 (oM (vMj_ok C.traces)) rfl (kX8_thrown (vMj_ok C.traces) (r := c1.1 0 0) rfl) rfl (Nat.le_of_ble_eq_true rfl) ⟨(Nat.le_of_ble_eq_true rfl), (Nat.le_of_ble_eq_true rfl)⟩ ⟨by omega, by omega⟩ ?_ rfl
  refine ux_iload C dL_law_667 1 rfl ?_
  refine jx_same C dL_law_669 hT ?_
  refine ux_iload C dL_law_674 1 rfl ?_
  by_cases zk : k = 0
  · refine jx_ifne_f C dL_law_676 zk ?_
    refine ux_aload_n C dL_law_679 4 rfl ?_
    refine ux_iconst C dL_law_680 rfl ?_
    refine ux_laldK (j := 0) C jOut dL_law_681 (by decide) (by decide) ?_
    refine ux_iload C dL_law_682 0 rfl ?_
    refine ux_i2l C dL_law_684 ?_
    refine ux_lcmp C dL_law_685 ?_
    refine jx_ifeq_t C dL_law_686 (lg_same (hO zk)) ?_
    refine ux_goto C dL_law_691 ?_
    refine ux_sub [2, 3, 4, 5, 6, 7] rfl ?_
    refine ux_widen (k := cells + 8) (n := slots + 60) (by omega) (by omega) ?_
    exact K _ _ hP
  · refine jx_ifne_t C dL_law_676 zk ?_
    refine ux_goto C dL_law_691 ?_
    refine ux_sub [2, 3, 4, 5, 6, 7] rfl ?_
    refine ux_widen (k := cells + 8) (n := slots + 60) (by omega) (by omega) ?_
    exact K _ _ hP
theorem lc_9 {M : uM} {D : va_G} {base : Nat} {cB cI cJ cZ cD cO : ClassId} {sK sV : Nat → Nat} {b L : Nat} {xs : Nat → Int32} {Q : State → Prop} (C : uCx M (vJ D base cB cI cJ cZ cD cO sK sV) cL_law 9 RL 15 560 601024 7293034) (hX : va_X b L xs (mS M) (mS M).heap) (hbl : b < (mS M).heap.size) (hbb : ¬ base ≤ b) (hL : L ≤ 3072) {i : Nat} (hi : i + 6 ≤ L) {cells slots : Nat} (hc : cells + 8 ≤ 601024) (hs : slots + 60 ≤ 7293034) {a c : uSt} {R : uSt → uSt → Prop} (h : cKI (fL_oldest) (fX8_oldest) R a c) (K : ∀ a1 c1, R a1 c1 → uW M (vJ D base cB cI cJ cZ cD cO sK sV) Q 9 (cells + 8) (slots + 60) 2116 [(5, .int (nI i)), (4, .ref (vA (vC D base cB cI cJ cZ cD cO sK sV) 72)), (3, .ref (vA (vC D base cB cI cJ cZ cD cO sK sV) 71)), (2, .ref (vA (vM D (base + 71) cI cJ cZ (jB base) sK sV) 0)), (1, .ref (vA (vC D base cB cI cJ cZ cD cO sK sV) 0)), (0, .ref b)] [] (jS a1 c1)) : uW M (vJ D base cB cI cJ cZ cD cO sK sV) Q 9 cells slots 694 [(5, .int (nI i)), (4, .ref (vA (vC D base cB cI cJ cZ cD cO sK sV) 72)), (3, .ref (vA (vC D base cB cI cJ cZ cD cO sK sV) 71)), (2, .ref (vA (vM D (base + 71) cI cJ cZ (jB base) sK sV) 0)), (1, .ref (vA (vC D base cB cI cJ cZ cD cO sK sV) 0)), (0, .ref b)] [] (jS a c) := by
  obtain ⟨k, a1, r, c1, hF, hG, hT, hO, hP⟩ := h
  refine ux_aload_n C dL_law_694 4 rfl ?_
  refine ux_aload_n C dL_law_695 2 rfl ?_
  refine jx_callH C jSub_C (jGo_C a c a1) ch_L_157 dL_law_696 (kL_oldest (vC_ok C.traces) hF) rfl (Nat.le_of_ble_eq_true rfl) ⟨(Nat.le_of_ble_eq_true rfl), (Nat.le_of_ble_eq_true rfl)⟩ ⟨by omega, by omega⟩ ?_ rfl
  refine jx_istore C dL_law_699 rfl (Nat.le_of_ble_eq_true rfl) ?_
  refine ux_aload_n C dL_law_701 4 rfl ?_
  refine jx_callV (As := []) C jSub_M (jGo_M a1 c c1) cv_L_159 dL_law_702 (oM (vMj_ok C.traces)) rfl (kX8_oldest (vMj_ok C.traces) hG) rfl (Nat.le_of_ble_eq_true rfl) ⟨(Nat.le_of_ble_eq_true rfl), (Nat.le_of_ble_eq_true rfl)⟩ ⟨by omega, by omega⟩ ?_ rfl
  refine jx_istore C dL_law_705 rfl (Nat.le_of_ble_eq_true rfl) ?_
  refine ux_aload_n C dL_law_707 5 rfl ?_
  refine jx_callV (As := []) C jSub_M (jGo_M a1 c1 c1) cv_L_125 dL_law_708 (oM (vMj_ok C.traces)) rfl (kX8_thrown (vMj_ok C.traces) (r := c1.1 0 0) rfl) rfl (Nat.le_of_ble_eq_true rfl) ⟨(Nat.le_of_ble_eq_true rfl), (Nat.le_of_ble_eq_true rfl)⟩ ⟨by omega, by omega⟩ ?_ rfl
  refine ux_iload C dL_law_711 1 rfl ?_
  refine jx_same C dL_law_713 hT ?_
  refine ux_iload C dL_law_718 1 rfl ?_
  by_cases zk : k = 0
  · refine jx_ifne_f C dL_law_720 zk ?_
    refine ux_aload_n C dL_law_723 4 rfl ?_
    refine ux_iconst C dL_law_724 rfl ?_
    refine ux_laldK (j := 0) C jOut dL_law_725 (by decide) (by decide) ?_
    refine ux_iload C dL_law_726 0 rfl ?_
    refine ux_i2l C dL_law_728 ?_
    refine ux_lcmp C dL_law_729 ?_
    refine jx_ifeq_t C dL_law_730 (lg_same (hO zk)) ?_
    refine ux_goto C dL_law_735 ?_
    refine ux_sub [2, 3, 4, 5, 6, 7] rfl ?_
    refine ux_widen (k := cells + 8) (n := slots + 60) (by omega) (by omega) ?_
    exact K _ _ hP
  · refine jx_ifne_t C dL_law_720 zk ?_
    refine ux_goto C dL_law_735 ?_
    refine ux_sub [2, 3, 4, 5, 6, 7] rfl ?_
    refine ux_widen (k := cells + 8) (n := slots + 60) (by omega) (by omega) ?_
    exact K _ _ hP
theorem lc_10 {M : uM} {D : va_G} {base : Nat} {cB cI cJ cZ cD cO : ClassId} {sK sV : Nat → Nat} {b L : Nat} {xs : Nat → Int32} {Q : State → Prop} (C : uCx M (vJ D base cB cI cJ cZ cD cO sK sV) cL_law 9 RL 15 560 601024 7293034) (hX : va_X b L xs (mS M) (mS M).heap) (hbl : b < (mS M).heap.size) (hbb : ¬ base ≤ b) (hL : L ≤ 3072) {i : Nat} (hi : i + 6 ≤ L) {x1 : Int32} (e1 : xs (i + 1) = x1) {cells slots : Nat} (hc : cells + 8 ≤ 601024) (hs : slots + 60 ≤ 7293034) {a c : uSt} {R : uSt → uSt → Prop} (h : cKI (fL_total x1) (fX8_total x1) R a c) (K : ∀ a1 c1, R a1 c1 → uW M (vJ D base cB cI cJ cZ cD cO sK sV) Q 9 (cells + 8) (slots + 60) 2116 [(5, .int (nI i)), (4, .ref (vA (vC D base cB cI cJ cZ cD cO sK sV) 72)), (3, .ref (vA (vC D base cB cI cJ cZ cD cO sK sV) 71)), (2, .ref (vA (vM D (base + 71) cI cJ cZ (jB base) sK sV) 0)), (1, .ref (vA (vC D base cB cI cJ cZ cD cO sK sV) 0)), (0, .ref b)] [] (jS a1 c1)) : uW M (vJ D base cB cI cJ cZ cD cO sK sV) Q 9 cells slots 738 [(5, .int (nI i)), (4, .ref (vA (vC D base cB cI cJ cZ cD cO sK sV) 72)), (3, .ref (vA (vC D base cB cI cJ cZ cD cO sK sV) 71)), (2, .ref (vA (vM D (base + 71) cI cJ cZ (jB base) sK sV) 0)), (1, .ref (vA (vC D base cB cI cJ cZ cD cO sK sV) 0)), (0, .ref b)] [] (jS a c) := by
  obtain ⟨k, a1, r, c1, hF, hG, hT, hO, hP⟩ := h
  refine ux_aload_n C dL_law_738 4 rfl ?_
  refine ux_aload_n C dL_law_739 5 rfl ?_
  refine ux_iload C dL_law_740 0 rfl ?_
  refine ux_iconst C dL_law_742 rfl ?_
  refine ux_iadd C dL_law_743 ?_
  refine jx_sld C hX hbl hbb (jin (k := 1) (xs := xs) rfl (by omega) hL).1 ((jin (k := 1) (xs := xs) rfl (by omega) hL).2.trans e1) dL_law_744 ?_
  refine ux_aload_n C dL_law_745 2 rfl ?_
  refine jx_callH C jSub_C (jGo_C a c a1) ch_L_160 dL_law_746 (kL_total (vC_ok C.traces) hF) rfl (Nat.le_of_ble_eq_true rfl) ⟨(Nat.le_of_ble_eq_true rfl), (Nat.le_of_ble_eq_true rfl)⟩ ⟨by omega, by omega⟩ ?_ rfl
  refine jx_istore C dL_law_749 rfl (Nat.le_of_ble_eq_true rfl) ?_
  refine ux_aload_n C dL_law_751 4 rfl ?_
  refine ux_aload_n C dL_law_752 6 rfl ?_
  refine ux_iload C dL_law_753 1 rfl ?_
  refine ux_iconst C dL_law_755 rfl ?_
  refine ux_iadd C dL_law_756 ?_
  refine jx_sld C hX hbl hbb (jin (k := 1) (xs := xs) rfl (by omega) hL).1 ((jin (k := 1) (xs := xs) rfl (by omega) hL).2.trans e1) dL_law_757 ?_
  refine jx_callV (As := [.int x1]) C jSub_M (jGo_M a1 c c1) cv_L_162 dL_law_758 (oM (vMj_ok C.traces)) rfl (kX8_total (vMj_ok C.traces) hG) rfl (Nat.le_of_ble_eq_true rfl) ⟨(Nat.le_of_ble_eq_true rfl), (Nat.le_of_ble_eq_true rfl)⟩ ⟨by omega, by omega⟩ ?_ rfl
  refine jx_istore C dL_law_761 rfl (Nat.le_of_ble_eq_true rfl) ?_
  refine ux_aload_n C dL_law_763 5 rfl ?_
  refine jx_callV (As := []) C jSub_M (jGo_M a1 c1 c1) cv_L_125 dL_law_764 (oM (vMj_ok C.traces)) rfl (kX8_thrown (vMj_ok C.traces) (r := c1.1 0 0) rfl) rfl (Nat.le_of_ble_eq_true rfl) ⟨(Nat.le_of_ble_eq_true rfl), (Nat.le_of_ble_eq_true rfl)⟩ ⟨by omega, by omega⟩ ?_ rfl
  refine ux_iload C dL_law_767 1 rfl ?_
  refine jx_same C dL_law_769 hT ?_
  refine ux_iload C dL_law_774 1 rfl ?_
  by_cases zk : k = 0
  · refine jx_ifne_f C dL_law_776 zk ?_
    refine ux_aload_n C dL_law_779 4 rfl ?_
    refine ux_iconst C dL_law_780 rfl ?_
    refine ux_laldK (j := 0) C jOut dL_law_781 (by decide) (by decide) ?_
    refine ux_iload C dL_law_782 0 rfl ?_
    refine ux_i2l C dL_law_784 ?_
    refine ux_lcmp C dL_law_785 ?_
    refine jx_ifeq_t C dL_law_786 (lg_same (hO zk)) ?_
    refine ux_goto C dL_law_791 ?_
    refine ux_sub [2, 3, 4, 5, 6, 7] rfl ?_
    refine ux_widen (k := cells + 8) (n := slots + 60) (by omega) (by omega) ?_
    exact K _ _ hP
  · refine jx_ifne_t C dL_law_776 zk ?_
    refine ux_goto C dL_law_791 ?_
    refine ux_sub [2, 3, 4, 5, 6, 7] rfl ?_
    refine ux_widen (k := cells + 8) (n := slots + 60) (by omega) (by omega) ?_
    exact K _ _ hP
theorem lc_11 {M : uM} {D : va_G} {base : Nat} {cB cI cJ cZ cD cO : ClassId} {sK sV : Nat → Nat} {b L : Nat} {xs : Nat → Int32} {Q : State → Prop} (C : uCx M (vJ D base cB cI cJ cZ cD cO sK sV) cL_law 9 RL 15 560 601024 7293034) (hX : va_X b L xs (mS M) (mS M).heap) (hbl : b < (mS M).heap.size) (hbb : ¬ base ≤ b) (hL : L ≤ 3072) {i : Nat} (hi : i + 6 ≤ L) {x1 : Int32} (e1 : xs (i + 1) = x1) {x2 : Int32} (e2 : xs (i + 2) = x2) {x3 : Int32} (e3 : xs (i + 3) = x3) {cells slots : Nat} (hc : cells + 8 ≤ 601024) (hs : slots + 60 ≤ 7293034) {a c : uSt} {R : uSt → uSt → Prop} (h : cKB (fL_write x1 x2 x3) (fX8_write x1 x2 x3) R a c) (K : ∀ a1 c1, R a1 c1 → uW M (vJ D base cB cI cJ cZ cD cO sK sV) Q 9 (cells + 8) (slots + 60) 2116 [(5, .int (nI i)), (4, .ref (vA (vC D base cB cI cJ cZ cD cO sK sV) 72)), (3, .ref (vA (vC D base cB cI cJ cZ cD cO sK sV) 71)), (2, .ref (vA (vM D (base + 71) cI cJ cZ (jB base) sK sV) 0)), (1, .ref (vA (vC D base cB cI cJ cZ cD cO sK sV) 0)), (0, .ref b)] [] (jS a1 c1)) : uW M (vJ D base cB cI cJ cZ cD cO sK sV) Q 9 cells slots 794 [(5, .int (nI i)), (4, .ref (vA (vC D base cB cI cJ cZ cD cO sK sV) 72)), (3, .ref (vA (vC D base cB cI cJ cZ cD cO sK sV) 71)), (2, .ref (vA (vM D (base + 71) cI cJ cZ (jB base) sK sV) 0)), (1, .ref (vA (vC D base cB cI cJ cZ cD cO sK sV) 0)), (0, .ref b)] [] (jS a c) := by
  obtain ⟨k, a1, r, c1, hF, hG, hT, hO, hP⟩ := h
  refine ux_aload_n C dL_law_794 4 rfl ?_
  refine ux_aload_n C dL_law_795 5 rfl ?_
  refine ux_iload C dL_law_796 0 rfl ?_
  refine ux_iconst C dL_law_798 rfl ?_
  refine ux_iadd C dL_law_799 ?_
  refine jx_sld C hX hbl hbb (jin (k := 1) (xs := xs) rfl (by omega) hL).1 ((jin (k := 1) (xs := xs) rfl (by omega) hL).2.trans e1) dL_law_800 ?_
  refine ux_aload_n C dL_law_801 5 rfl ?_
  refine ux_iload C dL_law_802 0 rfl ?_
  refine ux_iconst C dL_law_804 rfl ?_
  refine ux_iadd C dL_law_805 ?_
  refine jx_sld C hX hbl hbb (jin (k := 2) (xs := xs) rfl (by omega) hL).1 ((jin (k := 2) (xs := xs) rfl (by omega) hL).2.trans e2) dL_law_806 ?_
  refine ux_aload_n C dL_law_807 5 rfl ?_
  refine ux_iload C dL_law_808 0 rfl ?_
  refine ux_iconst C dL_law_810 rfl ?_
  refine ux_iadd C dL_law_811 ?_
  refine jx_sld C hX hbl hbb (jin (k := 3) (xs := xs) rfl (by omega) hL).1 ((jin (k := 3) (xs := xs) rfl (by omega) hL).2.trans e3) dL_law_812 ?_
  refine ux_aload_n C dL_law_813 2 rfl ?_
  refine jx_callH C jSub_C (jGo_C a c a1) ch_L_163 dL_law_814 (kL_write (vC_ok C.traces) hF) rfl (Nat.le_of_ble_eq_true rfl) ⟨(Nat.le_of_ble_eq_true rfl), (Nat.le_of_ble_eq_true rfl)⟩ ⟨by omega, by omega⟩ ?_ rfl
  refine jx_istore C dL_law_817 rfl (Nat.le_of_ble_eq_true rfl) ?_
  refine ux_aload_n C dL_law_819 4 rfl ?_
  refine ux_aload_n C dL_law_820 6 rfl ?_
  refine ux_iload C dL_law_821 1 rfl ?_
  refine ux_iconst C dL_law_823 rfl ?_
  refine ux_iadd C dL_law_824 ?_
  refine jx_sld C hX hbl hbb (jin (k := 1) (xs := xs) rfl (by omega) hL).1 ((jin (k := 1) (xs := xs) rfl (by omega) hL).2.trans e1) dL_law_825 ?_
  refine ux_aload_n C dL_law_826 6 rfl ?_
  refine ux_iload C dL_law_827 1 rfl ?_
  refine ux_iconst C dL_law_829 rfl ?_
  refine ux_iadd C dL_law_830 ?_
  refine jx_sld C hX hbl hbb (jin (k := 2) (xs := xs) rfl (by omega) hL).1 ((jin (k := 2) (xs := xs) rfl (by omega) hL).2.trans e2) dL_law_831 ?_
  refine ux_aload_n C dL_law_832 6 rfl ?_
  refine ux_iload C dL_law_833 1 rfl ?_
  refine ux_iconst C dL_law_835 rfl ?_
  refine ux_iadd C dL_law_836 ?_
  refine jx_sld C hX hbl hbb (jin (k := 3) (xs := xs) rfl (by omega) hL).1 ((jin (k := 3) (xs := xs) rfl (by omega) hL).2.trans e3) dL_law_837 ?_
  refine jx_callV (As := [.int x1, .int x2, .int x3]) C jSub_M (jGo_M a1 c c1) cv_L_166 dL_law_838 (oM (vMj_ok C.traces)) rfl (kX8_write (vMj_ok C.traces) hG) rfl (Nat.le_of_ble_eq_true rfl) ⟨(Nat.le_of_ble_eq_true rfl), (Nat.le_of_ble_eq_true rfl)⟩ ⟨by omega, by omega⟩ ?_ rfl
  refine jx_istore C dL_law_841 rfl (Nat.le_of_ble_eq_true rfl) ?_
  refine ux_aload_n C dL_law_843 5 rfl ?_
  refine jx_callV (As := []) C jSub_M (jGo_M a1 c1 c1) cv_L_125 dL_law_844 (oM (vMj_ok C.traces)) rfl (kX8_thrown (vMj_ok C.traces) (r := c1.1 0 0) rfl) rfl (Nat.le_of_ble_eq_true rfl) ⟨(Nat.le_of_ble_eq_true rfl), (Nat.le_of_ble_eq_true rfl)⟩ ⟨by omega, by omega⟩ ?_ rfl
  refine ux_iload C dL_law_847 1 rfl ?_
  refine jx_same C dL_law_849 hT ?_
  refine ux_iload C dL_law_854 1 rfl ?_
  by_cases zk : k = 0
  · refine jx_ifne_f C dL_law_856 zk ?_
    refine ux_aload_n C dL_law_859 4 rfl ?_
    refine ux_iconst C dL_law_860 rfl ?_
    refine ux_laldK (j := 0) C jOut dL_law_861 (by decide) (by decide) ?_
    refine ux_iload C dL_law_862 0 rfl ?_
    by_cases zr : r = 0
    · refine jx_ifeq_t C dL_law_864 zr ?_
      refine ux_lconst C dL_law_871 rfl ?_
      refine ux_lcmp C dL_law_872 ?_
      refine jx_ifeq_t C dL_law_873 (lg_same ((hO zk).trans (if_pos zr))) ?_
      refine ux_goto C dL_law_878 ?_
      refine ux_sub [2, 3, 4, 5, 6, 7] rfl ?_
      refine ux_widen (k := cells + 8) (n := slots + 60) (by omega) (by omega) ?_
      exact K _ _ hP
    · refine jx_ifeq_f C dL_law_864 zr ?_
      refine ux_lconst C dL_law_867 rfl ?_
      refine ux_goto C dL_law_868 ?_
      refine ux_lcmp C dL_law_872 ?_
      refine jx_ifeq_t C dL_law_873 (lg_same ((hO zk).trans (if_neg zr))) ?_
      refine ux_goto C dL_law_878 ?_
      refine ux_sub [2, 3, 4, 5, 6, 7] rfl ?_
      refine ux_widen (k := cells + 8) (n := slots + 60) (by omega) (by omega) ?_
      exact K _ _ hP
  · refine jx_ifne_t C dL_law_856 zk ?_
    refine ux_goto C dL_law_878 ?_
    refine ux_sub [2, 3, 4, 5, 6, 7] rfl ?_
    refine ux_widen (k := cells + 8) (n := slots + 60) (by omega) (by omega) ?_
    exact K _ _ hP
theorem lc_12 {M : uM} {D : va_G} {base : Nat} {cB cI cJ cZ cD cO : ClassId} {sK sV : Nat → Nat} {b L : Nat} {xs : Nat → Int32} {Q : State → Prop} (C : uCx M (vJ D base cB cI cJ cZ cD cO sK sV) cL_law 9 RL 15 560 601024 7293034) (hX : va_X b L xs (mS M) (mS M).heap) (hbl : b < (mS M).heap.size) (hbb : ¬ base ≤ b) (hL : L ≤ 3072) {i : Nat} (hi : i + 6 ≤ L) {x1 : Int32} (e1 : xs (i + 1) = x1) {x2 : Int32} (e2 : xs (i + 2) = x2) {x3 : Int32} (e3 : xs (i + 3) = x3) {cells slots : Nat} (hc : cells + 8 ≤ 601024) (hs : slots + 60 ≤ 7293034) {a c : uSt} {R : uSt → uSt → Prop} (h : cKB (fL_wouldCache x1 x2 x3) (fX8_wouldCache x1 x2 x3) R a c) (K : ∀ a1 c1, R a1 c1 → uW M (vJ D base cB cI cJ cZ cD cO sK sV) Q 9 (cells + 8) (slots + 60) 2116 [(5, .int (nI i)), (4, .ref (vA (vC D base cB cI cJ cZ cD cO sK sV) 72)), (3, .ref (vA (vC D base cB cI cJ cZ cD cO sK sV) 71)), (2, .ref (vA (vM D (base + 71) cI cJ cZ (jB base) sK sV) 0)), (1, .ref (vA (vC D base cB cI cJ cZ cD cO sK sV) 0)), (0, .ref b)] [] (jS a1 c1)) : uW M (vJ D base cB cI cJ cZ cD cO sK sV) Q 9 cells slots 881 [(5, .int (nI i)), (4, .ref (vA (vC D base cB cI cJ cZ cD cO sK sV) 72)), (3, .ref (vA (vC D base cB cI cJ cZ cD cO sK sV) 71)), (2, .ref (vA (vM D (base + 71) cI cJ cZ (jB base) sK sV) 0)), (1, .ref (vA (vC D base cB cI cJ cZ cD cO sK sV) 0)), (0, .ref b)] [] (jS a c) := by
  obtain ⟨k, a1, r, c1, hF, hG, hT, hO, hP⟩ := h
  refine ux_aload_n C dL_law_881 4 rfl ?_
  refine ux_aload_n C dL_law_882 5 rfl ?_
  refine ux_iload C dL_law_883 0 rfl ?_
  refine ux_iconst C dL_law_885 rfl ?_
  refine ux_iadd C dL_law_886 ?_
  refine jx_sld C hX hbl hbb (jin (k := 1) (xs := xs) rfl (by omega) hL).1 ((jin (k := 1) (xs := xs) rfl (by omega) hL).2.trans e1) dL_law_887 ?_
  refine ux_aload_n C dL_law_888 5 rfl ?_
  refine ux_iload C dL_law_889 0 rfl ?_
  refine ux_iconst C dL_law_891 rfl ?_
  refine ux_iadd C dL_law_892 ?_
  refine jx_sld C hX hbl hbb (jin (k := 2) (xs := xs) rfl (by omega) hL).1 ((jin (k := 2) (xs := xs) rfl (by omega) hL).2.trans e2) dL_law_893 ?_
  refine ux_aload_n C dL_law_894 5 rfl ?_
  refine ux_iload C dL_law_895 0 rfl ?_
  refine ux_iconst C dL_law_897 rfl ?_
  refine ux_iadd C dL_law_898 ?_
  refine jx_sld C hX hbl hbb (jin (k := 3) (xs := xs) rfl (by omega) hL).1 ((jin (k := 3) (xs := xs) rfl (by omega) hL).2.trans e3) dL_law_899 ?_
  refine ux_aload_n C dL_law_900 2 rfl ?_
  refine jx_callH C jSub_C (jGo_C a c a1) ch_L_167 dL_law_901 (kL_wouldCache (vC_ok C.traces) hF) rfl (Nat.le_of_ble_eq_true rfl) ⟨(Nat.le_of_ble_eq_true rfl), (Nat.le_of_ble_eq_true rfl)⟩ ⟨by omega, by omega⟩ ?_ rfl
  refine jx_istore C dL_law_904 rfl (Nat.le_of_ble_eq_true rfl) ?_
  refine ux_aload_n C dL_law_906 4 rfl ?_
  refine ux_aload_n C dL_law_907 6 rfl ?_
  refine ux_iload C dL_law_908 1 rfl ?_
  refine ux_iconst C dL_law_910 rfl ?_
  refine ux_iadd C dL_law_911 ?_
  refine jx_sld C hX hbl hbb (jin (k := 1) (xs := xs) rfl (by omega) hL).1 ((jin (k := 1) (xs := xs) rfl (by omega) hL).2.trans e1) dL_law_912 ?_
  refine ux_aload_n C dL_law_913 6 rfl ?_
  refine ux_iload C dL_law_914 1 rfl ?_
  refine ux_iconst C dL_law_916 rfl ?_
  refine ux_iadd C dL_law_917 ?_
  refine jx_sld C hX hbl hbb (jin (k := 2) (xs := xs) rfl (by omega) hL).1 ((jin (k := 2) (xs := xs) rfl (by omega) hL).2.trans e2) dL_law_918 ?_
  refine ux_aload_n C dL_law_919 6 rfl ?_
  refine ux_iload C dL_law_920 1 rfl ?_
  refine ux_iconst C dL_law_922 rfl ?_
  refine ux_iadd C dL_law_923 ?_
  refine jx_sld C hX hbl hbb (jin (k := 3) (xs := xs) rfl (by omega) hL).1 ((jin (k := 3) (xs := xs) rfl (by omega) hL).2.trans e3) dL_law_924 ?_
  refine jx_callV (As := [.int x1, .int x2, .int x3]) C jSub_M (jGo_M a1 c c1) cv_L_169 dL_law_925 (oM (vMj_ok C.traces)) rfl (kX8_wouldCache (vMj_ok C.traces) hG) rfl (Nat.le_of_ble_eq_true rfl) ⟨(Nat.le_of_ble_eq_true rfl), (Nat.le_of_ble_eq_true rfl)⟩ ⟨by omega, by omega⟩ ?_ rfl
  refine jx_istore C dL_law_928 rfl (Nat.le_of_ble_eq_true rfl) ?_
  refine ux_aload_n C dL_law_930 5 rfl ?_
  refine jx_callV (As := []) C jSub_M (jGo_M a1 c1 c1) cv_L_125 dL_law_931 (oM (vMj_ok C.traces)) rfl (kX8_thrown (vMj_ok C.traces) (r := c1.1 0 0) rfl) rfl (Nat.le_of_ble_eq_true rfl) ⟨(Nat.le_of_ble_eq_true rfl), (Nat.le_of_ble_eq_true rfl)⟩ ⟨by omega, by omega⟩ ?_ rfl
  refine ux_iload C dL_law_934 1 rfl ?_
  refine jx_same C dL_law_936 hT ?_
  refine ux_iload C dL_law_941 1 rfl ?_
  by_cases zk : k = 0
  · refine jx_ifne_f C dL_law_943 zk ?_
    refine ux_aload_n C dL_law_946 4 rfl ?_
    refine ux_iconst C dL_law_947 rfl ?_
    refine ux_laldK (j := 0) C jOut dL_law_948 (by decide) (by decide) ?_
    refine ux_iload C dL_law_949 0 rfl ?_
    by_cases zr : r = 0
    · refine jx_ifeq_t C dL_law_951 zr ?_
      refine ux_lconst C dL_law_958 rfl ?_
      refine ux_lcmp C dL_law_959 ?_
      refine jx_ifeq_t C dL_law_960 (lg_same ((hO zk).trans (if_pos zr))) ?_
      refine ux_goto C dL_law_965 ?_
      refine ux_sub [2, 3, 4, 5, 6, 7] rfl ?_
      refine ux_widen (k := cells + 8) (n := slots + 60) (by omega) (by omega) ?_
      exact K _ _ hP
    · refine jx_ifeq_f C dL_law_951 zr ?_
      refine ux_lconst C dL_law_954 rfl ?_
      refine ux_goto C dL_law_955 ?_
      refine ux_lcmp C dL_law_959 ?_
      refine jx_ifeq_t C dL_law_960 (lg_same ((hO zk).trans (if_neg zr))) ?_
      refine ux_goto C dL_law_965 ?_
      refine ux_sub [2, 3, 4, 5, 6, 7] rfl ?_
      refine ux_widen (k := cells + 8) (n := slots + 60) (by omega) (by omega) ?_
      exact K _ _ hP
  · refine jx_ifne_t C dL_law_943 zk ?_
    refine ux_goto C dL_law_965 ?_
    refine ux_sub [2, 3, 4, 5, 6, 7] rfl ?_
    refine ux_widen (k := cells + 8) (n := slots + 60) (by omega) (by omega) ?_
    exact K _ _ hP
theorem lc_13 {M : uM} {D : va_G} {base : Nat} {cB cI cJ cZ cD cO : ClassId} {sK sV : Nat → Nat} {b L : Nat} {xs : Nat → Int32} {Q : State → Prop} (C : uCx M (vJ D base cB cI cJ cZ cD cO sK sV) cL_law 9 RL 15 560 601024 7293034) (hX : va_X b L xs (mS M) (mS M).heap) (hbl : b < (mS M).heap.size) (hbb : ¬ base ≤ b) (hL : L ≤ 3072) {i : Nat} (hi : i + 6 ≤ L) {x1 : Int32} (e1 : xs (i + 1) = x1) {cells slots : Nat} (hc : cells + 8 ≤ 601024) (hs : slots + 60 ≤ 7293034) {a c : uSt} {R : uSt → uSt → Prop} (h : cKI (fL_clean x1) (fX8_clean x1) R a c) (K : ∀ a1 c1, R a1 c1 → uW M (vJ D base cB cI cJ cZ cD cO sK sV) Q 9 (cells + 8) (slots + 60) 2116 [(5, .int (nI i)), (4, .ref (vA (vC D base cB cI cJ cZ cD cO sK sV) 72)), (3, .ref (vA (vC D base cB cI cJ cZ cD cO sK sV) 71)), (2, .ref (vA (vM D (base + 71) cI cJ cZ (jB base) sK sV) 0)), (1, .ref (vA (vC D base cB cI cJ cZ cD cO sK sV) 0)), (0, .ref b)] [] (jS a1 c1)) : uW M (vJ D base cB cI cJ cZ cD cO sK sV) Q 9 cells slots 968 [(5, .int (nI i)), (4, .ref (vA (vC D base cB cI cJ cZ cD cO sK sV) 72)), (3, .ref (vA (vC D base cB cI cJ cZ cD cO sK sV) 71)), (2, .ref (vA (vM D (base + 71) cI cJ cZ (jB base) sK sV) 0)), (1, .ref (vA (vC D base cB cI cJ cZ cD cO sK sV) 0)), (0, .ref b)] [] (jS a c) := by
  obtain ⟨k, a1, r, c1, hF, hG, hT, hO, hP⟩ := h
  refine ux_aload_n C dL_law_968 4 rfl ?_
  refine ux_aload_n C dL_law_969 5 rfl ?_
  refine ux_iload C dL_law_970 0 rfl ?_
  refine ux_iconst C dL_law_972 rfl ?_
  refine ux_iadd C dL_law_973 ?_
  refine jx_sld C hX hbl hbb (jin (k := 1) (xs := xs) rfl (by omega) hL).1 ((jin (k := 1) (xs := xs) rfl (by omega) hL).2.trans e1) dL_law_974 ?_
  refine ux_aload_n C dL_law_975 2 rfl ?_
  refine jx_callH C jSub_C (jGo_C a c a1) ch_L_170 dL_law_976 (kL_clean (vC_ok C.traces) hF) rfl (Nat.le_of_ble_eq_true rfl) ⟨(Nat.le_of_ble_eq_true rfl), (Nat.le_of_ble_eq_true rfl)⟩ ⟨by omega, by omega⟩ ?_ rfl
  refine jx_istore C dL_law_979 rfl (Nat.le_of_ble_eq_true rfl) ?_
  refine ux_aload_n C dL_law_981 4 rfl ?_
  refine ux_aload_n C dL_law_982 6 rfl ?_
  refine ux_iload C dL_law_983 1 rfl ?_
  refine ux_iconst C dL_law_985 rfl ?_
  refine ux_iadd C dL_law_986 ?_
  refine jx_sld C hX hbl hbb (jin (k := 1) (xs := xs) rfl (by omega) hL).1 ((jin (k := 1) (xs := xs) rfl (by omega) hL).2.trans e1) dL_law_987 ?_
  refine jx_callV (As := [.int x1]) C jSub_M (jGo_M a1 c c1) cv_L_172 dL_law_988 (oM (vMj_ok C.traces)) rfl (kX8_clean (vMj_ok C.traces) hG) rfl (Nat.le_of_ble_eq_true rfl) ⟨(Nat.le_of_ble_eq_true rfl), (Nat.le_of_ble_eq_true rfl)⟩ ⟨by omega, by omega⟩ ?_ rfl
  refine jx_istore C dL_law_991 rfl (Nat.le_of_ble_eq_true rfl) ?_
  refine ux_aload_n C dL_law_993 5 rfl ?_
  refine jx_callV (As := []) C jSub_M (jGo_M a1 c1 c1) cv_L_125 dL_law_994 (oM (vMj_ok C.traces)) rfl (kX8_thrown (vMj_ok C.traces) (r := c1.1 0 0) rfl) rfl (Nat.le_of_ble_eq_true rfl) ⟨(Nat.le_of_ble_eq_true rfl), (Nat.le_of_ble_eq_true rfl)⟩ ⟨by omega, by omega⟩ ?_ rfl
  refine ux_iload C dL_law_997 1 rfl ?_
  refine jx_same C dL_law_999 hT ?_
  refine ux_iload C dL_law_1004 1 rfl ?_
  by_cases zk : k = 0
  · refine jx_ifne_f C dL_law_1006 zk ?_
    refine ux_aload_n C dL_law_1009 4 rfl ?_
    refine ux_iconst C dL_law_1010 rfl ?_
    refine ux_laldK (j := 0) C jOut dL_law_1011 (by decide) (by decide) ?_
    refine ux_iload C dL_law_1012 0 rfl ?_
    refine ux_i2l C dL_law_1014 ?_
    refine ux_lcmp C dL_law_1015 ?_
    refine jx_ifeq_t C dL_law_1016 (lg_same (hO zk)) ?_
    refine ux_goto C dL_law_1021 ?_
    refine ux_sub [2, 3, 4, 5, 6, 7] rfl ?_
    refine ux_widen (k := cells + 8) (n := slots + 60) (by omega) (by omega) ?_
    exact K _ _ hP
  · refine jx_ifne_t C dL_law_1006 zk ?_
    refine ux_goto C dL_law_1021 ?_
    refine ux_sub [2, 3, 4, 5, 6, 7] rfl ?_
    refine ux_widen (k := cells + 8) (n := slots + 60) (by omega) (by omega) ?_
    exact K _ _ hP
theorem lc_14 {M : uM} {D : va_G} {base : Nat} {cB cI cJ cZ cD cO : ClassId} {sK sV : Nat → Nat} {b L : Nat} {xs : Nat → Int32} {Q : State → Prop} (C : uCx M (vJ D base cB cI cJ cZ cD cO sK sV) cL_law 9 RL 15 560 601024 7293034) (hX : va_X b L xs (mS M) (mS M).heap) (hbl : b < (mS M).heap.size) (hbb : ¬ base ≤ b) (hL : L ≤ 3072) {i : Nat} (hi : i + 6 ≤ L) {x1 : Int32} (e1 : xs (i + 1) = x1) {x2 : Int32} (e2 : xs (i + 2) = x2) {cells slots : Nat} (hc : cells + 8 ≤ 601024) (hs : slots + 60 ≤ 7293034) {a c : uSt} {R : uSt → uSt → Prop} (h : cKB (fL_setFailed x1 (bz x2)) (fX8_setFailed x1 (bz x2)) R a c) (K : ∀ a1 c1, R a1 c1 → uW M (vJ D base cB cI cJ cZ cD cO sK sV) Q 9 (cells + 8) (slots + 60) 2116 [(5, .int (nI i)), (4, .ref (vA (vC D base cB cI cJ cZ cD cO sK sV) 72)), (3, .ref (vA (vC D base cB cI cJ cZ cD cO sK sV) 71)), (2, .ref (vA (vM D (base + 71) cI cJ cZ (jB base) sK sV) 0)), (1, .ref (vA (vC D base cB cI cJ cZ cD cO sK sV) 0)), (0, .ref b)] [] (jS a1 c1)) : uW M (vJ D base cB cI cJ cZ cD cO sK sV) Q 9 cells slots 1024 [(5, .int (nI i)), (4, .ref (vA (vC D base cB cI cJ cZ cD cO sK sV) 72)), (3, .ref (vA (vC D base cB cI cJ cZ cD cO sK sV) 71)), (2, .ref (vA (vM D (base + 71) cI cJ cZ (jB base) sK sV) 0)), (1, .ref (vA (vC D base cB cI cJ cZ cD cO sK sV) 0)), (0, .ref b)] [] (jS a c) := by
  obtain ⟨k, a1, r, c1, hF, hG, hT, hO, hP⟩ := h
  by_cases zx2 : x2 = 0
  · rw [show bz x2 = 0 from if_pos zx2] at hF hG
    refine ux_aload_n C dL_law_1024 4 rfl ?_
    refine ux_aload_n C dL_law_1025 5 rfl ?_
    refine ux_iload C dL_law_1026 0 rfl ?_
    refine ux_iconst C dL_law_1028 rfl ?_
    refine ux_iadd C dL_law_1029 ?_
    refine jx_sld C hX hbl hbb (jin (k := 1) (xs := xs) rfl (by omega) hL).1 ((jin (k := 1) (xs := xs) rfl (by omega) hL).2.trans e1) dL_law_1030 ?_
    refine ux_aload_n C dL_law_1031 5 rfl ?_
    refine ux_iload C dL_law_1032 0 rfl ?_
    refine ux_iconst C dL_law_1034 rfl ?_
    refine ux_iadd C dL_law_1035 ?_
    refine jx_sld C hX hbl hbb (jin (k := 2) (xs := xs) rfl (by omega) hL).1 ((jin (k := 2) (xs := xs) rfl (by omega) hL).2.trans e2) dL_law_1036 ?_
    refine jx_ifeq_t C dL_law_1037 zx2 ?_
    refine ux_iconst C dL_law_1044 rfl ?_
    refine ux_aload_n C dL_law_1045 2 rfl ?_
    refine jx_callH C jSub_C (jGo_C a c a1) ch_L_173 dL_law_1046 (kL_setFailed (vC_ok C.traces) hF) rfl (Nat.le_of_ble_eq_true rfl) ⟨(Nat.le_of_ble_eq_true rfl), (Nat.le_of_ble_eq_true rfl)⟩ ⟨by omega, by omega⟩ ?_ rfl
    refine jx_istore C dL_law_1049 rfl (Nat.le_of_ble_eq_true rfl) ?_
    refine ux_aload_n C dL_law_1051 4 rfl ?_
    refine ux_aload_n C dL_law_1052 6 rfl ?_
    refine ux_iload C dL_law_1053 1 rfl ?_
    refine ux_iconst C dL_law_1055 rfl ?_
    refine ux_iadd C dL_law_1056 ?_
    refine jx_sld C hX hbl hbb (jin (k := 1) (xs := xs) rfl (by omega) hL).1 ((jin (k := 1) (xs := xs) rfl (by omega) hL).2.trans e1) dL_law_1057 ?_
    refine ux_aload_n C dL_law_1058 6 rfl ?_
    refine ux_iload C dL_law_1059 1 rfl ?_
    refine ux_iconst C dL_law_1061 rfl ?_
    refine ux_iadd C dL_law_1062 ?_
    refine jx_sld C hX hbl hbb (jin (k := 2) (xs := xs) rfl (by omega) hL).1 ((jin (k := 2) (xs := xs) rfl (by omega) hL).2.trans e2) dL_law_1063 ?_
    refine jx_ifeq_t C dL_law_1064 zx2 ?_
    refine ux_iconst C dL_law_1071 rfl ?_
    refine jx_callV (As := [.int x1, .int ((0 : Int32))]) C jSub_M (jGo_M a1 c c1) cv_L_176 dL_law_1072 (oM (vMj_ok C.traces)) rfl (kX8_setFailed (vMj_ok C.traces) hG) rfl (Nat.le_of_ble_eq_true rfl) ⟨(Nat.le_of_ble_eq_true rfl), (Nat.le_of_ble_eq_true rfl)⟩ ⟨by omega, by omega⟩ ?_ rfl
    refine jx_istore C dL_law_1075 rfl (Nat.le_of_ble_eq_true rfl) ?_
    refine ux_aload_n C dL_law_1077 5 rfl ?_
    refine jx_callV (As := []) C jSub_M (jGo_M a1 c1 c1) cv_L_125 dL_law_1078 (oM (vMj_ok C.traces)) rfl (kX8_thrown (vMj_ok C.traces) (r := c1.1 0 0) rfl) rfl (Nat.le_of_ble_eq_true rfl) ⟨(Nat.le_of_ble_eq_true rfl), (Nat.le_of_ble_eq_true rfl)⟩ ⟨by omega, by omega⟩ ?_ rfl
    refine ux_iload C dL_law_1081 1 rfl ?_
    refine jx_same C dL_law_1083 hT ?_
    refine ux_iload C dL_law_1088 1 rfl ?_
    by_cases zk : k = 0
    · refine jx_ifne_f C dL_law_1090 zk ?_
      refine ux_aload_n C dL_law_1093 4 rfl ?_
      refine ux_iconst C dL_law_1094 rfl ?_
      refine ux_laldK (j := 0) C jOut dL_law_1095 (by decide) (by decide) ?_
      refine ux_iload C dL_law_1096 0 rfl ?_
      by_cases zr : r = 0
      · refine jx_ifeq_t C dL_law_1098 zr ?_
        refine ux_lconst C dL_law_1105 rfl ?_
        refine ux_lcmp C dL_law_1106 ?_
        refine jx_ifeq_t C dL_law_1107 (lg_same ((hO zk).trans (if_pos zr))) ?_
        refine ux_goto C dL_law_1112 ?_
        refine ux_sub [2, 3, 4, 5, 6, 7] rfl ?_
        refine ux_widen (k := cells + 8) (n := slots + 60) (by omega) (by omega) ?_
        exact K _ _ hP
      · refine jx_ifeq_f C dL_law_1098 zr ?_
        refine ux_lconst C dL_law_1101 rfl ?_
        refine ux_goto C dL_law_1102 ?_
        refine ux_lcmp C dL_law_1106 ?_
        refine jx_ifeq_t C dL_law_1107 (lg_same ((hO zk).trans (if_neg zr))) ?_
        refine ux_goto C dL_law_1112 ?_
        refine ux_sub [2, 3, 4, 5, 6, 7] rfl ?_
        refine ux_widen (k := cells + 8) (n := slots + 60) (by omega) (by omega) ?_
        exact K _ _ hP
    · refine jx_ifne_t C dL_law_1090 zk ?_
      refine ux_goto C dL_law_1112 ?_
      refine ux_sub [2, 3, 4, 5, 6, 7] rfl ?_
      refine ux_widen (k := cells + 8) (n := slots + 60) (by omega) (by omega) ?_
      exact K _ _ hP
  · rw [show bz x2 = 1 from if_neg zx2] at hF hG
    refine ux_aload_n C dL_law_1024 4 rfl ?_
    refine ux_aload_n C dL_law_1025 5 rfl ?_
    refine ux_iload C dL_law_1026 0 rfl ?_
    refine ux_iconst C dL_law_1028 rfl ?_
    refine ux_iadd C dL_law_1029 ?_
    refine jx_sld C hX hbl hbb (jin (k := 1) (xs := xs) rfl (by omega) hL).1 ((jin (k := 1) (xs := xs) rfl (by omega) hL).2.trans e1) dL_law_1030 ?_
    refine ux_aload_n C dL_law_1031 5 rfl ?_
    refine ux_iload C dL_law_1032 0 rfl ?_
    refine ux_iconst C dL_law_1034 rfl ?_
    refine ux_iadd C dL_law_1035 ?_
    refine jx_sld C hX hbl hbb (jin (k := 2) (xs := xs) rfl (by omega) hL).1 ((jin (k := 2) (xs := xs) rfl (by omega) hL).2.trans e2) dL_law_1036 ?_
    refine jx_ifeq_f C dL_law_1037 zx2 ?_
    refine ux_iconst C dL_law_1040 rfl ?_
    refine ux_goto C dL_law_1041 ?_
    refine ux_aload_n C dL_law_1045 2 rfl ?_
    refine jx_callH C jSub_C (jGo_C a c a1) ch_L_173 dL_law_1046 (kL_setFailed (vC_ok C.traces) hF) rfl (Nat.le_of_ble_eq_true rfl) ⟨(Nat.le_of_ble_eq_true rfl), (Nat.le_of_ble_eq_true rfl)⟩ ⟨by omega, by omega⟩ ?_ rfl
    refine jx_istore C dL_law_1049 rfl (Nat.le_of_ble_eq_true rfl) ?_
    refine ux_aload_n C dL_law_1051 4 rfl ?_
    refine ux_aload_n C dL_law_1052 6 rfl ?_
    refine ux_iload C dL_law_1053 1 rfl ?_
    refine ux_iconst C dL_law_1055 rfl ?_
    refine ux_iadd C dL_law_1056 ?_
    refine jx_sld C hX hbl hbb (jin (k := 1) (xs := xs) rfl (by omega) hL).1 ((jin (k := 1) (xs := xs) rfl (by omega) hL).2.trans e1) dL_law_1057 ?_
    refine ux_aload_n C dL_law_1058 6 rfl ?_
    refine ux_iload C dL_law_1059 1 rfl ?_
    refine ux_iconst C dL_law_1061 rfl ?_
    refine ux_iadd C dL_law_1062 ?_
    refine jx_sld C hX hbl hbb (jin (k := 2) (xs := xs) rfl (by omega) hL).1 ((jin (k := 2) (xs := xs) rfl (by omega) hL).2.trans e2) dL_law_1063 ?_
    refine jx_ifeq_f C dL_law_1064 zx2 ?_
    refine ux_iconst C dL_law_1067 rfl ?_
    refine ux_goto C dL_law_1068 ?_
    refine jx_callV (As := [.int x1, .int ((1 : Int32))]) C jSub_M (jGo_M a1 c c1) cv_L_176 dL_law_1072 (oM (vMj_ok C.traces)) rfl (kX8_setFailed (vMj_ok C.traces) hG) rfl (Nat.le_of_ble_eq_true rfl) ⟨(Nat.le_of_ble_eq_true rfl), (Nat.le_of_ble_eq_true rfl)⟩ ⟨by omega, by omega⟩ ?_ rfl
    refine jx_istore C dL_law_1075 rfl (Nat.le_of_ble_eq_true rfl) ?_
    refine ux_aload_n C dL_law_1077 5 rfl ?_
    refine jx_callV (As := []) C jSub_M (jGo_M a1 c1 c1) cv_L_125 dL_law_1078 (oM (vMj_ok C.traces)) rfl (kX8_thrown (vMj_ok C.traces) (r := c1.1 0 0) rfl) rfl (Nat.le_of_ble_eq_true rfl) ⟨(Nat.le_of_ble_eq_true rfl), (Nat.le_of_ble_eq_true rfl)⟩ ⟨by omega, by omega⟩ ?_ rfl
    refine ux_iload C dL_law_1081 1 rfl ?_
    refine jx_same C dL_law_1083 hT ?_
    refine ux_iload C dL_law_1088 1 rfl ?_
    by_cases zk : k = 0
    · refine jx_ifne_f C dL_law_1090 zk ?_
      refine ux_aload_n C dL_law_1093 4 rfl ?_
      refine ux_iconst C dL_law_1094 rfl ?_
      refine ux_laldK (j := 0) C jOut dL_law_1095 (by decide) (by decide) ?_
      refine ux_iload C dL_law_1096 0 rfl ?_
      by_cases zr : r = 0
      · refine jx_ifeq_t C dL_law_1098 zr ?_
        refine ux_lconst C dL_law_1105 rfl ?_
        refine ux_lcmp C dL_law_1106 ?_
        refine jx_ifeq_t C dL_law_1107 (lg_same ((hO zk).trans (if_pos zr))) ?_
        refine ux_goto C dL_law_1112 ?_
        refine ux_sub [2, 3, 4, 5, 6, 7] rfl ?_
        refine ux_widen (k := cells + 8) (n := slots + 60) (by omega) (by omega) ?_
        exact K _ _ hP
      · refine jx_ifeq_f C dL_law_1098 zr ?_
        refine ux_lconst C dL_law_1101 rfl ?_
        refine ux_goto C dL_law_1102 ?_
        refine ux_lcmp C dL_law_1106 ?_
        refine jx_ifeq_t C dL_law_1107 (lg_same ((hO zk).trans (if_neg zr))) ?_
        refine ux_goto C dL_law_1112 ?_
        refine ux_sub [2, 3, 4, 5, 6, 7] rfl ?_
        refine ux_widen (k := cells + 8) (n := slots + 60) (by omega) (by omega) ?_
        exact K _ _ hP
    · refine jx_ifne_t C dL_law_1090 zk ?_
      refine ux_goto C dL_law_1112 ?_
      refine ux_sub [2, 3, 4, 5, 6, 7] rfl ?_
      refine ux_widen (k := cells + 8) (n := slots + 60) (by omega) (by omega) ?_
      exact K _ _ hP
theorem lc_15 {M : uM} {D : va_G} {base : Nat} {cB cI cJ cZ cD cO : ClassId} {sK sV : Nat → Nat} {b L : Nat} {xs : Nat → Int32} {Q : State → Prop} (C : uCx M (vJ D base cB cI cJ cZ cD cO sK sV) cL_law 9 RL 15 560 601024 7293034) (hX : va_X b L xs (mS M) (mS M).heap) (hbl : b < (mS M).heap.size) (hbb : ¬ base ≤ b) (hL : L ≤ 3072) {i : Nat} (hi : i + 6 ≤ L) {x1 : Int32} (e1 : xs (i + 1) = x1) {x2 : Int32} (e2 : xs (i + 2) = x2) {cells slots : Nat} (hc : cells + 8 ≤ 601024) (hs : slots + 60 ≤ 7293034) {a c : uSt} {R : uSt → uSt → Prop} (h : cKI (fL_setMode x1 x2) (fX8_setMode x1 x2) R a c) (K : ∀ a1 c1, R a1 c1 → uW M (vJ D base cB cI cJ cZ cD cO sK sV) Q 9 (cells + 8) (slots + 60) 2116 [(5, .int (nI i)), (4, .ref (vA (vC D base cB cI cJ cZ cD cO sK sV) 72)), (3, .ref (vA (vC D base cB cI cJ cZ cD cO sK sV) 71)), (2, .ref (vA (vM D (base + 71) cI cJ cZ (jB base) sK sV) 0)), (1, .ref (vA (vC D base cB cI cJ cZ cD cO sK sV) 0)), (0, .ref b)] [] (jS a1 c1)) : uW M (vJ D base cB cI cJ cZ cD cO sK sV) Q 9 cells slots 1115 [(5, .int (nI i)), (4, .ref (vA (vC D base cB cI cJ cZ cD cO sK sV) 72)), (3, .ref (vA (vC D base cB cI cJ cZ cD cO sK sV) 71)), (2, .ref (vA (vM D (base + 71) cI cJ cZ (jB base) sK sV) 0)), (1, .ref (vA (vC D base cB cI cJ cZ cD cO sK sV) 0)), (0, .ref b)] [] (jS a c) := by
  obtain ⟨k, a1, r, c1, hF, hG, hT, hO, hP⟩ := h
  refine ux_aload_n C dL_law_1115 4 rfl ?_
  refine ux_aload_n C dL_law_1116 5 rfl ?_
  refine ux_iload C dL_law_1117 0 rfl ?_
  refine ux_iconst C dL_law_1119 rfl ?_
  refine ux_iadd C dL_law_1120 ?_
  refine jx_sld C hX hbl hbb (jin (k := 1) (xs := xs) rfl (by omega) hL).1 ((jin (k := 1) (xs := xs) rfl (by omega) hL).2.trans e1) dL_law_1121 ?_
  refine ux_aload_n C dL_law_1122 5 rfl ?_
  refine ux_iload C dL_law_1123 0 rfl ?_
  refine ux_iconst C dL_law_1125 rfl ?_
  refine ux_iadd C dL_law_1126 ?_
  refine jx_sld C hX hbl hbb (jin (k := 2) (xs := xs) rfl (by omega) hL).1 ((jin (k := 2) (xs := xs) rfl (by omega) hL).2.trans e2) dL_law_1127 ?_
  refine ux_aload_n C dL_law_1128 2 rfl ?_
  refine jx_callH C jSub_C (jGo_C a c a1) ch_L_177 dL_law_1129 (kL_setMode (vC_ok C.traces) hF) rfl (Nat.le_of_ble_eq_true rfl) ⟨(Nat.le_of_ble_eq_true rfl), (Nat.le_of_ble_eq_true rfl)⟩ ⟨by omega, by omega⟩ ?_ rfl
  refine jx_istore C dL_law_1132 rfl (Nat.le_of_ble_eq_true rfl) ?_
  refine ux_aload_n C dL_law_1134 4 rfl ?_
  refine ux_aload_n C dL_law_1135 6 rfl ?_
  refine ux_iload C dL_law_1136 1 rfl ?_
  refine ux_iconst C dL_law_1138 rfl ?_
  refine ux_iadd C dL_law_1139 ?_
  refine jx_sld C hX hbl hbb (jin (k := 1) (xs := xs) rfl (by omega) hL).1 ((jin (k := 1) (xs := xs) rfl (by omega) hL).2.trans e1) dL_law_1140 ?_
  refine ux_aload_n C dL_law_1141 6 rfl ?_
  refine ux_iload C dL_law_1142 1 rfl ?_
  refine ux_iconst C dL_law_1144 rfl ?_
  refine ux_iadd C dL_law_1145 ?_
  refine jx_sld C hX hbl hbb (jin (k := 2) (xs := xs) rfl (by omega) hL).1 ((jin (k := 2) (xs := xs) rfl (by omega) hL).2.trans e2) dL_law_1146 ?_
  refine jx_callV (As := [.int x1, .int x2]) C jSub_M (jGo_M a1 c c1) cv_L_179 dL_law_1147 (oM (vMj_ok C.traces)) rfl (kX8_setMode (vMj_ok C.traces) hG) rfl (Nat.le_of_ble_eq_true rfl) ⟨(Nat.le_of_ble_eq_true rfl), (Nat.le_of_ble_eq_true rfl)⟩ ⟨by omega, by omega⟩ ?_ rfl
  refine jx_istore C dL_law_1150 rfl (Nat.le_of_ble_eq_true rfl) ?_
  refine ux_aload_n C dL_law_1152 5 rfl ?_
  refine jx_callV (As := []) C jSub_M (jGo_M a1 c1 c1) cv_L_125 dL_law_1153 (oM (vMj_ok C.traces)) rfl (kX8_thrown (vMj_ok C.traces) (r := c1.1 0 0) rfl) rfl (Nat.le_of_ble_eq_true rfl) ⟨(Nat.le_of_ble_eq_true rfl), (Nat.le_of_ble_eq_true rfl)⟩ ⟨by omega, by omega⟩ ?_ rfl
  refine ux_iload C dL_law_1156 1 rfl ?_
  refine jx_same C dL_law_1158 hT ?_
  refine ux_iload C dL_law_1163 1 rfl ?_
  by_cases zk : k = 0
  · refine jx_ifne_f C dL_law_1165 zk ?_
    refine ux_aload_n C dL_law_1168 4 rfl ?_
    refine ux_iconst C dL_law_1169 rfl ?_
    refine ux_laldK (j := 0) C jOut dL_law_1170 (by decide) (by decide) ?_
    refine ux_iload C dL_law_1171 0 rfl ?_
    refine ux_i2l C dL_law_1173 ?_
    refine ux_lcmp C dL_law_1174 ?_
    refine jx_ifeq_t C dL_law_1175 (lg_same (hO zk)) ?_
    refine ux_goto C dL_law_1180 ?_
    refine ux_sub [2, 3, 4, 5, 6, 7] rfl ?_
    refine ux_widen (k := cells + 8) (n := slots + 60) (by omega) (by omega) ?_
    exact K _ _ hP
  · refine jx_ifne_t C dL_law_1165 zk ?_
    refine ux_goto C dL_law_1180 ?_
    refine ux_sub [2, 3, 4, 5, 6, 7] rfl ?_
    refine ux_widen (k := cells + 8) (n := slots + 60) (by omega) (by omega) ?_
    exact K _ _ hP
theorem lc_16 {M : uM} {D : va_G} {base : Nat} {cB cI cJ cZ cD cO : ClassId} {sK sV : Nat → Nat} {b L : Nat} {xs : Nat → Int32} {Q : State → Prop} (C : uCx M (vJ D base cB cI cJ cZ cD cO sK sV) cL_law 9 RL 15 560 601024 7293034) (hX : va_X b L xs (mS M) (mS M).heap) (hbl : b < (mS M).heap.size) (hbb : ¬ base ≤ b) (hL : L ≤ 3072) {i : Nat} (hi : i + 6 ≤ L) {x1 : Int32} (e1 : xs (i + 1) = x1) {cells slots : Nat} (hc : cells + 8 ≤ 601024) (hs : slots + 60 ≤ 7293034) {a c : uSt} {R : uSt → uSt → Prop} (h : cQ1 (fX7_setPower (bz x1)) (fX8_setPower (bz x1)) R a c) (K : ∀ a1 c1, R a1 c1 → uW M (vJ D base cB cI cJ cZ cD cO sK sV) Q 9 (cells + 8) (slots + 60) 2116 [(5, .int (nI i)), (4, .ref (vA (vC D base cB cI cJ cZ cD cO sK sV) 72)), (3, .ref (vA (vC D base cB cI cJ cZ cD cO sK sV) 71)), (2, .ref (vA (vM D (base + 71) cI cJ cZ (jB base) sK sV) 0)), (1, .ref (vA (vC D base cB cI cJ cZ cD cO sK sV) 0)), (0, .ref b)] [] (jS a1 c1)) : uW M (vJ D base cB cI cJ cZ cD cO sK sV) Q 9 cells slots 1183 [(5, .int (nI i)), (4, .ref (vA (vC D base cB cI cJ cZ cD cO sK sV) 72)), (3, .ref (vA (vC D base cB cI cJ cZ cD cO sK sV) 71)), (2, .ref (vA (vM D (base + 71) cI cJ cZ (jB base) sK sV) 0)), (1, .ref (vA (vC D base cB cI cJ cZ cD cO sK sV) 0)), (0, .ref b)] [] (jS a c) := by
  obtain ⟨r, a1, c1, hF, hG, hP⟩ := h
  by_cases zx1 : x1 = 0
  · rw [show bz x1 = 0 from if_pos zx1] at hF hG
    refine ux_aload_n C dL_law_1183 4 rfl ?_
    refine ux_aload_n C dL_law_1184 5 rfl ?_
    refine ux_iload C dL_law_1185 0 rfl ?_
    refine ux_iconst C dL_law_1187 rfl ?_
    refine ux_iadd C dL_law_1188 ?_
    refine jx_sld C hX hbl hbb (jin (k := 1) (xs := xs) rfl (by omega) hL).1 ((jin (k := 1) (xs := xs) rfl (by omega) hL).2.trans e1) dL_law_1189 ?_
    refine jx_ifeq_t C dL_law_1190 zx1 ?_
    refine ux_iconst C dL_law_1197 rfl ?_
    refine jx_callV (As := [.int ((0 : Int32))]) C jSub_C (jGo_C a c a1) cv_L_180 dL_law_1198 (oF (vC_ok C.traces)) rfl (kX7_setPower (vC_ok C.traces) hF) rfl (Nat.le_of_ble_eq_true rfl) ⟨(Nat.le_of_ble_eq_true rfl), (Nat.le_of_ble_eq_true rfl)⟩ ⟨by omega, by omega⟩ ?_ rfl
    refine ux_aload_n C dL_law_1201 3 rfl ?_
    refine ux_aload_n C dL_law_1202 5 rfl ?_
    refine ux_iload C dL_law_1203 0 rfl ?_
    refine ux_iconst C dL_law_1205 rfl ?_
    refine ux_iadd C dL_law_1206 ?_
    refine jx_sld C hX hbl hbb (jin (k := 1) (xs := xs) rfl (by omega) hL).1 ((jin (k := 1) (xs := xs) rfl (by omega) hL).2.trans e1) dL_law_1207 ?_
    refine jx_ifeq_t C dL_law_1208 zx1 ?_
    refine ux_iconst C dL_law_1215 rfl ?_
    refine jx_callV (As := [.int ((0 : Int32))]) C jSub_M (jGo_M a1 c c1) cv_L_184 dL_law_1216 (oM (vMj_ok C.traces)) rfl (kX8_setPower (vMj_ok C.traces) hG) rfl (Nat.le_of_ble_eq_true rfl) ⟨(Nat.le_of_ble_eq_true rfl), (Nat.le_of_ble_eq_true rfl)⟩ ⟨by omega, by omega⟩ ?_ rfl
    refine jx_same C dL_law_1219 rfl ?_
    refine ux_widen (k := cells + 8) (n := slots + 60) (by omega) (by omega) ?_
    exact K _ _ hP
  · rw [show bz x1 = 1 from if_neg zx1] at hF hG
    refine ux_aload_n C dL_law_1183 4 rfl ?_
    refine ux_aload_n C dL_law_1184 5 rfl ?_
    refine ux_iload C dL_law_1185 0 rfl ?_
    refine ux_iconst C dL_law_1187 rfl ?_
    refine ux_iadd C dL_law_1188 ?_
    refine jx_sld C hX hbl hbb (jin (k := 1) (xs := xs) rfl (by omega) hL).1 ((jin (k := 1) (xs := xs) rfl (by omega) hL).2.trans e1) dL_law_1189 ?_
    refine jx_ifeq_f C dL_law_1190 zx1 ?_
    refine ux_iconst C dL_law_1193 rfl ?_
    refine ux_goto C dL_law_1194 ?_
    refine jx_callV (As := [.int ((1 : Int32))]) C jSub_C (jGo_C a c a1) cv_L_180 dL_law_1198 (oF (vC_ok C.traces)) rfl (kX7_setPower (vC_ok C.traces) hF) rfl (Nat.le_of_ble_eq_true rfl) ⟨(Nat.le_of_ble_eq_true rfl), (Nat.le_of_ble_eq_true rfl)⟩ ⟨by omega, by omega⟩ ?_ rfl
    refine ux_aload_n C dL_law_1201 3 rfl ?_
    refine ux_aload_n C dL_law_1202 5 rfl ?_
    refine ux_iload C dL_law_1203 0 rfl ?_
    refine ux_iconst C dL_law_1205 rfl ?_
    refine ux_iadd C dL_law_1206 ?_
    refine jx_sld C hX hbl hbb (jin (k := 1) (xs := xs) rfl (by omega) hL).1 ((jin (k := 1) (xs := xs) rfl (by omega) hL).2.trans e1) dL_law_1207 ?_
    refine jx_ifeq_f C dL_law_1208 zx1 ?_
    refine ux_iconst C dL_law_1211 rfl ?_
    refine ux_goto C dL_law_1212 ?_
    refine jx_callV (As := [.int ((1 : Int32))]) C jSub_M (jGo_M a1 c c1) cv_L_184 dL_law_1216 (oM (vMj_ok C.traces)) rfl (kX8_setPower (vMj_ok C.traces) hG) rfl (Nat.le_of_ble_eq_true rfl) ⟨(Nat.le_of_ble_eq_true rfl), (Nat.le_of_ble_eq_true rfl)⟩ ⟨by omega, by omega⟩ ?_ rfl
    refine jx_same C dL_law_1219 rfl ?_
    refine ux_widen (k := cells + 8) (n := slots + 60) (by omega) (by omega) ?_
    exact K _ _ hP
theorem lc_17 {M : uM} {D : va_G} {base : Nat} {cB cI cJ cZ cD cO : ClassId} {sK sV : Nat → Nat} {b L : Nat} {xs : Nat → Int32} {Q : State → Prop} (C : uCx M (vJ D base cB cI cJ cZ cD cO sK sV) cL_law 9 RL 15 560 601024 7293034) (hX : va_X b L xs (mS M) (mS M).heap) (hbl : b < (mS M).heap.size) (hbb : ¬ base ≤ b) (hL : L ≤ 3072) {i : Nat} (hi : i + 6 ≤ L) {x1 : Int32} (e1 : xs (i + 1) = x1) {cells slots : Nat} (hc : cells + 8 ≤ 601024) (hs : slots + 60 ≤ 7293034) {a c : uSt} {R : uSt → uSt → Prop} (h : cKI (fL_advance x1) (fX8_advance x1) R a c) (K : ∀ a1 c1, R a1 c1 → uW M (vJ D base cB cI cJ cZ cD cO sK sV) Q 9 (cells + 8) (slots + 60) 2116 [(5, .int (nI i)), (4, .ref (vA (vC D base cB cI cJ cZ cD cO sK sV) 72)), (3, .ref (vA (vC D base cB cI cJ cZ cD cO sK sV) 71)), (2, .ref (vA (vM D (base + 71) cI cJ cZ (jB base) sK sV) 0)), (1, .ref (vA (vC D base cB cI cJ cZ cD cO sK sV) 0)), (0, .ref b)] [] (jS a1 c1)) : uW M (vJ D base cB cI cJ cZ cD cO sK sV) Q 9 cells slots 1224 [(5, .int (nI i)), (4, .ref (vA (vC D base cB cI cJ cZ cD cO sK sV) 72)), (3, .ref (vA (vC D base cB cI cJ cZ cD cO sK sV) 71)), (2, .ref (vA (vM D (base + 71) cI cJ cZ (jB base) sK sV) 0)), (1, .ref (vA (vC D base cB cI cJ cZ cD cO sK sV) 0)), (0, .ref b)] [] (jS a c) := by
  obtain ⟨k, a1, r, c1, hF, hG, hT, hO, hP⟩ := h
  refine ux_aload_n C dL_law_1224 4 rfl ?_
  refine ux_aload_n C dL_law_1225 5 rfl ?_
  refine ux_iload C dL_law_1226 0 rfl ?_
  refine ux_iconst C dL_law_1228 rfl ?_
  refine ux_iadd C dL_law_1229 ?_
  refine jx_sld C hX hbl hbb (jin (k := 1) (xs := xs) rfl (by omega) hL).1 ((jin (k := 1) (xs := xs) rfl (by omega) hL).2.trans e1) dL_law_1230 ?_
  refine ux_aload_n C dL_law_1231 2 rfl ?_
  refine jx_callH C jSub_C (jGo_C a c a1) ch_L_185 dL_law_1232 (kL_advance (vC_ok C.traces) hF) rfl (Nat.le_of_ble_eq_true rfl) ⟨(Nat.le_of_ble_eq_true rfl), (Nat.le_of_ble_eq_true rfl)⟩ ⟨by omega, by omega⟩ ?_ rfl
  refine jx_istore C dL_law_1235 rfl (Nat.le_of_ble_eq_true rfl) ?_
  refine ux_aload_n C dL_law_1237 4 rfl ?_
  refine ux_aload_n C dL_law_1238 6 rfl ?_
  refine ux_iload C dL_law_1239 1 rfl ?_
  refine ux_iconst C dL_law_1241 rfl ?_
  refine ux_iadd C dL_law_1242 ?_
  refine jx_sld C hX hbl hbb (jin (k := 1) (xs := xs) rfl (by omega) hL).1 ((jin (k := 1) (xs := xs) rfl (by omega) hL).2.trans e1) dL_law_1243 ?_
  refine jx_callV (As := [.int x1]) C jSub_M (jGo_M a1 c c1) cv_L_187 dL_law_1244 (oM (vMj_ok C.traces)) rfl (kX8_advance (vMj_ok C.traces) hG) rfl (Nat.le_of_ble_eq_true rfl) ⟨(Nat.le_of_ble_eq_true rfl), (Nat.le_of_ble_eq_true rfl)⟩ ⟨by omega, by omega⟩ ?_ rfl
  refine jx_istore C dL_law_1247 rfl (Nat.le_of_ble_eq_true rfl) ?_
  refine ux_aload_n C dL_law_1249 5 rfl ?_
  refine jx_callV (As := []) C jSub_M (jGo_M a1 c1 c1) cv_L_125 dL_law_1250 (oM (vMj_ok C.traces)) rfl (kX8_thrown (vMj_ok C.traces) (r := c1.1 0 0) rfl) rfl (Nat.le_of_ble_eq_true rfl) ⟨(Nat.le_of_ble_eq_true rfl), (Nat.le_of_ble_eq_true rfl)⟩ ⟨by omega, by omega⟩ ?_ rfl
  refine ux_iload C dL_law_1253 1 rfl ?_
  refine jx_same C dL_law_1255 hT ?_
  refine ux_iload C dL_law_1260 1 rfl ?_
  by_cases zk : k = 0
  · refine jx_ifne_f C dL_law_1262 zk ?_
    refine ux_aload_n C dL_law_1265 4 rfl ?_
    refine ux_iconst C dL_law_1266 rfl ?_
    refine ux_laldK (j := 0) C jOut dL_law_1267 (by decide) (by decide) ?_
    refine ux_iload C dL_law_1268 0 rfl ?_
    refine ux_i2l C dL_law_1270 ?_
    refine ux_lcmp C dL_law_1271 ?_
    refine jx_ifeq_t C dL_law_1272 (lg_same (hO zk)) ?_
    refine ux_goto C dL_law_1277 ?_
    refine ux_sub [2, 3, 4, 5, 6, 7] rfl ?_
    refine ux_widen (k := cells + 8) (n := slots + 60) (by omega) (by omega) ?_
    exact K _ _ hP
  · refine jx_ifne_t C dL_law_1262 zk ?_
    refine ux_goto C dL_law_1277 ?_
    refine ux_sub [2, 3, 4, 5, 6, 7] rfl ?_
    refine ux_widen (k := cells + 8) (n := slots + 60) (by omega) (by omega) ?_
    exact K _ _ hP
theorem lc_18 {M : uM} {D : va_G} {base : Nat} {cB cI cJ cZ cD cO : ClassId} {sK sV : Nat → Nat} {b L : Nat} {xs : Nat → Int32} {Q : State → Prop} (C : uCx M (vJ D base cB cI cJ cZ cD cO sK sV) cL_law 9 RL 15 560 601024 7293034) (hX : va_X b L xs (mS M) (mS M).heap) (hbl : b < (mS M).heap.size) (hbb : ¬ base ≤ b) (hL : L ≤ 3072) {i : Nat} (hi : i + 6 ≤ L) {cells slots : Nat} (hc : cells + 8 ≤ 601024) (hs : slots + 60 ≤ 7293034) {a c : uSt} {R : uSt → uSt → Prop} (h : cKI (fL_flush) (fX8_flush) R a c) (K : ∀ a1 c1, R a1 c1 → uW M (vJ D base cB cI cJ cZ cD cO sK sV) Q 9 (cells + 8) (slots + 60) 2116 [(5, .int (nI i)), (4, .ref (vA (vC D base cB cI cJ cZ cD cO sK sV) 72)), (3, .ref (vA (vC D base cB cI cJ cZ cD cO sK sV) 71)), (2, .ref (vA (vM D (base + 71) cI cJ cZ (jB base) sK sV) 0)), (1, .ref (vA (vC D base cB cI cJ cZ cD cO sK sV) 0)), (0, .ref b)] [] (jS a1 c1)) : uW M (vJ D base cB cI cJ cZ cD cO sK sV) Q 9 cells slots 1280 [(5, .int (nI i)), (4, .ref (vA (vC D base cB cI cJ cZ cD cO sK sV) 72)), (3, .ref (vA (vC D base cB cI cJ cZ cD cO sK sV) 71)), (2, .ref (vA (vM D (base + 71) cI cJ cZ (jB base) sK sV) 0)), (1, .ref (vA (vC D base cB cI cJ cZ cD cO sK sV) 0)), (0, .ref b)] [] (jS a c) := by
  obtain ⟨k, a1, r, c1, hF, hG, hT, hO, hP⟩ := h
  refine ux_aload_n C dL_law_1280 4 rfl ?_
  refine ux_aload_n C dL_law_1281 2 rfl ?_
  refine jx_callH C jSub_C (jGo_C a c a1) ch_L_188 dL_law_1282 (kL_flush (vC_ok C.traces) hF) rfl (Nat.le_of_ble_eq_true rfl) ⟨(Nat.le_of_ble_eq_true rfl), (Nat.le_of_ble_eq_true rfl)⟩ ⟨by omega, by omega⟩ ?_ rfl
  refine jx_istore C dL_law_1285 rfl (Nat.le_of_ble_eq_true rfl) ?_
  refine ux_aload_n C dL_law_1287 4 rfl ?_
  refine jx_callV (As := []) C jSub_M (jGo_M a1 c c1) cv_L_190 dL_law_1288 (oM (vMj_ok C.traces)) rfl (kX8_flush (vMj_ok C.traces) hG) rfl (Nat.le_of_ble_eq_true rfl) ⟨(Nat.le_of_ble_eq_true rfl), (Nat.le_of_ble_eq_true rfl)⟩ ⟨by omega, by omega⟩ ?_ rfl
  refine jx_istore C dL_law_1291 rfl (Nat.le_of_ble_eq_true rfl) ?_
  refine ux_aload_n C dL_law_1293 5 rfl ?_
  refine jx_callV (As := []) C jSub_M (jGo_M a1 c1 c1) cv_L_125 dL_law_1294 (oM (vMj_ok C.traces)) rfl (kX8_thrown (vMj_ok C.traces) (r := c1.1 0 0) rfl) rfl (Nat.le_of_ble_eq_true rfl) ⟨(Nat.le_of_ble_eq_true rfl), (Nat.le_of_ble_eq_true rfl)⟩ ⟨by omega, by omega⟩ ?_ rfl
  refine ux_iload C dL_law_1297 1 rfl ?_
  refine jx_same C dL_law_1299 hT ?_
  refine ux_iload C dL_law_1304 1 rfl ?_
  by_cases zk : k = 0
  · refine jx_ifne_f C dL_law_1306 zk ?_
    refine ux_aload_n C dL_law_1309 4 rfl ?_
    refine ux_iconst C dL_law_1310 rfl ?_
    refine ux_laldK (j := 0) C jOut dL_law_1311 (by decide) (by decide) ?_
    refine ux_iload C dL_law_1312 0 rfl ?_
    refine ux_i2l C dL_law_1314 ?_
    refine ux_lcmp C dL_law_1315 ?_
    refine jx_ifeq_t C dL_law_1316 (lg_same (hO zk)) ?_
    refine ux_goto C dL_law_1321 ?_
    refine ux_sub [2, 3, 4, 5, 6, 7] rfl ?_
    refine ux_widen (k := cells + 8) (n := slots + 60) (by omega) (by omega) ?_
    exact K _ _ hP
  · refine jx_ifne_t C dL_law_1306 zk ?_
    refine ux_goto C dL_law_1321 ?_
    refine ux_sub [2, 3, 4, 5, 6, 7] rfl ?_
    refine ux_widen (k := cells + 8) (n := slots + 60) (by omega) (by omega) ?_
    exact K _ _ hP
theorem lc_19 {M : uM} {D : va_G} {base : Nat} {cB cI cJ cZ cD cO : ClassId} {sK sV : Nat → Nat} {b L : Nat} {xs : Nat → Int32} {Q : State → Prop} (C : uCx M (vJ D base cB cI cJ cZ cD cO sK sV) cL_law 9 RL 15 560 601024 7293034) (hX : va_X b L xs (mS M) (mS M).heap) (hbl : b < (mS M).heap.size) (hbb : ¬ base ≤ b) (hL : L ≤ 3072) {i : Nat} (hi : i + 6 ≤ L) {x1 : Int32} (e1 : xs (i + 1) = x1) {cells slots : Nat} (hc : cells + 8 ≤ 601024) (hs : slots + 60 ≤ 7293034) {a c : uSt} {R : uSt → uSt → Prop} (h : cKI (fL_flushDevice x1) (fX8_flushDevice x1) R a c) (K : ∀ a1 c1, R a1 c1 → uW M (vJ D base cB cI cJ cZ cD cO sK sV) Q 9 (cells + 8) (slots + 60) 2116 [(5, .int (nI i)), (4, .ref (vA (vC D base cB cI cJ cZ cD cO sK sV) 72)), (3, .ref (vA (vC D base cB cI cJ cZ cD cO sK sV) 71)), (2, .ref (vA (vM D (base + 71) cI cJ cZ (jB base) sK sV) 0)), (1, .ref (vA (vC D base cB cI cJ cZ cD cO sK sV) 0)), (0, .ref b)] [] (jS a1 c1)) : uW M (vJ D base cB cI cJ cZ cD cO sK sV) Q 9 cells slots 1324 [(5, .int (nI i)), (4, .ref (vA (vC D base cB cI cJ cZ cD cO sK sV) 72)), (3, .ref (vA (vC D base cB cI cJ cZ cD cO sK sV) 71)), (2, .ref (vA (vM D (base + 71) cI cJ cZ (jB base) sK sV) 0)), (1, .ref (vA (vC D base cB cI cJ cZ cD cO sK sV) 0)), (0, .ref b)] [] (jS a c) := by
  obtain ⟨k, a1, r, c1, hF, hG, hT, hO, hP⟩ := h
  refine ux_aload_n C dL_law_1324 4 rfl ?_
  refine ux_aload_n C dL_law_1325 5 rfl ?_
  refine ux_iload C dL_law_1326 0 rfl ?_
  refine ux_iconst C dL_law_1328 rfl ?_
  refine ux_iadd C dL_law_1329 ?_
  refine jx_sld C hX hbl hbb (jin (k := 1) (xs := xs) rfl (by omega) hL).1 ((jin (k := 1) (xs := xs) rfl (by omega) hL).2.trans e1) dL_law_1330 ?_
  refine ux_aload_n C dL_law_1331 2 rfl ?_
  refine jx_callH C jSub_C (jGo_C a c a1) ch_L_191 dL_law_1332 (kL_flushDevice (vC_ok C.traces) hF) rfl (Nat.le_of_ble_eq_true rfl) ⟨(Nat.le_of_ble_eq_true rfl), (Nat.le_of_ble_eq_true rfl)⟩ ⟨by omega, by omega⟩ ?_ rfl
  refine jx_istore C dL_law_1335 rfl (Nat.le_of_ble_eq_true rfl) ?_
  refine ux_aload_n C dL_law_1337 4 rfl ?_
  refine ux_aload_n C dL_law_1338 6 rfl ?_
  refine ux_iload C dL_law_1339 1 rfl ?_
  refine ux_iconst C dL_law_1341 rfl ?_
  refine ux_iadd C dL_law_1342 ?_
  refine jx_sld C hX hbl hbb (jin (k := 1) (xs := xs) rfl (by omega) hL).1 ((jin (k := 1) (xs := xs) rfl (by omega) hL).2.trans e1) dL_law_1343 ?_
  refine jx_callV (As := [.int x1]) C jSub_M (jGo_M a1 c c1) cv_L_193 dL_law_1344 (oM (vMj_ok C.traces)) rfl (kX8_flushDevice (vMj_ok C.traces) hG) rfl (Nat.le_of_ble_eq_true rfl) ⟨(Nat.le_of_ble_eq_true rfl), (Nat.le_of_ble_eq_true rfl)⟩ ⟨by omega, by omega⟩ ?_ rfl
  refine jx_istore C dL_law_1347 rfl (Nat.le_of_ble_eq_true rfl) ?_
  refine ux_aload_n C dL_law_1349 5 rfl ?_
  refine jx_callV (As := []) C jSub_M (jGo_M a1 c1 c1) cv_L_125 dL_law_1350 (oM (vMj_ok C.traces)) rfl (kX8_thrown (vMj_ok C.traces) (r := c1.1 0 0) rfl) rfl (Nat.le_of_ble_eq_true rfl) ⟨(Nat.le_of_ble_eq_true rfl), (Nat.le_of_ble_eq_true rfl)⟩ ⟨by omega, by omega⟩ ?_ rfl
  refine ux_iload C dL_law_1353 1 rfl ?_
  refine jx_same C dL_law_1355 hT ?_
  refine ux_iload C dL_law_1360 1 rfl ?_
  by_cases zk : k = 0
  · refine jx_ifne_f C dL_law_1362 zk ?_
    refine ux_aload_n C dL_law_1365 4 rfl ?_
    refine ux_iconst C dL_law_1366 rfl ?_
    refine ux_laldK (j := 0) C jOut dL_law_1367 (by decide) (by decide) ?_
    refine ux_iload C dL_law_1368 0 rfl ?_
    refine ux_i2l C dL_law_1370 ?_
    refine ux_lcmp C dL_law_1371 ?_
    refine jx_ifeq_t C dL_law_1372 (lg_same (hO zk)) ?_
    refine ux_goto C dL_law_1377 ?_
    refine ux_sub [2, 3, 4, 5, 6, 7] rfl ?_
    refine ux_widen (k := cells + 8) (n := slots + 60) (by omega) (by omega) ?_
    exact K _ _ hP
  · refine jx_ifne_t C dL_law_1362 zk ?_
    refine ux_goto C dL_law_1377 ?_
    refine ux_sub [2, 3, 4, 5, 6, 7] rfl ?_
    refine ux_widen (k := cells + 8) (n := slots + 60) (by omega) (by omega) ?_
    exact K _ _ hP
theorem lc_20 {M : uM} {D : va_G} {base : Nat} {cB cI cJ cZ cD cO : ClassId} {sK sV : Nat → Nat} {b L : Nat} {xs : Nat → Int32} {Q : State → Prop} (C : uCx M (vJ D base cB cI cJ cZ cD cO sK sV) cL_law 9 RL 15 560 601024 7293034) (hX : va_X b L xs (mS M) (mS M).heap) (hbl : b < (mS M).heap.size) (hbb : ¬ base ≤ b) (hL : L ≤ 3072) {i : Nat} (hi : i + 6 ≤ L) {cells slots : Nat} (hc : cells + 8 ≤ 601024) (hs : slots + 60 ≤ 7293034) {a c : uSt} {R : uSt → uSt → Prop} (h : cQ0 (fX7_need) (fX8_need) R a c) (K : ∀ a1 c1, R a1 c1 → uW M (vJ D base cB cI cJ cZ cD cO sK sV) Q 9 (cells + 8) (slots + 60) 2116 [(5, .int (nI i)), (4, .ref (vA (vC D base cB cI cJ cZ cD cO sK sV) 72)), (3, .ref (vA (vC D base cB cI cJ cZ cD cO sK sV) 71)), (2, .ref (vA (vM D (base + 71) cI cJ cZ (jB base) sK sV) 0)), (1, .ref (vA (vC D base cB cI cJ cZ cD cO sK sV) 0)), (0, .ref b)] [] (jS a1 c1)) : uW M (vJ D base cB cI cJ cZ cD cO sK sV) Q 9 cells slots 1380 [(5, .int (nI i)), (4, .ref (vA (vC D base cB cI cJ cZ cD cO sK sV) 72)), (3, .ref (vA (vC D base cB cI cJ cZ cD cO sK sV) 71)), (2, .ref (vA (vM D (base + 71) cI cJ cZ (jB base) sK sV) 0)), (1, .ref (vA (vC D base cB cI cJ cZ cD cO sK sV) 0)), (0, .ref b)] [] (jS a c) := by
  obtain ⟨r, c1, hF, hG, hP⟩ := h
  refine ux_aload_n C dL_law_1380 4 rfl ?_
  refine jx_callV (As := []) C jSub_C (jGo_C a c a) cv_L_194 dL_law_1381 (oF (vC_ok C.traces)) rfl (kX7_need (vC_ok C.traces) hF) rfl (Nat.le_of_ble_eq_true rfl) ⟨(Nat.le_of_ble_eq_true rfl), (Nat.le_of_ble_eq_true rfl)⟩ ⟨by omega, by omega⟩ ?_ rfl
  refine ux_aload_n C dL_law_1384 3 rfl ?_
  refine jx_callV (As := []) C jSub_M (jGo_M a c c1) cv_L_197 dL_law_1385 (oM (vMj_ok C.traces)) rfl (kX8_need (vMj_ok C.traces) hG) rfl (Nat.le_of_ble_eq_true rfl) ⟨(Nat.le_of_ble_eq_true rfl), (Nat.le_of_ble_eq_true rfl)⟩ ⟨by omega, by omega⟩ ?_ rfl
  refine jx_same C dL_law_1388 rfl ?_
  refine ux_widen (k := cells + 8) (n := slots + 60) (by omega) (by omega) ?_
  exact K _ _ hP
theorem lc_21 {M : uM} {D : va_G} {base : Nat} {cB cI cJ cZ cD cO : ClassId} {sK sV : Nat → Nat} {b L : Nat} {xs : Nat → Int32} {Q : State → Prop} (C : uCx M (vJ D base cB cI cJ cZ cD cO sK sV) cL_law 9 RL 15 560 601024 7293034) (hX : va_X b L xs (mS M) (mS M).heap) (hbl : b < (mS M).heap.size) (hbb : ¬ base ≤ b) (hL : L ≤ 3072) {i : Nat} (hi : i + 6 ≤ L) {x1 : Int32} (e1 : xs (i + 1) = x1) {cells slots : Nat} (hc : cells + 8 ≤ 601024) (hs : slots + 60 ≤ 7293034) {a c : uSt} {R : uSt → uSt → Prop} (h : cKI (fL_energyOf x1) (fX8_energyOf x1) R a c) (K : ∀ a1 c1, R a1 c1 → uW M (vJ D base cB cI cJ cZ cD cO sK sV) Q 9 (cells + 8) (slots + 60) 2116 [(5, .int (nI i)), (4, .ref (vA (vC D base cB cI cJ cZ cD cO sK sV) 72)), (3, .ref (vA (vC D base cB cI cJ cZ cD cO sK sV) 71)), (2, .ref (vA (vM D (base + 71) cI cJ cZ (jB base) sK sV) 0)), (1, .ref (vA (vC D base cB cI cJ cZ cD cO sK sV) 0)), (0, .ref b)] [] (jS a1 c1)) : uW M (vJ D base cB cI cJ cZ cD cO sK sV) Q 9 cells slots 1393 [(5, .int (nI i)), (4, .ref (vA (vC D base cB cI cJ cZ cD cO sK sV) 72)), (3, .ref (vA (vC D base cB cI cJ cZ cD cO sK sV) 71)), (2, .ref (vA (vM D (base + 71) cI cJ cZ (jB base) sK sV) 0)), (1, .ref (vA (vC D base cB cI cJ cZ cD cO sK sV) 0)), (0, .ref b)] [] (jS a c) := by
  obtain ⟨k, a1, r, c1, hF, hG, hT, hO, hP⟩ := h
  refine ux_aload_n C dL_law_1393 4 rfl ?_
  refine ux_aload_n C dL_law_1394 5 rfl ?_
  refine ux_iload C dL_law_1395 0 rfl ?_
  refine ux_iconst C dL_law_1397 rfl ?_
  refine ux_iadd C dL_law_1398 ?_
  refine jx_sld C hX hbl hbb (jin (k := 1) (xs := xs) rfl (by omega) hL).1 ((jin (k := 1) (xs := xs) rfl (by omega) hL).2.trans e1) dL_law_1399 ?_
  refine ux_aload_n C dL_law_1400 2 rfl ?_
  refine jx_callH C jSub_C (jGo_C a c a1) ch_L_198 dL_law_1401 (kL_energyOf (vC_ok C.traces) hF) rfl (Nat.le_of_ble_eq_true rfl) ⟨(Nat.le_of_ble_eq_true rfl), (Nat.le_of_ble_eq_true rfl)⟩ ⟨by omega, by omega⟩ ?_ rfl
  refine jx_istore C dL_law_1404 rfl (Nat.le_of_ble_eq_true rfl) ?_
  refine ux_aload_n C dL_law_1406 4 rfl ?_
  refine ux_aload_n C dL_law_1407 6 rfl ?_
  refine ux_iload C dL_law_1408 1 rfl ?_
  refine ux_iconst C dL_law_1410 rfl ?_
  refine ux_iadd C dL_law_1411 ?_
  refine jx_sld C hX hbl hbb (jin (k := 1) (xs := xs) rfl (by omega) hL).1 ((jin (k := 1) (xs := xs) rfl (by omega) hL).2.trans e1) dL_law_1412 ?_
  refine jx_callV (As := [.int x1]) C jSub_M (jGo_M a1 c c1) cv_L_200 dL_law_1413 (oM (vMj_ok C.traces)) rfl (kX8_energyOf (vMj_ok C.traces) hG) rfl (Nat.le_of_ble_eq_true rfl) ⟨(Nat.le_of_ble_eq_true rfl), (Nat.le_of_ble_eq_true rfl)⟩ ⟨by omega, by omega⟩ ?_ rfl
  refine jx_istore C dL_law_1416 rfl (Nat.le_of_ble_eq_true rfl) ?_
  refine ux_aload_n C dL_law_1418 5 rfl ?_
  refine jx_callV (As := []) C jSub_M (jGo_M a1 c1 c1) cv_L_125 dL_law_1419 (oM (vMj_ok C.traces)) rfl (kX8_thrown (vMj_ok C.traces) (r := c1.1 0 0) rfl) rfl (Nat.le_of_ble_eq_true rfl) ⟨(Nat.le_of_ble_eq_true rfl), (Nat.le_of_ble_eq_true rfl)⟩ ⟨by omega, by omega⟩ ?_ rfl
  refine ux_iload C dL_law_1422 1 rfl ?_
  refine jx_same C dL_law_1424 hT ?_
  refine ux_iload C dL_law_1429 1 rfl ?_
  by_cases zk : k = 0
  · refine jx_ifne_f C dL_law_1431 zk ?_
    refine ux_aload_n C dL_law_1434 4 rfl ?_
    refine ux_iconst C dL_law_1435 rfl ?_
    refine ux_laldK (j := 0) C jOut dL_law_1436 (by decide) (by decide) ?_
    refine ux_iload C dL_law_1437 0 rfl ?_
    refine ux_i2l C dL_law_1439 ?_
    refine ux_lcmp C dL_law_1440 ?_
    refine jx_ifeq_t C dL_law_1441 (lg_same (hO zk)) ?_
    refine ux_goto C dL_law_1446 ?_
    refine ux_sub [2, 3, 4, 5, 6, 7] rfl ?_
    refine ux_widen (k := cells + 8) (n := slots + 60) (by omega) (by omega) ?_
    exact K _ _ hP
  · refine jx_ifne_t C dL_law_1431 zk ?_
    refine ux_goto C dL_law_1446 ?_
    refine ux_sub [2, 3, 4, 5, 6, 7] rfl ?_
    refine ux_widen (k := cells + 8) (n := slots + 60) (by omega) (by omega) ?_
    exact K _ _ hP
theorem lc_22 {M : uM} {D : va_G} {base : Nat} {cB cI cJ cZ cD cO : ClassId} {sK sV : Nat → Nat} {b L : Nat} {xs : Nat → Int32} {Q : State → Prop} (C : uCx M (vJ D base cB cI cJ cZ cD cO sK sV) cL_law 9 RL 15 560 601024 7293034) (hX : va_X b L xs (mS M) (mS M).heap) (hbl : b < (mS M).heap.size) (hbb : ¬ base ≤ b) (hL : L ≤ 3072) {i : Nat} (hi : i + 6 ≤ L) {x1 : Int32} (e1 : xs (i + 1) = x1) {cells slots : Nat} (hc : cells + 8 ≤ 601024) (hs : slots + 60 ≤ 7293034) {a c : uSt} {R : uSt → uSt → Prop} (h : cKI (fL_valueOf x1) (fX8_valueOf x1) R a c) (K : ∀ a1 c1, R a1 c1 → uW M (vJ D base cB cI cJ cZ cD cO sK sV) Q 9 (cells + 8) (slots + 60) 2116 [(5, .int (nI i)), (4, .ref (vA (vC D base cB cI cJ cZ cD cO sK sV) 72)), (3, .ref (vA (vC D base cB cI cJ cZ cD cO sK sV) 71)), (2, .ref (vA (vM D (base + 71) cI cJ cZ (jB base) sK sV) 0)), (1, .ref (vA (vC D base cB cI cJ cZ cD cO sK sV) 0)), (0, .ref b)] [] (jS a1 c1)) : uW M (vJ D base cB cI cJ cZ cD cO sK sV) Q 9 cells slots 1449 [(5, .int (nI i)), (4, .ref (vA (vC D base cB cI cJ cZ cD cO sK sV) 72)), (3, .ref (vA (vC D base cB cI cJ cZ cD cO sK sV) 71)), (2, .ref (vA (vM D (base + 71) cI cJ cZ (jB base) sK sV) 0)), (1, .ref (vA (vC D base cB cI cJ cZ cD cO sK sV) 0)), (0, .ref b)] [] (jS a c) := by
  obtain ⟨k, a1, r, c1, hF, hG, hT, hO, hP⟩ := h
  refine ux_aload_n C dL_law_1449 4 rfl ?_
  refine ux_aload_n C dL_law_1450 5 rfl ?_
  refine ux_iload C dL_law_1451 0 rfl ?_
  refine ux_iconst C dL_law_1453 rfl ?_
  refine ux_iadd C dL_law_1454 ?_
  refine jx_sld C hX hbl hbb (jin (k := 1) (xs := xs) rfl (by omega) hL).1 ((jin (k := 1) (xs := xs) rfl (by omega) hL).2.trans e1) dL_law_1455 ?_
  refine ux_aload_n C dL_law_1456 2 rfl ?_
  refine jx_callH C jSub_C (jGo_C a c a1) ch_L_201 dL_law_1457 (kL_valueOf (vC_ok C.traces) hF) rfl (Nat.le_of_ble_eq_true rfl) ⟨(Nat.le_of_ble_eq_true rfl), (Nat.le_of_ble_eq_true rfl)⟩ ⟨by omega, by omega⟩ ?_ rfl
  refine jx_istore C dL_law_1460 rfl (Nat.le_of_ble_eq_true rfl) ?_
  refine ux_aload_n C dL_law_1462 4 rfl ?_
  refine ux_aload_n C dL_law_1463 6 rfl ?_
  refine ux_iload C dL_law_1464 1 rfl ?_
  refine ux_iconst C dL_law_1466 rfl ?_
  refine ux_iadd C dL_law_1467 ?_
  refine jx_sld C hX hbl hbb (jin (k := 1) (xs := xs) rfl (by omega) hL).1 ((jin (k := 1) (xs := xs) rfl (by omega) hL).2.trans e1) dL_law_1468 ?_
  refine jx_callV (As := [.int x1]) C jSub_M (jGo_M a1 c c1) cv_L_203 dL_law_1469 (oM (vMj_ok C.traces)) rfl (kX8_valueOf (vMj_ok C.traces) hG) rfl (Nat.le_of_ble_eq_true rfl) ⟨(Nat.le_of_ble_eq_true rfl), (Nat.le_of_ble_eq_true rfl)⟩ ⟨by omega, by omega⟩ ?_ rfl
  refine jx_istore C dL_law_1472 rfl (Nat.le_of_ble_eq_true rfl) ?_
  refine ux_aload_n C dL_law_1474 5 rfl ?_
  refine jx_callV (As := []) C jSub_M (jGo_M a1 c1 c1) cv_L_125 dL_law_1475 (oM (vMj_ok C.traces)) rfl (kX8_thrown (vMj_ok C.traces) (r := c1.1 0 0) rfl) rfl (Nat.le_of_ble_eq_true rfl) ⟨(Nat.le_of_ble_eq_true rfl), (Nat.le_of_ble_eq_true rfl)⟩ ⟨by omega, by omega⟩ ?_ rfl
  refine ux_iload C dL_law_1478 1 rfl ?_
  refine jx_same C dL_law_1480 hT ?_
  refine ux_iload C dL_law_1485 1 rfl ?_
  by_cases zk : k = 0
  · refine jx_ifne_f C dL_law_1487 zk ?_
    refine ux_aload_n C dL_law_1490 4 rfl ?_
    refine ux_iconst C dL_law_1491 rfl ?_
    refine ux_laldK (j := 0) C jOut dL_law_1492 (by decide) (by decide) ?_
    refine ux_iload C dL_law_1493 0 rfl ?_
    refine ux_i2l C dL_law_1495 ?_
    refine ux_lcmp C dL_law_1496 ?_
    refine jx_ifeq_t C dL_law_1497 (lg_same (hO zk)) ?_
    refine ux_goto C dL_law_1502 ?_
    refine ux_sub [2, 3, 4, 5, 6, 7] rfl ?_
    refine ux_widen (k := cells + 8) (n := slots + 60) (by omega) (by omega) ?_
    exact K _ _ hP
  · refine jx_ifne_t C dL_law_1487 zk ?_
    refine ux_goto C dL_law_1502 ?_
    refine ux_sub [2, 3, 4, 5, 6, 7] rfl ?_
    refine ux_widen (k := cells + 8) (n := slots + 60) (by omega) (by omega) ?_
    exact K _ _ hP
theorem lc_23 {M : uM} {D : va_G} {base : Nat} {cB cI cJ cZ cD cO : ClassId} {sK sV : Nat → Nat} {b L : Nat} {xs : Nat → Int32} {Q : State → Prop} (C : uCx M (vJ D base cB cI cJ cZ cD cO sK sV) cL_law 9 RL 15 560 601024 7293034) (hX : va_X b L xs (mS M) (mS M).heap) (hbl : b < (mS M).heap.size) (hbb : ¬ base ≤ b) (hL : L ≤ 3072) {i : Nat} (hi : i + 6 ≤ L) {x1 : Int32} (e1 : xs (i + 1) = x1) {cells slots : Nat} (hc : cells + 8 ≤ 601024) (hs : slots + 60 ≤ 7293034) {a c : uSt} {R : uSt → uSt → Prop} (h : cKI (fL_bestSet x1) (fX8_bestSet x1) R a c) (K : ∀ a1 c1, R a1 c1 → uW M (vJ D base cB cI cJ cZ cD cO sK sV) Q 9 (cells + 8) (slots + 60) 2116 [(5, .int (nI i)), (4, .ref (vA (vC D base cB cI cJ cZ cD cO sK sV) 72)), (3, .ref (vA (vC D base cB cI cJ cZ cD cO sK sV) 71)), (2, .ref (vA (vM D (base + 71) cI cJ cZ (jB base) sK sV) 0)), (1, .ref (vA (vC D base cB cI cJ cZ cD cO sK sV) 0)), (0, .ref b)] [] (jS a1 c1)) : uW M (vJ D base cB cI cJ cZ cD cO sK sV) Q 9 cells slots 1505 [(5, .int (nI i)), (4, .ref (vA (vC D base cB cI cJ cZ cD cO sK sV) 72)), (3, .ref (vA (vC D base cB cI cJ cZ cD cO sK sV) 71)), (2, .ref (vA (vM D (base + 71) cI cJ cZ (jB base) sK sV) 0)), (1, .ref (vA (vC D base cB cI cJ cZ cD cO sK sV) 0)), (0, .ref b)] [] (jS a c) := by
  obtain ⟨k, a1, r, c1, hF, hG, hT, hO, hP⟩ := h
  refine ux_aload_n C dL_law_1505 4 rfl ?_
  refine ux_aload_n C dL_law_1506 5 rfl ?_
  refine ux_iload C dL_law_1507 0 rfl ?_
  refine ux_iconst C dL_law_1509 rfl ?_
  refine ux_iadd C dL_law_1510 ?_
  refine jx_sld C hX hbl hbb (jin (k := 1) (xs := xs) rfl (by omega) hL).1 ((jin (k := 1) (xs := xs) rfl (by omega) hL).2.trans e1) dL_law_1511 ?_
  refine ux_aload_n C dL_law_1512 2 rfl ?_
  refine jx_callH C jSub_C (jGo_C a c a1) ch_L_204 dL_law_1513 (kL_bestSet (vC_ok C.traces) hF) rfl (Nat.le_of_ble_eq_true rfl) ⟨(Nat.le_of_ble_eq_true rfl), (Nat.le_of_ble_eq_true rfl)⟩ ⟨by omega, by omega⟩ ?_ rfl
  refine jx_istore C dL_law_1516 rfl (Nat.le_of_ble_eq_true rfl) ?_
  refine ux_aload_n C dL_law_1518 4 rfl ?_
  refine ux_aload_n C dL_law_1519 6 rfl ?_
  refine ux_iload C dL_law_1520 1 rfl ?_
  refine ux_iconst C dL_law_1522 rfl ?_
  refine ux_iadd C dL_law_1523 ?_
  refine jx_sld C hX hbl hbb (jin (k := 1) (xs := xs) rfl (by omega) hL).1 ((jin (k := 1) (xs := xs) rfl (by omega) hL).2.trans e1) dL_law_1524 ?_
  refine jx_callV (As := [.int x1]) C jSub_M (jGo_M a1 c c1) cv_L_206 dL_law_1525 (oM (vMj_ok C.traces)) rfl (kX8_bestSet (vMj_ok C.traces) hG) rfl (Nat.le_of_ble_eq_true rfl) ⟨(Nat.le_of_ble_eq_true rfl), (Nat.le_of_ble_eq_true rfl)⟩ ⟨by omega, by omega⟩ ?_ rfl
  refine jx_istore C dL_law_1528 rfl (Nat.le_of_ble_eq_true rfl) ?_
  refine ux_aload_n C dL_law_1530 5 rfl ?_
  refine jx_callV (As := []) C jSub_M (jGo_M a1 c1 c1) cv_L_125 dL_law_1531 (oM (vMj_ok C.traces)) rfl (kX8_thrown (vMj_ok C.traces) (r := c1.1 0 0) rfl) rfl (Nat.le_of_ble_eq_true rfl) ⟨(Nat.le_of_ble_eq_true rfl), (Nat.le_of_ble_eq_true rfl)⟩ ⟨by omega, by omega⟩ ?_ rfl
  refine ux_iload C dL_law_1534 1 rfl ?_
  refine jx_same C dL_law_1536 hT ?_
  refine ux_iload C dL_law_1541 1 rfl ?_
  by_cases zk : k = 0
  · refine jx_ifne_f C dL_law_1543 zk ?_
    refine ux_aload_n C dL_law_1546 4 rfl ?_
    refine ux_iconst C dL_law_1547 rfl ?_
    refine ux_laldK (j := 0) C jOut dL_law_1548 (by decide) (by decide) ?_
    refine ux_iload C dL_law_1549 0 rfl ?_
    refine ux_i2l C dL_law_1551 ?_
    refine ux_lcmp C dL_law_1552 ?_
    refine jx_ifeq_t C dL_law_1553 (lg_same (hO zk)) ?_
    refine ux_goto C dL_law_1558 ?_
    refine ux_sub [2, 3, 4, 5, 6, 7] rfl ?_
    refine ux_widen (k := cells + 8) (n := slots + 60) (by omega) (by omega) ?_
    exact K _ _ hP
  · refine jx_ifne_t C dL_law_1543 zk ?_
    refine ux_goto C dL_law_1558 ?_
    refine ux_sub [2, 3, 4, 5, 6, 7] rfl ?_
    refine ux_widen (k := cells + 8) (n := slots + 60) (by omega) (by omega) ?_
    exact K _ _ hP
theorem lc_24 {M : uM} {D : va_G} {base : Nat} {cB cI cJ cZ cD cO : ClassId} {sK sV : Nat → Nat} {b L : Nat} {xs : Nat → Int32} {Q : State → Prop} (C : uCx M (vJ D base cB cI cJ cZ cD cO sK sV) cL_law 9 RL 15 560 601024 7293034) (hX : va_X b L xs (mS M) (mS M).heap) (hbl : b < (mS M).heap.size) (hbb : ¬ base ≤ b) (hL : L ≤ 3072) {i : Nat} (hi : i + 6 ≤ L) {x1 : Int32} (e1 : xs (i + 1) = x1) {cells slots : Nat} (hc : cells + 8 ≤ 601024) (hs : slots + 60 ≤ 7293034) {a c : uSt} {R : uSt → uSt → Prop} (h : cKI (fL_bestValue x1) (fX8_bestValue x1) R a c) (K : ∀ a1 c1, R a1 c1 → uW M (vJ D base cB cI cJ cZ cD cO sK sV) Q 9 (cells + 8) (slots + 60) 2116 [(5, .int (nI i)), (4, .ref (vA (vC D base cB cI cJ cZ cD cO sK sV) 72)), (3, .ref (vA (vC D base cB cI cJ cZ cD cO sK sV) 71)), (2, .ref (vA (vM D (base + 71) cI cJ cZ (jB base) sK sV) 0)), (1, .ref (vA (vC D base cB cI cJ cZ cD cO sK sV) 0)), (0, .ref b)] [] (jS a1 c1)) : uW M (vJ D base cB cI cJ cZ cD cO sK sV) Q 9 cells slots 1561 [(5, .int (nI i)), (4, .ref (vA (vC D base cB cI cJ cZ cD cO sK sV) 72)), (3, .ref (vA (vC D base cB cI cJ cZ cD cO sK sV) 71)), (2, .ref (vA (vM D (base + 71) cI cJ cZ (jB base) sK sV) 0)), (1, .ref (vA (vC D base cB cI cJ cZ cD cO sK sV) 0)), (0, .ref b)] [] (jS a c) := by
  obtain ⟨k, a1, r, c1, hF, hG, hT, hO, hP⟩ := h
  refine ux_aload_n C dL_law_1561 4 rfl ?_
  refine ux_aload_n C dL_law_1562 5 rfl ?_
  refine ux_iload C dL_law_1563 0 rfl ?_
  refine ux_iconst C dL_law_1565 rfl ?_
  refine ux_iadd C dL_law_1566 ?_
  refine jx_sld C hX hbl hbb (jin (k := 1) (xs := xs) rfl (by omega) hL).1 ((jin (k := 1) (xs := xs) rfl (by omega) hL).2.trans e1) dL_law_1567 ?_
  refine ux_aload_n C dL_law_1568 2 rfl ?_
  refine jx_callH C jSub_C (jGo_C a c a1) ch_L_207 dL_law_1569 (kL_bestValue (vC_ok C.traces) hF) rfl (Nat.le_of_ble_eq_true rfl) ⟨(Nat.le_of_ble_eq_true rfl), (Nat.le_of_ble_eq_true rfl)⟩ ⟨by omega, by omega⟩ ?_ rfl
  refine jx_istore C dL_law_1572 rfl (Nat.le_of_ble_eq_true rfl) ?_
  refine ux_aload_n C dL_law_1574 4 rfl ?_
  refine ux_aload_n C dL_law_1575 6 rfl ?_
  refine ux_iload C dL_law_1576 1 rfl ?_
  refine ux_iconst C dL_law_1578 rfl ?_
  refine ux_iadd C dL_law_1579 ?_
  refine jx_sld C hX hbl hbb (jin (k := 1) (xs := xs) rfl (by omega) hL).1 ((jin (k := 1) (xs := xs) rfl (by omega) hL).2.trans e1) dL_law_1580 ?_
  refine jx_callV (As := [.int x1]) C jSub_M (jGo_M a1 c c1) cv_L_209 dL_law_1581 (oM (vMj_ok C.traces)) rfl (kX8_bestValue (vMj_ok C.traces) hG) rfl (Nat.le_of_ble_eq_true rfl) ⟨(Nat.le_of_ble_eq_true rfl), (Nat.le_of_ble_eq_true rfl)⟩ ⟨by omega, by omega⟩ ?_ rfl
  refine jx_istore C dL_law_1584 rfl (Nat.le_of_ble_eq_true rfl) ?_
  refine ux_aload_n C dL_law_1586 5 rfl ?_
  refine jx_callV (As := []) C jSub_M (jGo_M a1 c1 c1) cv_L_125 dL_law_1587 (oM (vMj_ok C.traces)) rfl (kX8_thrown (vMj_ok C.traces) (r := c1.1 0 0) rfl) rfl (Nat.le_of_ble_eq_true rfl) ⟨(Nat.le_of_ble_eq_true rfl), (Nat.le_of_ble_eq_true rfl)⟩ ⟨by omega, by omega⟩ ?_ rfl
  refine ux_iload C dL_law_1590 1 rfl ?_
  refine jx_same C dL_law_1592 hT ?_
  refine ux_iload C dL_law_1597 1 rfl ?_
  by_cases zk : k = 0
  · refine jx_ifne_f C dL_law_1599 zk ?_
    refine ux_aload_n C dL_law_1602 4 rfl ?_
    refine ux_iconst C dL_law_1603 rfl ?_
    refine ux_laldK (j := 0) C jOut dL_law_1604 (by decide) (by decide) ?_
    refine ux_iload C dL_law_1605 0 rfl ?_
    refine ux_i2l C dL_law_1607 ?_
    refine ux_lcmp C dL_law_1608 ?_
    refine jx_ifeq_t C dL_law_1609 (lg_same (hO zk)) ?_
    refine ux_goto C dL_law_1614 ?_
    refine ux_sub [2, 3, 4, 5, 6, 7] rfl ?_
    refine ux_widen (k := cells + 8) (n := slots + 60) (by omega) (by omega) ?_
    exact K _ _ hP
  · refine jx_ifne_t C dL_law_1599 zk ?_
    refine ux_goto C dL_law_1614 ?_
    refine ux_sub [2, 3, 4, 5, 6, 7] rfl ?_
    refine ux_widen (k := cells + 8) (n := slots + 60) (by omega) (by omega) ?_
    exact K _ _ hP
theorem lc_25 {M : uM} {D : va_G} {base : Nat} {cB cI cJ cZ cD cO : ClassId} {sK sV : Nat → Nat} {b L : Nat} {xs : Nat → Int32} {Q : State → Prop} (C : uCx M (vJ D base cB cI cJ cZ cD cO sK sV) cL_law 9 RL 15 560 601024 7293034) (hX : va_X b L xs (mS M) (mS M).heap) (hbl : b < (mS M).heap.size) (hbb : ¬ base ≤ b) (hL : L ≤ 3072) {i : Nat} (hi : i + 6 ≤ L) {x1 : Int32} (e1 : xs (i + 1) = x1) {cells slots : Nat} (hc : cells + 8 ≤ 601024) (hs : slots + 60 ≤ 7293034) {a c : uSt} {R : uSt → uSt → Prop} (h : cKI (fL_greedySet x1) (fX8_greedySet x1) R a c) (K : ∀ a1 c1, R a1 c1 → uW M (vJ D base cB cI cJ cZ cD cO sK sV) Q 9 (cells + 8) (slots + 60) 2116 [(5, .int (nI i)), (4, .ref (vA (vC D base cB cI cJ cZ cD cO sK sV) 72)), (3, .ref (vA (vC D base cB cI cJ cZ cD cO sK sV) 71)), (2, .ref (vA (vM D (base + 71) cI cJ cZ (jB base) sK sV) 0)), (1, .ref (vA (vC D base cB cI cJ cZ cD cO sK sV) 0)), (0, .ref b)] [] (jS a1 c1)) : uW M (vJ D base cB cI cJ cZ cD cO sK sV) Q 9 cells slots 1617 [(5, .int (nI i)), (4, .ref (vA (vC D base cB cI cJ cZ cD cO sK sV) 72)), (3, .ref (vA (vC D base cB cI cJ cZ cD cO sK sV) 71)), (2, .ref (vA (vM D (base + 71) cI cJ cZ (jB base) sK sV) 0)), (1, .ref (vA (vC D base cB cI cJ cZ cD cO sK sV) 0)), (0, .ref b)] [] (jS a c) := by
  obtain ⟨k, a1, r, c1, hF, hG, hT, hO, hP⟩ := h
  refine ux_aload_n C dL_law_1617 4 rfl ?_
  refine ux_aload_n C dL_law_1618 5 rfl ?_
  refine ux_iload C dL_law_1619 0 rfl ?_
  refine ux_iconst C dL_law_1621 rfl ?_
  refine ux_iadd C dL_law_1622 ?_
  refine jx_sld C hX hbl hbb (jin (k := 1) (xs := xs) rfl (by omega) hL).1 ((jin (k := 1) (xs := xs) rfl (by omega) hL).2.trans e1) dL_law_1623 ?_
  refine ux_aload_n C dL_law_1624 2 rfl ?_
  refine jx_callH C jSub_C (jGo_C a c a1) ch_L_210 dL_law_1625 (kL_greedySet (vC_ok C.traces) hF) rfl (Nat.le_of_ble_eq_true rfl) ⟨(Nat.le_of_ble_eq_true rfl), (Nat.le_of_ble_eq_true rfl)⟩ ⟨by omega, by omega⟩ ?_ rfl
  refine jx_istore C dL_law_1628 rfl (Nat.le_of_ble_eq_true rfl) ?_
  refine ux_aload_n C dL_law_1630 4 rfl ?_
  refine ux_aload_n C dL_law_1631 6 rfl ?_
  refine ux_iload C dL_law_1632 1 rfl ?_
  refine ux_iconst C dL_law_1634 rfl ?_
  refine ux_iadd C dL_law_1635 ?_
  refine jx_sld C hX hbl hbb (jin (k := 1) (xs := xs) rfl (by omega) hL).1 ((jin (k := 1) (xs := xs) rfl (by omega) hL).2.trans e1) dL_law_1636 ?_
  refine jx_callV (As := [.int x1]) C jSub_M (jGo_M a1 c c1) cv_L_212 dL_law_1637 (oM (vMj_ok C.traces)) rfl (kX8_greedySet (vMj_ok C.traces) hG) rfl (Nat.le_of_ble_eq_true rfl) ⟨(Nat.le_of_ble_eq_true rfl), (Nat.le_of_ble_eq_true rfl)⟩ ⟨by omega, by omega⟩ ?_ rfl
  refine jx_istore C dL_law_1640 rfl (Nat.le_of_ble_eq_true rfl) ?_
  refine ux_aload_n C dL_law_1642 5 rfl ?_
  refine jx_callV (As := []) C jSub_M (jGo_M a1 c1 c1) cv_L_125 dL_law_1643 (oM (vMj_ok C.traces)) rfl (kX8_thrown (vMj_ok C.traces) (r := c1.1 0 0) rfl) rfl (Nat.le_of_ble_eq_true rfl) ⟨(Nat.le_of_ble_eq_true rfl), (Nat.le_of_ble_eq_true rfl)⟩ ⟨by omega, by omega⟩ ?_ rfl
  refine ux_iload C dL_law_1646 1 rfl ?_
  refine jx_same C dL_law_1648 hT ?_
  refine ux_iload C dL_law_1653 1 rfl ?_
  by_cases zk : k = 0
  · refine jx_ifne_f C dL_law_1655 zk ?_
    refine ux_aload_n C dL_law_1658 4 rfl ?_
    refine ux_iconst C dL_law_1659 rfl ?_
    refine ux_laldK (j := 0) C jOut dL_law_1660 (by decide) (by decide) ?_
    refine ux_iload C dL_law_1661 0 rfl ?_
    refine ux_i2l C dL_law_1663 ?_
    refine ux_lcmp C dL_law_1664 ?_
    refine jx_ifeq_t C dL_law_1665 (lg_same (hO zk)) ?_
    refine ux_goto C dL_law_1670 ?_
    refine ux_sub [2, 3, 4, 5, 6, 7] rfl ?_
    refine ux_widen (k := cells + 8) (n := slots + 60) (by omega) (by omega) ?_
    exact K _ _ hP
  · refine jx_ifne_t C dL_law_1655 zk ?_
    refine ux_goto C dL_law_1670 ?_
    refine ux_sub [2, 3, 4, 5, 6, 7] rfl ?_
    refine ux_widen (k := cells + 8) (n := slots + 60) (by omega) (by omega) ?_
    exact K _ _ hP
theorem lc_26 {M : uM} {D : va_G} {base : Nat} {cB cI cJ cZ cD cO : ClassId} {sK sV : Nat → Nat} {b L : Nat} {xs : Nat → Int32} {Q : State → Prop} (C : uCx M (vJ D base cB cI cJ cZ cD cO sK sV) cL_law 9 RL 15 560 601024 7293034) (hX : va_X b L xs (mS M) (mS M).heap) (hbl : b < (mS M).heap.size) (hbb : ¬ base ≤ b) (hL : L ≤ 3072) {i : Nat} (hi : i + 6 ≤ L) {x1 : Int32} (e1 : xs (i + 1) = x1) {cells slots : Nat} (hc : cells + 8 ≤ 601024) (hs : slots + 60 ≤ 7293034) {a c : uSt} {R : uSt → uSt → Prop} (h : cKD (fL_quality x1) (fX8_quality x1) R a c) (K : ∀ a1 c1, R a1 c1 → uW M (vJ D base cB cI cJ cZ cD cO sK sV) Q 9 (cells + 8) (slots + 60) 2116 [(5, .int (nI i)), (4, .ref (vA (vC D base cB cI cJ cZ cD cO sK sV) 72)), (3, .ref (vA (vC D base cB cI cJ cZ cD cO sK sV) 71)), (2, .ref (vA (vM D (base + 71) cI cJ cZ (jB base) sK sV) 0)), (1, .ref (vA (vC D base cB cI cJ cZ cD cO sK sV) 0)), (0, .ref b)] [] (jS a1 c1)) : uW M (vJ D base cB cI cJ cZ cD cO sK sV) Q 9 cells slots 1673 [(5, .int (nI i)), (4, .ref (vA (vC D base cB cI cJ cZ cD cO sK sV) 72)), (3, .ref (vA (vC D base cB cI cJ cZ cD cO sK sV) 71)), (2, .ref (vA (vM D (base + 71) cI cJ cZ (jB base) sK sV) 0)), (1, .ref (vA (vC D base cB cI cJ cZ cD cO sK sV) 0)), (0, .ref b)] [] (jS a c) := by
  obtain ⟨k, a1, r, c1, hF, hG, hT, hO, hP⟩ := h
  refine ux_aload_n C dL_law_1673 4 rfl ?_
  refine ux_aload_n C dL_law_1674 5 rfl ?_
  refine ux_iload C dL_law_1675 0 rfl ?_
  refine ux_iconst C dL_law_1677 rfl ?_
  refine ux_iadd C dL_law_1678 ?_
  refine jx_sld C hX hbl hbb (jin (k := 1) (xs := xs) rfl (by omega) hL).1 ((jin (k := 1) (xs := xs) rfl (by omega) hL).2.trans e1) dL_law_1679 ?_
  refine ux_aload C dL_law_1680 1 rfl ?_
  refine jx_callH C jSub_C (jGo_C a c a1) ch_L_213 dL_law_1682 (kL_quality (vC_ok C.traces) hF) rfl (Nat.le_of_ble_eq_true rfl) ⟨(Nat.le_of_ble_eq_true rfl), (Nat.le_of_ble_eq_true rfl)⟩ ⟨by omega, by omega⟩ ?_ rfl
  refine jx_istore C dL_law_1685 rfl (Nat.le_of_ble_eq_true rfl) ?_
  refine ux_aload_n C dL_law_1687 4 rfl ?_
  refine ux_aload_n C dL_law_1688 6 rfl ?_
  refine ux_iload C dL_law_1689 1 rfl ?_
  refine ux_iconst C dL_law_1691 rfl ?_
  refine ux_iadd C dL_law_1692 ?_
  refine jx_sld C hX hbl hbb (jin (k := 1) (xs := xs) rfl (by omega) hL).1 ((jin (k := 1) (xs := xs) rfl (by omega) hL).2.trans e1) dL_law_1693 ?_
  refine jx_callV (As := [.int x1]) C jSub_M (jGo_M a1 c c1) cv_L_216 dL_law_1694 (oM (vMj_ok C.traces)) rfl (kX8_quality (vMj_ok C.traces) hG) rfl (Nat.le_of_ble_eq_true rfl) ⟨(Nat.le_of_ble_eq_true rfl), (Nat.le_of_ble_eq_true rfl)⟩ ⟨by omega, by omega⟩ ?_ rfl
  refine jx_dstore C dL_law_1697 rfl (Nat.le_of_ble_eq_true rfl) ?_
  refine ux_aload_n C dL_law_1699 5 rfl ?_
  refine jx_callV (As := []) C jSub_M (jGo_M a1 c1 c1) cv_L_125 dL_law_1700 (oM (vMj_ok C.traces)) rfl (kX8_thrown (vMj_ok C.traces) (r := c1.1 0 0) rfl) rfl (Nat.le_of_ble_eq_true rfl) ⟨(Nat.le_of_ble_eq_true rfl), (Nat.le_of_ble_eq_true rfl)⟩ ⟨by omega, by omega⟩ ?_ rfl
  refine ux_iload C dL_law_1703 1 rfl ?_
  refine jx_same C dL_law_1705 hT ?_
  refine ux_iload C dL_law_1710 1 rfl ?_
  by_cases zk : k = 0
  · refine jx_ifne_f C dL_law_1712 zk ?_
    refine ux_aload C dL_law_1715 3 rfl ?_
    refine ux_iconst C dL_law_1717 rfl ?_
    refine jx_dald (j := 0) C jOutD dL_law_1718 (by decide) (by decide) ?_
    rw [show (jS a1 c1).2.2 72 0 = r from hO zk]
    refine ux_dload C dL_law_1719 0 rfl ?_
    refine jx_dcmp C dL_law_1721 ?_
    by_cases z0 : Op.cmpValue (FP.dcmp r r) .l = 0
    · refine jx_ifeq_t C dL_law_1722 z0 ?_
      refine ux_goto C dL_law_1747 ?_
      refine ux_sub [2, 3, 4, 5, 6, 7] rfl ?_
      refine ux_widen (k := cells + 8) (n := slots + 60) (by omega) (by omega) ?_
      exact K _ _ hP
    · refine jx_ifeq_f C dL_law_1722 z0 ?_
      refine ux_aload C dL_law_1725 3 rfl ?_
      refine ux_iconst C dL_law_1727 rfl ?_
      refine jx_dald (j := 0) C jOutD dL_law_1728 (by decide) (by decide) ?_
      rw [show (jS a1 c1).2.2 72 0 = r from hO zk]
      refine ux_aload C dL_law_1729 3 rfl ?_
      refine ux_iconst C dL_law_1731 rfl ?_
      refine jx_dald (j := 0) C jOutD dL_law_1732 (by decide) (by decide) ?_
      rw [show (jS a1 c1).2.2 72 0 = r from hO zk]
      refine jx_dcmp C dL_law_1733 ?_
      refine jx_ifeq_f C dL_law_1734 z0 ?_
      refine ux_dload C dL_law_1737 0 rfl ?_
      refine ux_dload C dL_law_1739 0 rfl ?_
      refine jx_dcmp C dL_law_1741 ?_
      refine jx_ifne_t C dL_law_1742 z0 ?_
      refine ux_goto C dL_law_1747 ?_
      refine ux_sub [2, 3, 4, 5, 6, 7] rfl ?_
      refine ux_widen (k := cells + 8) (n := slots + 60) (by omega) (by omega) ?_
      exact K _ _ hP
  · refine jx_ifne_t C dL_law_1712 zk ?_
    refine ux_goto C dL_law_1747 ?_
    refine ux_sub [2, 3, 4, 5, 6, 7] rfl ?_
    refine ux_widen (k := cells + 8) (n := slots + 60) (by omega) (by omega) ?_
    exact K _ _ hP
theorem lc_27 {M : uM} {D : va_G} {base : Nat} {cB cI cJ cZ cD cO : ClassId} {sK sV : Nat → Nat} {b L : Nat} {xs : Nat → Int32} {Q : State → Prop} (C : uCx M (vJ D base cB cI cJ cZ cD cO sK sV) cL_law 9 RL 15 560 601024 7293034) (hX : va_X b L xs (mS M) (mS M).heap) (hbl : b < (mS M).heap.size) (hbb : ¬ base ≤ b) (hL : L ≤ 3072) {i : Nat} (hi : i + 6 ≤ L) {x1 : Int32} (e1 : xs (i + 1) = x1) {cells slots : Nat} (hc : cells + 8 ≤ 601024) (hs : slots + 60 ≤ 7293034) {a c : uSt} {R : uSt → uSt → Prop} (h : cKI (fL_energyFor x1) (fX8_energyFor x1) R a c) (K : ∀ a1 c1, R a1 c1 → uW M (vJ D base cB cI cJ cZ cD cO sK sV) Q 9 (cells + 8) (slots + 60) 2116 [(5, .int (nI i)), (4, .ref (vA (vC D base cB cI cJ cZ cD cO sK sV) 72)), (3, .ref (vA (vC D base cB cI cJ cZ cD cO sK sV) 71)), (2, .ref (vA (vM D (base + 71) cI cJ cZ (jB base) sK sV) 0)), (1, .ref (vA (vC D base cB cI cJ cZ cD cO sK sV) 0)), (0, .ref b)] [] (jS a1 c1)) : uW M (vJ D base cB cI cJ cZ cD cO sK sV) Q 9 cells slots 1750 [(5, .int (nI i)), (4, .ref (vA (vC D base cB cI cJ cZ cD cO sK sV) 72)), (3, .ref (vA (vC D base cB cI cJ cZ cD cO sK sV) 71)), (2, .ref (vA (vM D (base + 71) cI cJ cZ (jB base) sK sV) 0)), (1, .ref (vA (vC D base cB cI cJ cZ cD cO sK sV) 0)), (0, .ref b)] [] (jS a c) := by
  obtain ⟨k, a1, r, c1, hF, hG, hT, hO, hP⟩ := h
  refine ux_aload_n C dL_law_1750 4 rfl ?_
  refine ux_aload_n C dL_law_1751 5 rfl ?_
  refine ux_iload C dL_law_1752 0 rfl ?_
  refine ux_iconst C dL_law_1754 rfl ?_
  refine ux_iadd C dL_law_1755 ?_
  refine jx_sld C hX hbl hbb (jin (k := 1) (xs := xs) rfl (by omega) hL).1 ((jin (k := 1) (xs := xs) rfl (by omega) hL).2.trans e1) dL_law_1756 ?_
  refine ux_aload_n C dL_law_1757 2 rfl ?_
  refine jx_callH C jSub_C (jGo_C a c a1) ch_L_217 dL_law_1758 (kL_energyFor (vC_ok C.traces) hF) rfl (Nat.le_of_ble_eq_true rfl) ⟨(Nat.le_of_ble_eq_true rfl), (Nat.le_of_ble_eq_true rfl)⟩ ⟨by omega, by omega⟩ ?_ rfl
  refine jx_istore C dL_law_1761 rfl (Nat.le_of_ble_eq_true rfl) ?_
  refine ux_aload_n C dL_law_1763 4 rfl ?_
  refine ux_aload_n C dL_law_1764 6 rfl ?_
  refine ux_iload C dL_law_1765 1 rfl ?_
  refine ux_iconst C dL_law_1767 rfl ?_
  refine ux_iadd C dL_law_1768 ?_
  refine jx_sld C hX hbl hbb (jin (k := 1) (xs := xs) rfl (by omega) hL).1 ((jin (k := 1) (xs := xs) rfl (by omega) hL).2.trans e1) dL_law_1769 ?_
  refine jx_callV (As := [.int x1]) C jSub_M (jGo_M a1 c c1) cv_L_219 dL_law_1770 (oM (vMj_ok C.traces)) rfl (kX8_energyFor (vMj_ok C.traces) hG) rfl (Nat.le_of_ble_eq_true rfl) ⟨(Nat.le_of_ble_eq_true rfl), (Nat.le_of_ble_eq_true rfl)⟩ ⟨by omega, by omega⟩ ?_ rfl
  refine jx_istore C dL_law_1773 rfl (Nat.le_of_ble_eq_true rfl) ?_
  refine ux_aload_n C dL_law_1775 5 rfl ?_
  refine jx_callV (As := []) C jSub_M (jGo_M a1 c1 c1) cv_L_125 dL_law_1776 (oM (vMj_ok C.traces)) rfl (kX8_thrown (vMj_ok C.traces) (r := c1.1 0 0) rfl) rfl (Nat.le_of_ble_eq_true rfl) ⟨(Nat.le_of_ble_eq_true rfl), (Nat.le_of_ble_eq_true rfl)⟩ ⟨by omega, by omega⟩ ?_ rfl
  refine ux_iload C dL_law_1779 1 rfl ?_
  refine jx_same C dL_law_1781 hT ?_
  refine ux_iload C dL_law_1786 1 rfl ?_
  by_cases zk : k = 0
  · refine jx_ifne_f C dL_law_1788 zk ?_
    refine ux_aload_n C dL_law_1791 4 rfl ?_
    refine ux_iconst C dL_law_1792 rfl ?_
    refine ux_laldK (j := 0) C jOut dL_law_1793 (by decide) (by decide) ?_
    refine ux_iload C dL_law_1794 0 rfl ?_
    refine ux_i2l C dL_law_1796 ?_
    refine ux_lcmp C dL_law_1797 ?_
    refine jx_ifeq_t C dL_law_1798 (lg_same (hO zk)) ?_
    refine ux_goto C dL_law_1803 ?_
    refine ux_sub [2, 3, 4, 5, 6, 7] rfl ?_
    refine ux_widen (k := cells + 8) (n := slots + 60) (by omega) (by omega) ?_
    exact K _ _ hP
  · refine jx_ifne_t C dL_law_1788 zk ?_
    refine ux_goto C dL_law_1803 ?_
    refine ux_sub [2, 3, 4, 5, 6, 7] rfl ?_
    refine ux_widen (k := cells + 8) (n := slots + 60) (by omega) (by omega) ?_
    exact K _ _ hP
theorem lc_28 {M : uM} {D : va_G} {base : Nat} {cB cI cJ cZ cD cO : ClassId} {sK sV : Nat → Nat} {b L : Nat} {xs : Nat → Int32} {Q : State → Prop} (C : uCx M (vJ D base cB cI cJ cZ cD cO sK sV) cL_law 9 RL 15 560 601024 7293034) (hX : va_X b L xs (mS M) (mS M).heap) (hbl : b < (mS M).heap.size) (hbb : ¬ base ≤ b) (hL : L ≤ 3072) {i : Nat} (hi : i + 6 ≤ L) {x1 : Int32} (e1 : xs (i + 1) = x1) {cells slots : Nat} (hc : cells + 8 ≤ 601024) (hs : slots + 60 ≤ 7293034) {a c : uSt} {R : uSt → uSt → Prop} (h : cKI (fL_extra x1) (fX8_extra x1) R a c) (K : ∀ a1 c1, R a1 c1 → uW M (vJ D base cB cI cJ cZ cD cO sK sV) Q 9 (cells + 8) (slots + 60) 2116 [(5, .int (nI i)), (4, .ref (vA (vC D base cB cI cJ cZ cD cO sK sV) 72)), (3, .ref (vA (vC D base cB cI cJ cZ cD cO sK sV) 71)), (2, .ref (vA (vM D (base + 71) cI cJ cZ (jB base) sK sV) 0)), (1, .ref (vA (vC D base cB cI cJ cZ cD cO sK sV) 0)), (0, .ref b)] [] (jS a1 c1)) : uW M (vJ D base cB cI cJ cZ cD cO sK sV) Q 9 cells slots 1806 [(5, .int (nI i)), (4, .ref (vA (vC D base cB cI cJ cZ cD cO sK sV) 72)), (3, .ref (vA (vC D base cB cI cJ cZ cD cO sK sV) 71)), (2, .ref (vA (vM D (base + 71) cI cJ cZ (jB base) sK sV) 0)), (1, .ref (vA (vC D base cB cI cJ cZ cD cO sK sV) 0)), (0, .ref b)] [] (jS a c) := by
  obtain ⟨k, a1, r, c1, hF, hG, hT, hO, hP⟩ := h
  refine ux_aload_n C dL_law_1806 4 rfl ?_
  refine ux_aload_n C dL_law_1807 5 rfl ?_
  refine ux_iload C dL_law_1808 0 rfl ?_
  refine ux_iconst C dL_law_1810 rfl ?_
  refine ux_iadd C dL_law_1811 ?_
  refine jx_sld C hX hbl hbb (jin (k := 1) (xs := xs) rfl (by omega) hL).1 ((jin (k := 1) (xs := xs) rfl (by omega) hL).2.trans e1) dL_law_1812 ?_
  refine ux_aload_n C dL_law_1813 2 rfl ?_
  refine jx_callH C jSub_C (jGo_C a c a1) ch_L_220 dL_law_1814 (kL_extra (vC_ok C.traces) hF) rfl (Nat.le_of_ble_eq_true rfl) ⟨(Nat.le_of_ble_eq_true rfl), (Nat.le_of_ble_eq_true rfl)⟩ ⟨by omega, by omega⟩ ?_ rfl
  refine jx_istore C dL_law_1817 rfl (Nat.le_of_ble_eq_true rfl) ?_
  refine ux_aload_n C dL_law_1819 4 rfl ?_
  refine ux_aload_n C dL_law_1820 6 rfl ?_
  refine ux_iload C dL_law_1821 1 rfl ?_
  refine ux_iconst C dL_law_1823 rfl ?_
  refine ux_iadd C dL_law_1824 ?_
  refine jx_sld C hX hbl hbb (jin (k := 1) (xs := xs) rfl (by omega) hL).1 ((jin (k := 1) (xs := xs) rfl (by omega) hL).2.trans e1) dL_law_1825 ?_
  refine jx_callV (As := [.int x1]) C jSub_M (jGo_M a1 c c1) cv_L_222 dL_law_1826 (oM (vMj_ok C.traces)) rfl (kX8_extra (vMj_ok C.traces) hG) rfl (Nat.le_of_ble_eq_true rfl) ⟨(Nat.le_of_ble_eq_true rfl), (Nat.le_of_ble_eq_true rfl)⟩ ⟨by omega, by omega⟩ ?_ rfl
  refine jx_istore C dL_law_1829 rfl (Nat.le_of_ble_eq_true rfl) ?_
  refine ux_aload_n C dL_law_1831 5 rfl ?_
  refine jx_callV (As := []) C jSub_M (jGo_M a1 c1 c1) cv_L_125 dL_law_1832 (oM (vMj_ok C.traces)) rfl (kX8_thrown (vMj_ok C.traces) (r := c1.1 0 0) rfl) rfl (Nat.le_of_ble_eq_true rfl) ⟨(Nat.le_of_ble_eq_true rfl), (Nat.le_of_ble_eq_true rfl)⟩ ⟨by omega, by omega⟩ ?_ rfl
  refine ux_iload C dL_law_1835 1 rfl ?_
  refine jx_same C dL_law_1837 hT ?_
  refine ux_iload C dL_law_1842 1 rfl ?_
  by_cases zk : k = 0
  · refine jx_ifne_f C dL_law_1844 zk ?_
    refine ux_aload_n C dL_law_1847 4 rfl ?_
    refine ux_iconst C dL_law_1848 rfl ?_
    refine ux_laldK (j := 0) C jOut dL_law_1849 (by decide) (by decide) ?_
    refine ux_iload C dL_law_1850 0 rfl ?_
    refine ux_i2l C dL_law_1852 ?_
    refine ux_lcmp C dL_law_1853 ?_
    refine jx_ifeq_t C dL_law_1854 (lg_same (hO zk)) ?_
    refine ux_goto C dL_law_1859 ?_
    refine ux_sub [2, 3, 4, 5, 6, 7] rfl ?_
    refine ux_widen (k := cells + 8) (n := slots + 60) (by omega) (by omega) ?_
    exact K _ _ hP
  · refine jx_ifne_t C dL_law_1844 zk ?_
    refine ux_goto C dL_law_1859 ?_
    refine ux_sub [2, 3, 4, 5, 6, 7] rfl ?_
    refine ux_widen (k := cells + 8) (n := slots + 60) (by omega) (by omega) ?_
    exact K _ _ hP
theorem lc_29 {M : uM} {D : va_G} {base : Nat} {cB cI cJ cZ cD cO : ClassId} {sK sV : Nat → Nat} {b L : Nat} {xs : Nat → Int32} {Q : State → Prop} (C : uCx M (vJ D base cB cI cJ cZ cD cO sK sV) cL_law 9 RL 15 560 601024 7293034) (hX : va_X b L xs (mS M) (mS M).heap) (hbl : b < (mS M).heap.size) (hbb : ¬ base ≤ b) (hL : L ≤ 3072) {i : Nat} (hi : i + 6 ≤ L) {cells slots : Nat} (hc : cells + 8 ≤ 601024) (hs : slots + 60 ≤ 7293034) {a c : uSt} {R : uSt → uSt → Prop} (h : cQ1 (fX7_minutesLeft) (fX8_minutesLeft) R a c) (K : ∀ a1 c1, R a1 c1 → uW M (vJ D base cB cI cJ cZ cD cO sK sV) Q 9 (cells + 8) (slots + 60) 2116 [(5, .int (nI i)), (4, .ref (vA (vC D base cB cI cJ cZ cD cO sK sV) 72)), (3, .ref (vA (vC D base cB cI cJ cZ cD cO sK sV) 71)), (2, .ref (vA (vM D (base + 71) cI cJ cZ (jB base) sK sV) 0)), (1, .ref (vA (vC D base cB cI cJ cZ cD cO sK sV) 0)), (0, .ref b)] [] (jS a1 c1)) : uW M (vJ D base cB cI cJ cZ cD cO sK sV) Q 9 cells slots 1862 [(5, .int (nI i)), (4, .ref (vA (vC D base cB cI cJ cZ cD cO sK sV) 72)), (3, .ref (vA (vC D base cB cI cJ cZ cD cO sK sV) 71)), (2, .ref (vA (vM D (base + 71) cI cJ cZ (jB base) sK sV) 0)), (1, .ref (vA (vC D base cB cI cJ cZ cD cO sK sV) 0)), (0, .ref b)] [] (jS a c) := by
  obtain ⟨r, a1, c1, hF, hG, hP⟩ := h
  refine ux_aload_n C dL_law_1862 4 rfl ?_
  refine jx_callV (As := []) C jSub_C (jGo_C a c a1) cv_L_223 dL_law_1863 (oF (vC_ok C.traces)) rfl (kX7_minutesLeft (vC_ok C.traces) hF) rfl (Nat.le_of_ble_eq_true rfl) ⟨(Nat.le_of_ble_eq_true rfl), (Nat.le_of_ble_eq_true rfl)⟩ ⟨by omega, by omega⟩ ?_ rfl
  refine ux_aload_n C dL_law_1866 3 rfl ?_
  refine jx_callV (As := []) C jSub_M (jGo_M a1 c c1) cv_L_226 dL_law_1867 (oM (vMj_ok C.traces)) rfl (kX8_minutesLeft (vMj_ok C.traces) hG) rfl (Nat.le_of_ble_eq_true rfl) ⟨(Nat.le_of_ble_eq_true rfl), (Nat.le_of_ble_eq_true rfl)⟩ ⟨by omega, by omega⟩ ?_ rfl
  refine jx_same C dL_law_1870 rfl ?_
  refine ux_widen (k := cells + 8) (n := slots + 60) (by omega) (by omega) ?_
  exact K _ _ hP
theorem lc_30 {M : uM} {D : va_G} {base : Nat} {cB cI cJ cZ cD cO : ClassId} {sK sV : Nat → Nat} {b L : Nat} {xs : Nat → Int32} {Q : State → Prop} (C : uCx M (vJ D base cB cI cJ cZ cD cO sK sV) cL_law 9 RL 15 560 601024 7293034) (hX : va_X b L xs (mS M) (mS M).heap) (hbl : b < (mS M).heap.size) (hbb : ¬ base ≤ b) (hL : L ≤ 3072) {i : Nat} (hi : i + 6 ≤ L) {x1 : Int32} (e1 : xs (i + 1) = x1) {cells slots : Nat} (hc : cells + 8 ≤ 601024) (hs : slots + 60 ≤ 7293034) {a c : uSt} {R : uSt → uSt → Prop} (h : cKI (fL_valueAfter x1) (fX8_valueAfter x1) R a c) (K : ∀ a1 c1, R a1 c1 → uW M (vJ D base cB cI cJ cZ cD cO sK sV) Q 9 (cells + 8) (slots + 60) 2116 [(5, .int (nI i)), (4, .ref (vA (vC D base cB cI cJ cZ cD cO sK sV) 72)), (3, .ref (vA (vC D base cB cI cJ cZ cD cO sK sV) 71)), (2, .ref (vA (vM D (base + 71) cI cJ cZ (jB base) sK sV) 0)), (1, .ref (vA (vC D base cB cI cJ cZ cD cO sK sV) 0)), (0, .ref b)] [] (jS a1 c1)) : uW M (vJ D base cB cI cJ cZ cD cO sK sV) Q 9 cells slots 1875 [(5, .int (nI i)), (4, .ref (vA (vC D base cB cI cJ cZ cD cO sK sV) 72)), (3, .ref (vA (vC D base cB cI cJ cZ cD cO sK sV) 71)), (2, .ref (vA (vM D (base + 71) cI cJ cZ (jB base) sK sV) 0)), (1, .ref (vA (vC D base cB cI cJ cZ cD cO sK sV) 0)), (0, .ref b)] [] (jS a c) := by
  obtain ⟨k, a1, r, c1, hF, hG, hT, hO, hP⟩ := h
  refine ux_aload_n C dL_law_1875 4 rfl ?_
  refine ux_aload_n C dL_law_1876 5 rfl ?_
  refine ux_iload C dL_law_1877 0 rfl ?_
  refine ux_iconst C dL_law_1879 rfl ?_
  refine ux_iadd C dL_law_1880 ?_
  refine jx_sld C hX hbl hbb (jin (k := 1) (xs := xs) rfl (by omega) hL).1 ((jin (k := 1) (xs := xs) rfl (by omega) hL).2.trans e1) dL_law_1881 ?_
  refine ux_aload_n C dL_law_1882 2 rfl ?_
  refine jx_callH C jSub_C (jGo_C a c a1) ch_L_227 dL_law_1883 (kL_valueAfter (vC_ok C.traces) hF) rfl (Nat.le_of_ble_eq_true rfl) ⟨(Nat.le_of_ble_eq_true rfl), (Nat.le_of_ble_eq_true rfl)⟩ ⟨by omega, by omega⟩ ?_ rfl
  refine jx_istore C dL_law_1886 rfl (Nat.le_of_ble_eq_true rfl) ?_
  refine ux_aload_n C dL_law_1888 4 rfl ?_
  refine ux_aload_n C dL_law_1889 6 rfl ?_
  refine ux_iload C dL_law_1890 1 rfl ?_
  refine ux_iconst C dL_law_1892 rfl ?_
  refine ux_iadd C dL_law_1893 ?_
  refine jx_sld C hX hbl hbb (jin (k := 1) (xs := xs) rfl (by omega) hL).1 ((jin (k := 1) (xs := xs) rfl (by omega) hL).2.trans e1) dL_law_1894 ?_
  refine jx_callV (As := [.int x1]) C jSub_M (jGo_M a1 c c1) cv_L_229 dL_law_1895 (oM (vMj_ok C.traces)) rfl (kX8_valueAfter (vMj_ok C.traces) hG) rfl (Nat.le_of_ble_eq_true rfl) ⟨(Nat.le_of_ble_eq_true rfl), (Nat.le_of_ble_eq_true rfl)⟩ ⟨by omega, by omega⟩ ?_ rfl
  refine jx_istore C dL_law_1898 rfl (Nat.le_of_ble_eq_true rfl) ?_
  refine ux_aload_n C dL_law_1900 5 rfl ?_
  refine jx_callV (As := []) C jSub_M (jGo_M a1 c1 c1) cv_L_125 dL_law_1901 (oM (vMj_ok C.traces)) rfl (kX8_thrown (vMj_ok C.traces) (r := c1.1 0 0) rfl) rfl (Nat.le_of_ble_eq_true rfl) ⟨(Nat.le_of_ble_eq_true rfl), (Nat.le_of_ble_eq_true rfl)⟩ ⟨by omega, by omega⟩ ?_ rfl
  refine ux_iload C dL_law_1904 1 rfl ?_
  refine jx_same C dL_law_1906 hT ?_
  refine ux_iload C dL_law_1911 1 rfl ?_
  by_cases zk : k = 0
  · refine jx_ifne_f C dL_law_1913 zk ?_
    refine ux_aload_n C dL_law_1916 4 rfl ?_
    refine ux_iconst C dL_law_1917 rfl ?_
    refine ux_laldK (j := 0) C jOut dL_law_1918 (by decide) (by decide) ?_
    refine ux_iload C dL_law_1919 0 rfl ?_
    refine ux_i2l C dL_law_1921 ?_
    refine ux_lcmp C dL_law_1922 ?_
    refine jx_ifeq_t C dL_law_1923 (lg_same (hO zk)) ?_
    refine ux_goto C dL_law_1928 ?_
    refine ux_sub [2, 3, 4, 5, 6, 7] rfl ?_
    refine ux_widen (k := cells + 8) (n := slots + 60) (by omega) (by omega) ?_
    exact K _ _ hP
  · refine jx_ifne_t C dL_law_1913 zk ?_
    refine ux_goto C dL_law_1928 ?_
    refine ux_sub [2, 3, 4, 5, 6, 7] rfl ?_
    refine ux_widen (k := cells + 8) (n := slots + 60) (by omega) (by omega) ?_
    exact K _ _ hP
theorem lc_31 {M : uM} {D : va_G} {base : Nat} {cB cI cJ cZ cD cO : ClassId} {sK sV : Nat → Nat} {b L : Nat} {xs : Nat → Int32} {Q : State → Prop} (C : uCx M (vJ D base cB cI cJ cZ cD cO sK sV) cL_law 9 RL 15 560 601024 7293034) (hX : va_X b L xs (mS M) (mS M).heap) (hbl : b < (mS M).heap.size) (hbb : ¬ base ≤ b) (hL : L ≤ 3072) {i : Nat} (hi : i + 6 ≤ L) {cells slots : Nat} (hc : cells + 8 ≤ 601024) (hs : slots + 60 ≤ 7293034) {a c : uSt} {R : uSt → uSt → Prop} (h : cQ0 (fX7_minutesToSafety) (fX8_minutesToSafety) R a c) (K : ∀ a1 c1, R a1 c1 → uW M (vJ D base cB cI cJ cZ cD cO sK sV) Q 9 (cells + 8) (slots + 60) 2116 [(5, .int (nI i)), (4, .ref (vA (vC D base cB cI cJ cZ cD cO sK sV) 72)), (3, .ref (vA (vC D base cB cI cJ cZ cD cO sK sV) 71)), (2, .ref (vA (vM D (base + 71) cI cJ cZ (jB base) sK sV) 0)), (1, .ref (vA (vC D base cB cI cJ cZ cD cO sK sV) 0)), (0, .ref b)] [] (jS a1 c1)) : uW M (vJ D base cB cI cJ cZ cD cO sK sV) Q 9 cells slots 1931 [(5, .int (nI i)), (4, .ref (vA (vC D base cB cI cJ cZ cD cO sK sV) 72)), (3, .ref (vA (vC D base cB cI cJ cZ cD cO sK sV) 71)), (2, .ref (vA (vM D (base + 71) cI cJ cZ (jB base) sK sV) 0)), (1, .ref (vA (vC D base cB cI cJ cZ cD cO sK sV) 0)), (0, .ref b)] [] (jS a c) := by
  obtain ⟨r, c1, hF, hG, hP⟩ := h
  refine ux_aload_n C dL_law_1931 4 rfl ?_
  refine jx_callV (As := []) C jSub_C (jGo_C a c a) cv_L_230 dL_law_1932 (oF (vC_ok C.traces)) rfl (kX7_minutesToSafety (vC_ok C.traces) hF) rfl (Nat.le_of_ble_eq_true rfl) ⟨(Nat.le_of_ble_eq_true rfl), (Nat.le_of_ble_eq_true rfl)⟩ ⟨by omega, by omega⟩ ?_ rfl
  refine ux_aload_n C dL_law_1935 3 rfl ?_
  refine jx_callV (As := []) C jSub_M (jGo_M a c c1) cv_L_233 dL_law_1936 (oM (vMj_ok C.traces)) rfl (kX8_minutesToSafety (vMj_ok C.traces) hG) rfl (Nat.le_of_ble_eq_true rfl) ⟨(Nat.le_of_ble_eq_true rfl), (Nat.le_of_ble_eq_true rfl)⟩ ⟨by omega, by omega⟩ ?_ rfl
  refine jx_same C dL_law_1939 rfl ?_
  refine ux_widen (k := cells + 8) (n := slots + 60) (by omega) (by omega) ?_
  exact K _ _ hP
theorem lc_32 {M : uM} {D : va_G} {base : Nat} {cB cI cJ cZ cD cO : ClassId} {sK sV : Nat → Nat} {b L : Nat} {xs : Nat → Int32} {Q : State → Prop} (C : uCx M (vJ D base cB cI cJ cZ cD cO sK sV) cL_law 9 RL 15 560 601024 7293034) (hX : va_X b L xs (mS M) (mS M).heap) (hbl : b < (mS M).heap.size) (hbb : ¬ base ≤ b) (hL : L ≤ 3072) {i : Nat} (hi : i + 6 ≤ L) {x1 : Int32} (e1 : xs (i + 1) = x1) {cells slots : Nat} (hc : cells + 8 ≤ 601024) (hs : slots + 60 ≤ 7293034) {a c : uSt} {R : uSt → uSt → Prop} (h : cKI (fL_gainOfRepair x1) (fX8_gainOfRepair x1) R a c) (K : ∀ a1 c1, R a1 c1 → uW M (vJ D base cB cI cJ cZ cD cO sK sV) Q 9 (cells + 8) (slots + 60) 2116 [(5, .int (nI i)), (4, .ref (vA (vC D base cB cI cJ cZ cD cO sK sV) 72)), (3, .ref (vA (vC D base cB cI cJ cZ cD cO sK sV) 71)), (2, .ref (vA (vM D (base + 71) cI cJ cZ (jB base) sK sV) 0)), (1, .ref (vA (vC D base cB cI cJ cZ cD cO sK sV) 0)), (0, .ref b)] [] (jS a1 c1)) : uW M (vJ D base cB cI cJ cZ cD cO sK sV) Q 9 cells slots 1944 [(5, .int (nI i)), (4, .ref (vA (vC D base cB cI cJ cZ cD cO sK sV) 72)), (3, .ref (vA (vC D base cB cI cJ cZ cD cO sK sV) 71)), (2, .ref (vA (vM D (base + 71) cI cJ cZ (jB base) sK sV) 0)), (1, .ref (vA (vC D base cB cI cJ cZ cD cO sK sV) 0)), (0, .ref b)] [] (jS a c) := by
  obtain ⟨k, a1, r, c1, hF, hG, hT, hO, hP⟩ := h
  refine ux_aload_n C dL_law_1944 4 rfl ?_
  refine ux_aload_n C dL_law_1945 5 rfl ?_
  refine ux_iload C dL_law_1946 0 rfl ?_
  refine ux_iconst C dL_law_1948 rfl ?_
  refine ux_iadd C dL_law_1949 ?_
  refine jx_sld C hX hbl hbb (jin (k := 1) (xs := xs) rfl (by omega) hL).1 ((jin (k := 1) (xs := xs) rfl (by omega) hL).2.trans e1) dL_law_1950 ?_
  refine ux_aload_n C dL_law_1951 2 rfl ?_
  refine jx_callH C jSub_C (jGo_C a c a1) ch_L_234 dL_law_1952 (kL_gainOfRepair (vC_ok C.traces) hF) rfl (Nat.le_of_ble_eq_true rfl) ⟨(Nat.le_of_ble_eq_true rfl), (Nat.le_of_ble_eq_true rfl)⟩ ⟨by omega, by omega⟩ ?_ rfl
  refine jx_istore C dL_law_1955 rfl (Nat.le_of_ble_eq_true rfl) ?_
  refine ux_aload_n C dL_law_1957 4 rfl ?_
  refine ux_aload_n C dL_law_1958 6 rfl ?_
  refine ux_iload C dL_law_1959 1 rfl ?_
  refine ux_iconst C dL_law_1961 rfl ?_
  refine ux_iadd C dL_law_1962 ?_
  refine jx_sld C hX hbl hbb (jin (k := 1) (xs := xs) rfl (by omega) hL).1 ((jin (k := 1) (xs := xs) rfl (by omega) hL).2.trans e1) dL_law_1963 ?_
  refine jx_callV (As := [.int x1]) C jSub_M (jGo_M a1 c c1) cv_L_236 dL_law_1964 (oM (vMj_ok C.traces)) rfl (kX8_gainOfRepair (vMj_ok C.traces) hG) rfl (Nat.le_of_ble_eq_true rfl) ⟨(Nat.le_of_ble_eq_true rfl), (Nat.le_of_ble_eq_true rfl)⟩ ⟨by omega, by omega⟩ ?_ rfl
  refine jx_istore C dL_law_1967 rfl (Nat.le_of_ble_eq_true rfl) ?_
  refine ux_aload_n C dL_law_1969 5 rfl ?_
  refine jx_callV (As := []) C jSub_M (jGo_M a1 c1 c1) cv_L_125 dL_law_1970 (oM (vMj_ok C.traces)) rfl (kX8_thrown (vMj_ok C.traces) (r := c1.1 0 0) rfl) rfl (Nat.le_of_ble_eq_true rfl) ⟨(Nat.le_of_ble_eq_true rfl), (Nat.le_of_ble_eq_true rfl)⟩ ⟨by omega, by omega⟩ ?_ rfl
  refine ux_iload C dL_law_1973 1 rfl ?_
  refine jx_same C dL_law_1975 hT ?_
  refine ux_iload C dL_law_1980 1 rfl ?_
  by_cases zk : k = 0
  · refine jx_ifne_f C dL_law_1982 zk ?_
    refine ux_aload_n C dL_law_1985 4 rfl ?_
    refine ux_iconst C dL_law_1986 rfl ?_
    refine ux_laldK (j := 0) C jOut dL_law_1987 (by decide) (by decide) ?_
    refine ux_iload C dL_law_1988 0 rfl ?_
    refine ux_i2l C dL_law_1990 ?_
    refine ux_lcmp C dL_law_1991 ?_
    refine jx_ifeq_t C dL_law_1992 (lg_same (hO zk)) ?_
    refine ux_goto C dL_law_1997 ?_
    refine ux_sub [2, 3, 4, 5, 6, 7] rfl ?_
    refine ux_widen (k := cells + 8) (n := slots + 60) (by omega) (by omega) ?_
    exact K _ _ hP
  · refine jx_ifne_t C dL_law_1982 zk ?_
    refine ux_goto C dL_law_1997 ?_
    refine ux_sub [2, 3, 4, 5, 6, 7] rfl ?_
    refine ux_widen (k := cells + 8) (n := slots + 60) (by omega) (by omega) ?_
    exact K _ _ hP
theorem lc_33 {M : uM} {D : va_G} {base : Nat} {cB cI cJ cZ cD cO : ClassId} {sK sV : Nat → Nat} {b L : Nat} {xs : Nat → Int32} {Q : State → Prop} (C : uCx M (vJ D base cB cI cJ cZ cD cO sK sV) cL_law 9 RL 15 560 601024 7293034) (hX : va_X b L xs (mS M) (mS M).heap) (hbl : b < (mS M).heap.size) (hbb : ¬ base ≤ b) (hL : L ≤ 3072) {i : Nat} (hi : i + 6 ≤ L) {cells slots : Nat} (hc : cells + 8 ≤ 601024) (hs : slots + 60 ≤ 7293034) {a c : uSt} {R : uSt → uSt → Prop} (h : cKI (fL_costliest) (fX8_costliest) R a c) (K : ∀ a1 c1, R a1 c1 → uW M (vJ D base cB cI cJ cZ cD cO sK sV) Q 9 (cells + 8) (slots + 60) 2116 [(5, .int (nI i)), (4, .ref (vA (vC D base cB cI cJ cZ cD cO sK sV) 72)), (3, .ref (vA (vC D base cB cI cJ cZ cD cO sK sV) 71)), (2, .ref (vA (vM D (base + 71) cI cJ cZ (jB base) sK sV) 0)), (1, .ref (vA (vC D base cB cI cJ cZ cD cO sK sV) 0)), (0, .ref b)] [] (jS a1 c1)) : uW M (vJ D base cB cI cJ cZ cD cO sK sV) Q 9 cells slots 2000 [(5, .int (nI i)), (4, .ref (vA (vC D base cB cI cJ cZ cD cO sK sV) 72)), (3, .ref (vA (vC D base cB cI cJ cZ cD cO sK sV) 71)), (2, .ref (vA (vM D (base + 71) cI cJ cZ (jB base) sK sV) 0)), (1, .ref (vA (vC D base cB cI cJ cZ cD cO sK sV) 0)), (0, .ref b)] [] (jS a c) := by
  obtain ⟨k, a1, r, c1, hF, hG, hT, hO, hP⟩ := h
  refine ux_aload_n C dL_law_2000 4 rfl ?_
  refine ux_aload_n C dL_law_2001 2 rfl ?_
  refine jx_callH C jSub_C (jGo_C a c a1) ch_L_237 dL_law_2002 (kL_costliest (vC_ok C.traces) hF) rfl (Nat.le_of_ble_eq_true rfl) ⟨(Nat.le_of_ble_eq_true rfl), (Nat.le_of_ble_eq_true rfl)⟩ ⟨by omega, by omega⟩ ?_ rfl
  refine jx_istore C dL_law_2005 rfl (Nat.le_of_ble_eq_true rfl) ?_
  refine ux_aload_n C dL_law_2007 4 rfl ?_
  refine jx_callV (As := []) C jSub_M (jGo_M a1 c c1) cv_L_239 dL_law_2008 (oM (vMj_ok C.traces)) rfl (kX8_costliest (vMj_ok C.traces) hG) rfl (Nat.le_of_ble_eq_true rfl) ⟨(Nat.le_of_ble_eq_true rfl), (Nat.le_of_ble_eq_true rfl)⟩ ⟨by omega, by omega⟩ ?_ rfl
  refine jx_istore C dL_law_2011 rfl (Nat.le_of_ble_eq_true rfl) ?_
  refine ux_aload_n C dL_law_2013 5 rfl ?_
  refine jx_callV (As := []) C jSub_M (jGo_M a1 c1 c1) cv_L_125 dL_law_2014 (oM (vMj_ok C.traces)) rfl (kX8_thrown (vMj_ok C.traces) (r := c1.1 0 0) rfl) rfl (Nat.le_of_ble_eq_true rfl) ⟨(Nat.le_of_ble_eq_true rfl), (Nat.le_of_ble_eq_true rfl)⟩ ⟨by omega, by omega⟩ ?_ rfl
  refine ux_iload C dL_law_2017 1 rfl ?_
  refine jx_same C dL_law_2019 hT ?_
  refine ux_iload C dL_law_2024 1 rfl ?_
  by_cases zk : k = 0
  · refine jx_ifne_f C dL_law_2026 zk ?_
    refine ux_aload_n C dL_law_2029 4 rfl ?_
    refine ux_iconst C dL_law_2030 rfl ?_
    refine ux_laldK (j := 0) C jOut dL_law_2031 (by decide) (by decide) ?_
    refine ux_iload C dL_law_2032 0 rfl ?_
    refine ux_i2l C dL_law_2034 ?_
    refine ux_lcmp C dL_law_2035 ?_
    refine jx_ifeq_t C dL_law_2036 (lg_same (hO zk)) ?_
    refine ux_goto C dL_law_2041 ?_
    refine ux_sub [2, 3, 4, 5, 6, 7] rfl ?_
    refine ux_widen (k := cells + 8) (n := slots + 60) (by omega) (by omega) ?_
    exact K _ _ hP
  · refine jx_ifne_t C dL_law_2026 zk ?_
    refine ux_goto C dL_law_2041 ?_
    refine ux_sub [2, 3, 4, 5, 6, 7] rfl ?_
    refine ux_widen (k := cells + 8) (n := slots + 60) (by omega) (by omega) ?_
    exact K _ _ hP
theorem lc_34 {M : uM} {D : va_G} {base : Nat} {cB cI cJ cZ cD cO : ClassId} {sK sV : Nat → Nat} {b L : Nat} {xs : Nat → Int32} {Q : State → Prop} (C : uCx M (vJ D base cB cI cJ cZ cD cO sK sV) cL_law 9 RL 15 560 601024 7293034) (hX : va_X b L xs (mS M) (mS M).heap) (hbl : b < (mS M).heap.size) (hbb : ¬ base ≤ b) (hL : L ≤ 3072) {i : Nat} (hi : i + 6 ≤ L) {x1 : Int32} (e1 : xs (i + 1) = x1) {cells slots : Nat} (hc : cells + 8 ≤ 601024) (hs : slots + 60 ≤ 7293034) {a c : uSt} {R : uSt → uSt → Prop} (h : cKV (fL_save x1) (fX8_save x1) R a c) (K : ∀ a1 c1, R a1 c1 → uW M (vJ D base cB cI cJ cZ cD cO sK sV) Q 9 (cells + 8) (slots + 60) 2116 [(5, .int (nI i)), (4, .ref (vA (vC D base cB cI cJ cZ cD cO sK sV) 72)), (3, .ref (vA (vC D base cB cI cJ cZ cD cO sK sV) 71)), (2, .ref (vA (vM D (base + 71) cI cJ cZ (jB base) sK sV) 0)), (1, .ref (vA (vC D base cB cI cJ cZ cD cO sK sV) 0)), (0, .ref b)] [] (jS a1 c1)) : uW M (vJ D base cB cI cJ cZ cD cO sK sV) Q 9 cells slots 2044 [(5, .int (nI i)), (4, .ref (vA (vC D base cB cI cJ cZ cD cO sK sV) 72)), (3, .ref (vA (vC D base cB cI cJ cZ cD cO sK sV) 71)), (2, .ref (vA (vM D (base + 71) cI cJ cZ (jB base) sK sV) 0)), (1, .ref (vA (vC D base cB cI cJ cZ cD cO sK sV) 0)), (0, .ref b)] [] (jS a c) := by
  obtain ⟨k, a1, r, c1, hF, hG, hT, hP⟩ := h
  refine ux_aload_n C dL_law_2044 4 rfl ?_
  refine ux_aload_n C dL_law_2045 5 rfl ?_
  refine ux_iload C dL_law_2046 0 rfl ?_
  refine ux_iconst C dL_law_2048 rfl ?_
  refine ux_iadd C dL_law_2049 ?_
  refine jx_sld C hX hbl hbb (jin (k := 1) (xs := xs) rfl (by omega) hL).1 ((jin (k := 1) (xs := xs) rfl (by omega) hL).2.trans e1) dL_law_2050 ?_
  refine jx_callH C jSub_C (jGo_C a c a1) ch_L_240 dL_law_2051 (kL_save (vC_ok C.traces) hF) rfl (Nat.le_of_ble_eq_true rfl) ⟨(Nat.le_of_ble_eq_true rfl), (Nat.le_of_ble_eq_true rfl)⟩ ⟨by omega, by omega⟩ ?_ rfl
  refine jx_istore C dL_law_2054 rfl (Nat.le_of_ble_eq_true rfl) ?_
  refine ux_aload_n C dL_law_2056 4 rfl ?_
  refine ux_aload_n C dL_law_2057 6 rfl ?_
  refine ux_iload C dL_law_2058 1 rfl ?_
  refine ux_iconst C dL_law_2060 rfl ?_
  refine ux_iadd C dL_law_2061 ?_
  refine jx_sld C hX hbl hbb (jin (k := 1) (xs := xs) rfl (by omega) hL).1 ((jin (k := 1) (xs := xs) rfl (by omega) hL).2.trans e1) dL_law_2062 ?_
  refine jx_callV (As := [.int x1]) C jSub_M (jGo_M a1 c c1) cv_L_243 dL_law_2063 (oM (vMj_ok C.traces)) rfl (kX8_save (vMj_ok C.traces) hG) rfl (Nat.le_of_ble_eq_true rfl) ⟨(Nat.le_of_ble_eq_true rfl), (Nat.le_of_ble_eq_true rfl)⟩ ⟨by omega, by omega⟩ ?_ rfl
  refine ux_aload_n C dL_law_2066 4 rfl ?_
  refine jx_callV (As := []) C jSub_M (jGo_M a1 c1 c1) cv_L_125 dL_law_2067 (oM (vMj_ok C.traces)) rfl (kX8_thrown (vMj_ok C.traces) (r := c1.1 0 0) rfl) rfl (Nat.le_of_ble_eq_true rfl) ⟨(Nat.le_of_ble_eq_true rfl), (Nat.le_of_ble_eq_true rfl)⟩ ⟨by omega, by omega⟩ ?_ rfl
  refine ux_iload C dL_law_2070 0 rfl ?_
  refine jx_same C dL_law_2072 hT ?_
  refine ux_goto C dL_law_2077 ?_
  refine ux_sub [1, 2, 3, 4, 5, 6] rfl ?_
  refine ux_widen (k := cells + 8) (n := slots + 60) (by omega) (by omega) ?_
  exact K _ _ hP
theorem lc_35 {M : uM} {D : va_G} {base : Nat} {cB cI cJ cZ cD cO : ClassId} {sK sV : Nat → Nat} {b L : Nat} {xs : Nat → Int32} {Q : State → Prop} (C : uCx M (vJ D base cB cI cJ cZ cD cO sK sV) cL_law 9 RL 15 560 601024 7293034) (hX : va_X b L xs (mS M) (mS M).heap) (hbl : b < (mS M).heap.size) (hbb : ¬ base ≤ b) (hL : L ≤ 3072) {i : Nat} (hi : i + 6 ≤ L) {x1 : Int32} (e1 : xs (i + 1) = x1) {cells slots : Nat} (hc : cells + 8 ≤ 601024) (hs : slots + 60 ≤ 7293034) {a c : uSt} {R : uSt → uSt → Prop} (h : cKV (fL_restore x1) (fX8_restore x1) R a c) (K : ∀ a1 c1, R a1 c1 → uW M (vJ D base cB cI cJ cZ cD cO sK sV) Q 9 (cells + 8) (slots + 60) 2116 [(5, .int (nI i)), (4, .ref (vA (vC D base cB cI cJ cZ cD cO sK sV) 72)), (3, .ref (vA (vC D base cB cI cJ cZ cD cO sK sV) 71)), (2, .ref (vA (vM D (base + 71) cI cJ cZ (jB base) sK sV) 0)), (1, .ref (vA (vC D base cB cI cJ cZ cD cO sK sV) 0)), (0, .ref b)] [] (jS a1 c1)) : uW M (vJ D base cB cI cJ cZ cD cO sK sV) Q 9 cells slots 2080 [(5, .int (nI i)), (4, .ref (vA (vC D base cB cI cJ cZ cD cO sK sV) 72)), (3, .ref (vA (vC D base cB cI cJ cZ cD cO sK sV) 71)), (2, .ref (vA (vM D (base + 71) cI cJ cZ (jB base) sK sV) 0)), (1, .ref (vA (vC D base cB cI cJ cZ cD cO sK sV) 0)), (0, .ref b)] [] (jS a c) := by
  obtain ⟨k, a1, r, c1, hF, hG, hT, hP⟩ := h
  refine ux_aload_n C dL_law_2080 4 rfl ?_
  refine ux_aload_n C dL_law_2081 5 rfl ?_
  refine ux_iload C dL_law_2082 0 rfl ?_
  refine ux_iconst C dL_law_2084 rfl ?_
  refine ux_iadd C dL_law_2085 ?_
  refine jx_sld C hX hbl hbb (jin (k := 1) (xs := xs) rfl (by omega) hL).1 ((jin (k := 1) (xs := xs) rfl (by omega) hL).2.trans e1) dL_law_2086 ?_
  refine jx_callH C jSub_C (jGo_C a c a1) ch_L_244 dL_law_2087 (kL_restore (vC_ok C.traces) hF) rfl (Nat.le_of_ble_eq_true rfl) ⟨(Nat.le_of_ble_eq_true rfl), (Nat.le_of_ble_eq_true rfl)⟩ ⟨by omega, by omega⟩ ?_ rfl
  refine jx_istore C dL_law_2090 rfl (Nat.le_of_ble_eq_true rfl) ?_
  refine ux_aload_n C dL_law_2092 4 rfl ?_
  refine ux_aload_n C dL_law_2093 6 rfl ?_
  refine ux_iload C dL_law_2094 1 rfl ?_
  refine ux_iconst C dL_law_2096 rfl ?_
  refine ux_iadd C dL_law_2097 ?_
  refine jx_sld C hX hbl hbb (jin (k := 1) (xs := xs) rfl (by omega) hL).1 ((jin (k := 1) (xs := xs) rfl (by omega) hL).2.trans e1) dL_law_2098 ?_
  refine jx_callV (As := [.int x1]) C jSub_M (jGo_M a1 c c1) cv_L_246 dL_law_2099 (oM (vMj_ok C.traces)) rfl (kX8_restore (vMj_ok C.traces) hG) rfl (Nat.le_of_ble_eq_true rfl) ⟨(Nat.le_of_ble_eq_true rfl), (Nat.le_of_ble_eq_true rfl)⟩ ⟨by omega, by omega⟩ ?_ rfl
  refine ux_aload_n C dL_law_2102 4 rfl ?_
  refine jx_callV (As := []) C jSub_M (jGo_M a1 c1 c1) cv_L_125 dL_law_2103 (oM (vMj_ok C.traces)) rfl (kX8_thrown (vMj_ok C.traces) (r := c1.1 0 0) rfl) rfl (Nat.le_of_ble_eq_true rfl) ⟨(Nat.le_of_ble_eq_true rfl), (Nat.le_of_ble_eq_true rfl)⟩ ⟨by omega, by omega⟩ ?_ rfl
  refine ux_iload C dL_law_2106 0 rfl ?_
  refine jx_same C dL_law_2108 hT ?_
  refine ux_goto C dL_law_2113 ?_
  refine ux_sub [1, 2, 3, 4, 5, 6] rfl ?_
  refine ux_widen (k := cells + 8) (n := slots + 60) (by omega) (by omega) ?_
  exact K _ _ hP
