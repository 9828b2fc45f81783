/-! the law's cases -/
section ZLC
variable {p : Program} {l : Launch} {e : Env} {R : Room} {s : State} {m : MethodId} {args : Array Value} {below : List Frame} {meth : Method} {c : Code} {H : Heap} {locs : List Loc} {cells slots : Nat} {Q : State → Prop}
variable {ls : Array Slot} {B0 : Nat} {D : va_G} {cs : Nat → ClassId} {xa : Nat → Nat} {b L a : Nat} {xs : Nat → Int32} {σ : zH}
theorem zl_c0 (K : zLK p s m args c R B0 D cs xa b L xs) (hc : cells ≤ R.cells ∧ slots ≤ R.slots) (hl : lv_has ls 7 (zll B0 b a)) (ha : a + 5 < L) (hH : zHM B0 D cs σ H) (hS : va_S (zAA B0) s.heap H locs) (hv : zLv σ) (back : ∀ (σ2 : zH) (H2 : Heap) (locs2 : List Loc), zLv σ2 → zHM B0 D cs σ2 H2 → va_S (zAA B0) s.heap H2 locs2 → W p l e R s m args below meth c H2 locs2 cells slots Q (F0 m 623 ls [])) : W p l e R s m args below meth c H locs cells slots Q (F0 m 124 ls []) := by
  obtain ⟨C, ⟨hX, hbl, hsz, hL⟩, hR, hXS⟩ := id K
  obtain ⟨hx, hb, -⟩ := id C
  refine lv_aload_n hx hb d_law_124 rfl (lv_at hl 3 rfl) ?_
  refine zl_arg K hS (k := 1) (lv_at hl 4 rfl) (lv_at hl 0 rfl) rfl (by omega) d_law_125 d_law_126 d_law_128 d_law_129 d_law_130 ?_
  refine zl_arg K hS (k := 2) (lv_at hl 4 rfl) (lv_at hl 0 rfl) rfl (by omega) d_law_131 d_law_132 d_law_134 d_law_135 d_law_136 ?_
  refine zl_arg K hS (k := 3) (lv_at hl 4 rfl) (lv_at hl 0 rfl) rfl (by omega) d_law_137 d_law_138 d_law_140 d_law_141 d_law_142 ?_
  refine zl_arg K hS (k := 4) (lv_at hl 4 rfl) (lv_at hl 0 rfl) rfl (by omega) d_law_143 d_law_144 d_law_146 d_law_147 d_law_148 ?_
  refine zl_arg K hS (k := 5) (lv_at hl 4 rfl) (lv_at hl 0 rfl) rfl (by omega) d_law_149 d_law_150 d_law_152 d_law_153 d_law_154 ?_
  refine zl_V C hH hS hl.1 (M1 := 106) (r := 1) (as := [.int (xs (a + 1)), .int (xs (a + 2)), .int (xs (a + 3)), .int (xs (a + 4)), .int (xs (a + 5))]) (rest := []) (by omega) rfl zlk_24 rfl (zLv_1 hv) (show 6 ≤ zml 106 by decide) (show 0 ≤ 8 by omega) rfl d_law_155 (d := 60) ⟨by omega, by omega⟩ hc (zp_feed hv) ?_
  intro r1 σ1 H1 locs1 hz hH1 hS1
  obtain ⟨v, rfl, k1, hz⟩ := hz
  refine lv_aload_n hx hb d_law_158 rfl (lv_at hl 2 rfl) ?_
  refine zl_arg K hS1 (k := 1) (lv_at hl 4 rfl) (lv_at hl 0 rfl) rfl (by omega) d_law_159 d_law_160 d_law_162 d_law_163 d_law_164 ?_
  refine zl_arg K hS1 (k := 2) (lv_at hl 4 rfl) (lv_at hl 0 rfl) rfl (by omega) d_law_165 d_law_166 d_law_168 d_law_169 d_law_170 ?_
  refine zl_arg K hS1 (k := 3) (lv_at hl 4 rfl) (lv_at hl 0 rfl) rfl (by omega) d_law_171 d_law_172 d_law_174 d_law_175 d_law_176 ?_
  refine zl_arg K hS1 (k := 4) (lv_at hl 4 rfl) (lv_at hl 0 rfl) rfl (by omega) d_law_177 d_law_178 d_law_180 d_law_181 d_law_182 ?_
  refine zl_arg K hS1 (k := 5) (lv_at hl 4 rfl) (lv_at hl 0 rfl) rfl (by omega) d_law_183 d_law_184 d_law_186 d_law_187 d_law_188 ?_
  refine zl_V C hH1 hS1 hl.1 (M1 := 128) (r := 160) (as := [.int (xs (a + 1)), .int (xs (a + 2)), .int (xs (a + 3)), .int (xs (a + 4)), .int (xs (a + 5))]) (rest := [.int v]) (by omega) rfl zlk_28 rfl k1 (show 6 ≤ zml 128 by decide) (show 1 ≤ 8 by omega) rfl d_law_189 (d := 60) ⟨by omega, by omega⟩ hc hz ?_
  intro r2 σ2 H2 locs2 hz2 hH2 hS2
  obtain ⟨rfl, hv2⟩ := hz2
  show W p l e R s m args below meth c H2 locs2 cells slots Q (F0 m 192 ls [.int v, .int v])
  exact lv_icmp_eq hx hb d_law_192 (tgt := 623) rfl (fun _ => back σ2 H2 locs2 hv2 hH2 hS2) (fun h => absurd rfl h)
theorem zl_c1 (K : zLK p s m args c R B0 D cs xa b L xs) (hc : cells ≤ R.cells ∧ slots ≤ R.slots) (hl : lv_has ls 7 (zll B0 b a)) (ha : a + 5 < L) (hH : zHM B0 D cs σ H) (hS : va_S (zAA B0) s.heap H locs) (hv : zLv σ) (back : ∀ (σ2 : zH) (H2 : Heap) (locs2 : List Loc), zLv σ2 → zHM B0 D cs σ2 H2 → va_S (zAA B0) s.heap H2 locs2 → W p l e R s m args below meth c H2 locs2 cells slots Q (F0 m 623 ls [])) : W p l e R s m args below meth c H locs cells slots Q (F0 m 197 ls []) := by
  obtain ⟨C, ⟨hX, hbl, hsz, hL⟩, hR, hXS⟩ := id K
  obtain ⟨hx, hb, -⟩ := id C
  refine lv_aload_n hx hb d_law_197 rfl (lv_at hl 3 rfl) ?_
  refine zl_arg K hS (k := 1) (lv_at hl 4 rfl) (lv_at hl 0 rfl) rfl (by omega) d_law_198 d_law_199 d_law_201 d_law_202 d_law_203 ?_
  refine zl_V C hH hS hl.1 (M1 := 107) (r := 1) (as := [.int (xs (a + 1))]) (rest := []) (by omega) rfl zlk_29 rfl (zLv_1 hv) (show 2 ≤ zml 107 by decide) (show 0 ≤ 8 by omega) rfl d_law_204 (d := 60) ⟨by omega, by omega⟩ hc (zp_end hv) ?_
  intro r1 σ1 H1 locs1 hz hH1 hS1
  obtain ⟨v, rfl, k1, hz⟩ := hz
  refine lv_aload_n hx hb d_law_207 rfl (lv_at hl 2 rfl) ?_
  refine zl_arg K hS1 (k := 1) (lv_at hl 4 rfl) (lv_at hl 0 rfl) rfl (by omega) d_law_208 d_law_209 d_law_211 d_law_212 d_law_213 ?_
  refine zl_V C hH1 hS1 hl.1 (M1 := 130) (r := 160) (as := [.int (xs (a + 1))]) (rest := [.int v]) (by omega) rfl zlk_33 rfl k1 (show 2 ≤ zml 130 by decide) (show 1 ≤ 8 by omega) rfl d_law_214 (d := 60) ⟨by omega, by omega⟩ hc hz ?_
  intro r2 σ2 H2 locs2 hz2 hH2 hS2
  obtain ⟨rfl, hv2⟩ := hz2
  show W p l e R s m args below meth c H2 locs2 cells slots Q (F0 m 217 ls [.int v, .int v])
  exact lv_icmp_eq hx hb d_law_217 (tgt := 623) rfl (fun _ => back σ2 H2 locs2 hv2 hH2 hS2) (fun h => absurd rfl h)
theorem zl_c2 (K : zLK p s m args c R B0 D cs xa b L xs) (hc : cells ≤ R.cells ∧ slots ≤ R.slots) (hl : lv_has ls 7 (zll B0 b a)) (ha : a + 5 < L) (hH : zHM B0 D cs σ H) (hS : va_S (zAA B0) s.heap H locs) (hv : zLv σ) (back : ∀ (σ2 : zH) (H2 : Heap) (locs2 : List Loc), zLv σ2 → zHM B0 D cs σ2 H2 → va_S (zAA B0) s.heap H2 locs2 → W p l e R s m args below meth c H2 locs2 cells slots Q (F0 m 623 ls [])) : W p l e R s m args below meth c H locs cells slots Q (F0 m 222 ls []) := by
  obtain ⟨C, ⟨hX, hbl, hsz, hL⟩, hR, hXS⟩ := id K
  obtain ⟨hx, hb, -⟩ := id C
  refine lv_aload_n hx hb d_law_222 rfl (lv_at hl 3 rfl) ?_
  refine zl_arg K hS (k := 1) (lv_at hl 4 rfl) (lv_at hl 0 rfl) rfl (by omega) d_law_223 d_law_224 d_law_226 d_law_227 d_law_228 ?_
  refine zl_V C hH hS hl.1 (M1 := 108) (r := 1) (as := [.int (xs (a + 1))]) (rest := []) (by omega) rfl zlk_34 rfl (zLv_1 hv) (show 2 ≤ zml 108 by decide) (show 0 ≤ 8 by omega) rfl d_law_229 (d := 60) ⟨by omega, by omega⟩ hc (zp_cards hv) ?_
  intro r1 σ1 H1 locs1 hz hH1 hS1
  obtain ⟨v, rfl, k1, hz⟩ := hz
  refine lv_aload_n hx hb d_law_232 rfl (lv_at hl 2 rfl) ?_
  refine zl_arg K hS1 (k := 1) (lv_at hl 4 rfl) (lv_at hl 0 rfl) rfl (by omega) d_law_233 d_law_234 d_law_236 d_law_237 d_law_238 ?_
  refine zl_V C hH1 hS1 hl.1 (M1 := 133) (r := 160) (as := [.int (xs (a + 1))]) (rest := [.int v]) (by omega) rfl zlk_37 rfl k1 (show 2 ≤ zml 133 by decide) (show 1 ≤ 8 by omega) rfl d_law_239 (d := 60) ⟨by omega, by omega⟩ hc hz ?_
  intro r2 σ2 H2 locs2 hz2 hH2 hS2
  obtain ⟨rfl, hv2⟩ := hz2
  show W p l e R s m args below meth c H2 locs2 cells slots Q (F0 m 242 ls [.int v, .int v])
  exact lv_icmp_eq hx hb d_law_242 (tgt := 623) rfl (fun _ => back σ2 H2 locs2 hv2 hH2 hS2) (fun h => absurd rfl h)
theorem zl_c3 (K : zLK p s m args c R B0 D cs xa b L xs) (hc : cells ≤ R.cells ∧ slots ≤ R.slots) (hl : lv_has ls 7 (zll B0 b a)) (ha : a + 5 < L) (hH : zHM B0 D cs σ H) (hS : va_S (zAA B0) s.heap H locs) (hv : zLv σ) (back : ∀ (σ2 : zH) (H2 : Heap) (locs2 : List Loc), zLv σ2 → zHM B0 D cs σ2 H2 → va_S (zAA B0) s.heap H2 locs2 → W p l e R s m args below meth c H2 locs2 cells slots Q (F0 m 623 ls [])) : W p l e R s m args below meth c H locs cells slots Q (F0 m 247 ls []) := by
  obtain ⟨C, ⟨hX, hbl, hsz, hL⟩, hR, hXS⟩ := id K
  obtain ⟨hx, hb, -⟩ := id C
  refine lv_aload_n hx hb d_law_247 rfl (lv_at hl 3 rfl) ?_
  refine zl_arg K hS (k := 1) (lv_at hl 4 rfl) (lv_at hl 0 rfl) rfl (by omega) d_law_248 d_law_249 d_law_251 d_law_252 d_law_253 ?_
  refine zl_arg K hS (k := 2) (lv_at hl 4 rfl) (lv_at hl 0 rfl) rfl (by omega) d_law_254 d_law_255 d_law_257 d_law_258 d_law_259 ?_
  refine zl_arg K hS (k := 3) (lv_at hl 4 rfl) (lv_at hl 0 rfl) rfl (by omega) d_law_260 d_law_261 d_law_263 d_law_264 d_law_265 ?_
  refine zl_arg K hS (k := 4) (lv_at hl 4 rfl) (lv_at hl 0 rfl) rfl (by omega) d_law_266 d_law_267 d_law_269 d_law_270 d_law_271 ?_
  refine zl_V C hH hS hl.1 (M1 := 109) (r := 1) (as := [.int (xs (a + 1)), .int (xs (a + 2)), .int (xs (a + 3)), .int (xs (a + 4))]) (rest := []) (by omega) rfl zlk_38 rfl (zLv_1 hv) (show 5 ≤ zml 109 by decide) (show 0 ≤ 8 by omega) rfl d_law_272 (d := 60) ⟨by omega, by omega⟩ hc (zp_card hv) ?_
  intro r1 σ1 H1 locs1 hz hH1 hS1
  obtain ⟨v, rfl, k1, hz⟩ := hz
  refine lv_aload_n hx hb d_law_275 rfl (lv_at hl 2 rfl) ?_
  refine zl_arg K hS1 (k := 1) (lv_at hl 4 rfl) (lv_at hl 0 rfl) rfl (by omega) d_law_276 d_law_277 d_law_279 d_law_280 d_law_281 ?_
  refine zl_arg K hS1 (k := 2) (lv_at hl 4 rfl) (lv_at hl 0 rfl) rfl (by omega) d_law_282 d_law_283 d_law_285 d_law_286 d_law_287 ?_
  refine zl_arg K hS1 (k := 3) (lv_at hl 4 rfl) (lv_at hl 0 rfl) rfl (by omega) d_law_288 d_law_289 d_law_291 d_law_292 d_law_293 ?_
  refine zl_arg K hS1 (k := 4) (lv_at hl 4 rfl) (lv_at hl 0 rfl) rfl (by omega) d_law_294 d_law_295 d_law_297 d_law_298 d_law_299 ?_
  refine zl_V C hH1 hS1 hl.1 (M1 := 134) (r := 160) (as := [.int (xs (a + 1)), .int (xs (a + 2)), .int (xs (a + 3)), .int (xs (a + 4))]) (rest := [.int v]) (by omega) rfl zlk_42 rfl k1 (show 5 ≤ zml 134 by decide) (show 1 ≤ 8 by omega) rfl d_law_300 (d := 60) ⟨by omega, by omega⟩ hc hz ?_
  intro r2 σ2 H2 locs2 hz2 hH2 hS2
  obtain ⟨rfl, hv2⟩ := hz2
  show W p l e R s m args below meth c H2 locs2 cells slots Q (F0 m 303 ls [.int v, .int v])
  exact lv_icmp_eq hx hb d_law_303 (tgt := 623) rfl (fun _ => back σ2 H2 locs2 hv2 hH2 hS2) (fun h => absurd rfl h)
theorem zl_c4 (K : zLK p s m args c R B0 D cs xa b L xs) (hc : cells ≤ R.cells ∧ slots ≤ R.slots) (hl : lv_has ls 7 (zll B0 b a)) (ha : a + 5 < L) (hH : zHM B0 D cs σ H) (hS : va_S (zAA B0) s.heap H locs) (hv : zLv σ) (back : ∀ (σ2 : zH) (H2 : Heap) (locs2 : List Loc), zLv σ2 → zHM B0 D cs σ2 H2 → va_S (zAA B0) s.heap H2 locs2 → W p l e R s m args below meth c H2 locs2 cells slots Q (F0 m 623 ls [])) : W p l e R s m args below meth c H locs cells slots Q (F0 m 308 ls []) := by
  obtain ⟨C, ⟨hX, hbl, hsz, hL⟩, hR, hXS⟩ := id K
  obtain ⟨hx, hb, -⟩ := id C
  refine lv_aload_n hx hb d_law_308 rfl (lv_at hl 3 rfl) ?_
  refine zl_V C hH hS hl.1 (M1 := 110) (r := 1) (as := []) (rest := []) (by omega) rfl zlk_43 rfl (zLv_1 hv) (show 1 ≤ zml 110 by decide) (show 0 ≤ 8 by omega) rfl d_law_309 (d := 60) ⟨by omega, by omega⟩ hc (zp_start hv) ?_
  intro r1 σ1 H1 locs1 hz hH1 hS1
  obtain ⟨v, rfl, k1, hz⟩ := hz
  refine lv_aload_n hx hb d_law_312 rfl (lv_at hl 2 rfl) ?_
  refine zl_V C hH1 hS1 hl.1 (M1 := 135) (r := 160) (as := []) (rest := [.int v]) (by omega) rfl zlk_47 rfl k1 (show 1 ≤ zml 135 by decide) (show 1 ≤ 8 by omega) rfl d_law_313 (d := 60) ⟨by omega, by omega⟩ hc hz ?_
  intro r2 σ2 H2 locs2 hz2 hH2 hS2
  obtain ⟨rfl, hv2⟩ := hz2
  show W p l e R s m args below meth c H2 locs2 cells slots Q (F0 m 316 ls [.int v, .int v])
  exact lv_icmp_eq hx hb d_law_316 (tgt := 623) rfl (fun _ => back σ2 H2 locs2 hv2 hH2 hS2) (fun h => absurd rfl h)
theorem zl_c5 (K : zLK p s m args c R B0 D cs xa b L xs) (hc : cells ≤ R.cells ∧ slots ≤ R.slots) (hl : lv_has ls 7 (zll B0 b a)) (ha : a + 5 < L) (hH : zHM B0 D cs σ H) (hS : va_S (zAA B0) s.heap H locs) (hv : zLv σ) (back : ∀ (σ2 : zH) (H2 : Heap) (locs2 : List Loc), zLv σ2 → zHM B0 D cs σ2 H2 → va_S (zAA B0) s.heap H2 locs2 → W p l e R s m args below meth c H2 locs2 cells slots Q (F0 m 623 ls [])) : W p l e R s m args below meth c H locs cells slots Q (F0 m 321 ls []) := by
  obtain ⟨C, ⟨hX, hbl, hsz, hL⟩, hR, hXS⟩ := id K
  obtain ⟨hx, hb, -⟩ := id C
  refine lv_aload_n hx hb d_law_321 rfl (lv_at hl 3 rfl) ?_
  refine zl_V C hH hS hl.1 (M1 := 111) (r := 1) (as := []) (rest := []) (by omega) rfl zlk_48 rfl (zLv_1 hv) (show 1 ≤ zml 111 by decide) (show 0 ≤ 8 by omega) rfl d_law_322 (d := 60) ⟨by omega, by omega⟩ hc (zp_trick hv) ?_
  intro r1 σ1 H1 locs1 hz hH1 hS1
  obtain ⟨v, rfl, k1, hz⟩ := hz
  refine lv_aload_n hx hb d_law_325 rfl (lv_at hl 2 rfl) ?_
  refine zl_V C hH1 hS1 hl.1 (M1 := 152) (r := 160) (as := []) (rest := [.int v]) (by omega) rfl zlk_52 rfl k1 (show 1 ≤ zml 152 by decide) (show 1 ≤ 8 by omega) rfl d_law_326 (d := 60) ⟨by omega, by omega⟩ hc hz ?_
  intro r2 σ2 H2 locs2 hz2 hH2 hS2
  obtain ⟨rfl, hv2⟩ := hz2
  show W p l e R s m args below meth c H2 locs2 cells slots Q (F0 m 329 ls [.int v, .int v])
  exact lv_icmp_eq hx hb d_law_329 (tgt := 623) rfl (fun _ => back σ2 H2 locs2 hv2 hH2 hS2) (fun h => absurd rfl h)
theorem zl_c6 (K : zLK p s m args c R B0 D cs xa b L xs) (hc : cells ≤ R.cells ∧ slots ≤ R.slots) (hl : lv_has ls 7 (zll B0 b a)) (ha : a + 5 < L) (hH : zHM B0 D cs σ H) (hS : va_S (zAA B0) s.heap H locs) (hv : zLv σ) (back : ∀ (σ2 : zH) (H2 : Heap) (locs2 : List Loc), zLv σ2 → zHM B0 D cs σ2 H2 → va_S (zAA B0) s.heap H2 locs2 → W p l e R s m args below meth c H2 locs2 cells slots Q (F0 m 623 ls [])) : W p l e R s m args below meth c H locs cells slots Q (F0 m 334 ls []) := by
  obtain ⟨C, ⟨hX, hbl, hsz, hL⟩, hR, hXS⟩ := id K
  obtain ⟨hx, hb, -⟩ := id C
  refine lv_aload_n hx hb d_law_334 rfl (lv_at hl 3 rfl) ?_
  refine zl_V C hH hS hl.1 (M1 := 112) (r := 1) (as := []) (rest := []) (by omega) rfl zlk_53 rfl (zLv_1 hv) (show 1 ≤ zml 112 by decide) (show 0 ≤ 8 by omega) rfl d_law_335 (d := 60) ⟨by omega, by omega⟩ hc (zp_claim hv) ?_
  intro r1 σ1 H1 locs1 hz hH1 hS1
  obtain ⟨v, rfl, k1, hz⟩ := hz
  refine lv_aload_n hx hb d_law_338 rfl (lv_at hl 2 rfl) ?_
  refine zl_V C hH1 hS1 hl.1 (M1 := 167) (r := 160) (as := []) (rest := [.int v]) (by omega) rfl zlk_56 rfl k1 (show 1 ≤ zml 167 by decide) (show 1 ≤ 8 by omega) rfl d_law_339 (d := 60) ⟨by omega, by omega⟩ hc hz ?_
  intro r2 σ2 H2 locs2 hz2 hH2 hS2
  obtain ⟨rfl, hv2⟩ := hz2
  show W p l e R s m args below meth c H2 locs2 cells slots Q (F0 m 342 ls [.int v, .int v])
  exact lv_icmp_eq hx hb d_law_342 (tgt := 623) rfl (fun _ => back σ2 H2 locs2 hv2 hH2 hS2) (fun h => absurd rfl h)
theorem zl_c7 (K : zLK p s m args c R B0 D cs xa b L xs) (hc : cells ≤ R.cells ∧ slots ≤ R.slots) (hl : lv_has ls 7 (zll B0 b a)) (ha : a + 5 < L) (hH : zHM B0 D cs σ H) (hS : va_S (zAA B0) s.heap H locs) (hv : zLv σ) (back : ∀ (σ2 : zH) (H2 : Heap) (locs2 : List Loc), zLv σ2 → zHM B0 D cs σ2 H2 → va_S (zAA B0) s.heap H2 locs2 → W p l e R s m args below meth c H2 locs2 cells slots Q (F0 m 623 ls [])) : W p l e R s m args below meth c H locs cells slots Q (F0 m 347 ls []) := by
  obtain ⟨C, ⟨hX, hbl, hsz, hL⟩, hR, hXS⟩ := id K
  obtain ⟨hx, hb, -⟩ := id C
  refine lv_aload_n hx hb d_law_347 rfl (lv_at hl 3 rfl) ?_
  refine zl_V C hH hS hl.1 (M1 := 113) (r := 1) (as := []) (rest := []) (by omega) rfl zlk_57 rfl (zLv_1 hv) (show 1 ≤ zml 113 by decide) (show 0 ≤ 8 by omega) rfl d_law_348 (d := 60) ⟨by omega, by omega⟩ hc (zp_fault hv) ?_
  intro r1 σ1 H1 locs1 hz hH1 hS1
  obtain ⟨v, rfl, k1, hz⟩ := hz
  refine lv_aload_n hx hb d_law_351 rfl (lv_at hl 2 rfl) ?_
  refine zl_V C hH1 hS1 hl.1 (M1 := 168) (r := 160) (as := []) (rest := [.int v]) (by omega) rfl zlk_60 rfl k1 (show 1 ≤ zml 168 by decide) (show 1 ≤ 8 by omega) rfl d_law_352 (d := 60) ⟨by omega, by omega⟩ hc hz ?_
  intro r2 σ2 H2 locs2 hz2 hH2 hS2
  obtain ⟨rfl, hv2⟩ := hz2
  show W p l e R s m args below meth c H2 locs2 cells slots Q (F0 m 355 ls [.int v, .int v])
  exact lv_icmp_eq hx hb d_law_355 (tgt := 623) rfl (fun _ => back σ2 H2 locs2 hv2 hH2 hS2) (fun h => absurd rfl h)
theorem zl_c8 (K : zLK p s m args c R B0 D cs xa b L xs) (hc : cells ≤ R.cells ∧ slots ≤ R.slots) (hl : lv_has ls 7 (zll B0 b a)) (ha : a + 5 < L) (hH : zHM B0 D cs σ H) (hS : va_S (zAA B0) s.heap H locs) (hv : zLv σ) (back : ∀ (σ2 : zH) (H2 : Heap) (locs2 : List Loc), zLv σ2 → zHM B0 D cs σ2 H2 → va_S (zAA B0) s.heap H2 locs2 → W p l e R s m args below meth c H2 locs2 cells slots Q (F0 m 623 ls [])) : W p l e R s m args below meth c H locs cells slots Q (F0 m 360 ls []) := by
  obtain ⟨C, ⟨hX, hbl, hsz, hL⟩, hR, hXS⟩ := id K
  obtain ⟨hx, hb, -⟩ := id C
  refine lv_aload_n hx hb d_law_360 rfl (lv_at hl 3 rfl) ?_
  refine zl_V C hH hS hl.1 (M1 := 114) (r := 1) (as := []) (rest := []) (by omega) rfl zlk_61 rfl (zLv_1 hv) (show 1 ≤ zml 114 by decide) (show 0 ≤ 8 by omega) rfl d_law_361 (d := 60) ⟨by omega, by omega⟩ hc (zp_run hv) ?_
  intro r1 σ1 H1 locs1 hz hH1 hS1
  obtain ⟨v, rfl, k1, hz⟩ := hz
  refine lv_aload_n hx hb d_law_364 rfl (lv_at hl 2 rfl) ?_
  refine zl_V C hH1 hS1 hl.1 (M1 := 193) (r := 160) (as := []) (rest := [.int v]) (by omega) rfl zlk_64 rfl k1 (show 1 ≤ zml 193 by decide) (show 1 ≤ 8 by omega) rfl d_law_365 (d := 60) ⟨by omega, by omega⟩ hc hz ?_
  intro r2 σ2 H2 locs2 hz2 hH2 hS2
  obtain ⟨rfl, hv2⟩ := hz2
  show W p l e R s m args below meth c H2 locs2 cells slots Q (F0 m 368 ls [.int v, .int v])
  exact lv_icmp_eq hx hb d_law_368 (tgt := 623) rfl (fun _ => back σ2 H2 locs2 hv2 hH2 hS2) (fun h => absurd rfl h)
theorem zl_c9 (K : zLK p s m args c R B0 D cs xa b L xs) (hc : cells ≤ R.cells ∧ slots ≤ R.slots) (hl : lv_has ls 7 (zll B0 b a)) (ha : a + 5 < L) (hH : zHM B0 D cs σ H) (hS : va_S (zAA B0) s.heap H locs) (hv : zLv σ) (back : ∀ (σ2 : zH) (H2 : Heap) (locs2 : List Loc), zLv σ2 → zHM B0 D cs σ2 H2 → va_S (zAA B0) s.heap H2 locs2 → W p l e R s m args below meth c H2 locs2 cells slots Q (F0 m 623 ls [])) : W p l e R s m args below meth c H locs cells slots Q (F0 m 373 ls []) := by
  obtain ⟨C, ⟨hX, hbl, hsz, hL⟩, hR, hXS⟩ := id K
  obtain ⟨hx, hb, -⟩ := id C
  refine lv_aload_n hx hb d_law_373 rfl (lv_at hl 3 rfl) ?_
  refine zl_arg K hS (k := 1) (lv_at hl 4 rfl) (lv_at hl 0 rfl) rfl (by omega) d_law_374 d_law_375 d_law_377 d_law_378 d_law_379 ?_
  refine zl_V C hH hS hl.1 (M1 := 115) (r := 1) (as := [.int (xs (a + 1))]) (rest := []) (by omega) rfl zlk_65 rfl (zLv_1 hv) (show 2 ≤ zml 115 by decide) (show 0 ≤ 8 by omega) rfl d_law_380 (d := 60) ⟨by omega, by omega⟩ hc (zp_ends hv) ?_
  intro r1 σ1 H1 locs1 hz hH1 hS1
  obtain ⟨v, rfl, k1, hz⟩ := hz
  refine lv_aload_n hx hb d_law_383 rfl (lv_at hl 2 rfl) ?_
  refine zl_arg K hS1 (k := 1) (lv_at hl 4 rfl) (lv_at hl 0 rfl) rfl (by omega) d_law_384 d_law_385 d_law_387 d_law_388 d_law_389 ?_
  refine zl_V C hH1 hS1 hl.1 (M1 := 195) (r := 160) (as := [.int (xs (a + 1))]) (rest := [.int v]) (by omega) rfl zlk_68 rfl k1 (show 2 ≤ zml 195 by decide) (show 1 ≤ 8 by omega) rfl d_law_390 (d := 60) ⟨by omega, by omega⟩ hc hz ?_
  intro r2 σ2 H2 locs2 hz2 hH2 hS2
  obtain ⟨rfl, hv2⟩ := hz2
  show W p l e R s m args below meth c H2 locs2 cells slots Q (F0 m 393 ls [.int v, .int v])
  exact lv_icmp_eq hx hb d_law_393 (tgt := 623) rfl (fun _ => back σ2 H2 locs2 hv2 hH2 hS2) (fun h => absurd rfl h)
theorem zl_c10 (K : zLK p s m args c R B0 D cs xa b L xs) (hc : cells ≤ R.cells ∧ slots ≤ R.slots) (hl : lv_has ls 7 (zll B0 b a)) (ha : a + 5 < L) (hH : zHM B0 D cs σ H) (hS : va_S (zAA B0) s.heap H locs) (hv : zLv σ) (back : ∀ (σ2 : zH) (H2 : Heap) (locs2 : List Loc), zLv σ2 → zHM B0 D cs σ2 H2 → va_S (zAA B0) s.heap H2 locs2 → W p l e R s m args below meth c H2 locs2 cells slots Q (F0 m 623 ls [])) : W p l e R s m args below meth c H locs cells slots Q (F0 m 398 ls []) := by
  obtain ⟨C, ⟨hX, hbl, hsz, hL⟩, hR, hXS⟩ := id K
  obtain ⟨hx, hb, -⟩ := id C
  refine lv_aload_n hx hb d_law_398 rfl (lv_at hl 3 rfl) ?_
  refine zl_arg K hS (k := 1) (lv_at hl 4 rfl) (lv_at hl 0 rfl) rfl (by omega) d_law_399 d_law_400 d_law_402 d_law_403 d_law_404 ?_
  refine zl_V C hH hS hl.1 (M1 := 116) (r := 1) (as := [.int (xs (a + 1))]) (rest := []) (by omega) rfl zlk_69 rfl (zLv_1 hv) (show 2 ≤ zml 116 by decide) (show 0 ≤ 8 by omega) rfl d_law_405 (d := 60) ⟨by omega, by omega⟩ hc (zp_choice hv) ?_
  intro r1 σ1 H1 locs1 hz hH1 hS1
  obtain ⟨v, rfl, k1, hz⟩ := hz
  refine lv_aload_n hx hb d_law_408 rfl (lv_at hl 2 rfl) ?_
  refine zl_arg K hS1 (k := 1) (lv_at hl 4 rfl) (lv_at hl 0 rfl) rfl (by omega) d_law_409 d_law_410 d_law_412 d_law_413 d_law_414 ?_
  refine zl_V C hH1 hS1 hl.1 (M1 := 196) (r := 160) (as := [.int (xs (a + 1))]) (rest := [.int v]) (by omega) rfl zlk_72 rfl k1 (show 2 ≤ zml 196 by decide) (show 1 ≤ 8 by omega) rfl d_law_415 (d := 60) ⟨by omega, by omega⟩ hc hz ?_
  intro r2 σ2 H2 locs2 hz2 hH2 hS2
  obtain ⟨rfl, hv2⟩ := hz2
  show W p l e R s m args below meth c H2 locs2 cells slots Q (F0 m 418 ls [.int v, .int v])
  exact lv_icmp_eq hx hb d_law_418 (tgt := 623) rfl (fun _ => back σ2 H2 locs2 hv2 hH2 hS2) (fun h => absurd rfl h)
theorem zl_c11 (K : zLK p s m args c R B0 D cs xa b L xs) (hc : cells ≤ R.cells ∧ slots ≤ R.slots) (hl : lv_has ls 7 (zll B0 b a)) (ha : a + 5 < L) (hH : zHM B0 D cs σ H) (hS : va_S (zAA B0) s.heap H locs) (hv : zLv σ) (back : ∀ (σ2 : zH) (H2 : Heap) (locs2 : List Loc), zLv σ2 → zHM B0 D cs σ2 H2 → va_S (zAA B0) s.heap H2 locs2 → W p l e R s m args below meth c H2 locs2 cells slots Q (F0 m 623 ls [])) : W p l e R s m args below meth c H locs cells slots Q (F0 m 423 ls []) := by
  obtain ⟨C, ⟨hX, hbl, hsz, hL⟩, hR, hXS⟩ := id K
  obtain ⟨hx, hb, -⟩ := id C
  refine lv_aload_n hx hb d_law_423 rfl (lv_at hl 3 rfl) ?_
  refine zl_V C hH hS hl.1 (M1 := 117) (r := 1) (as := []) (rest := []) (by omega) rfl zlk_73 rfl (zLv_1 hv) (show 1 ≤ zml 117 by decide) (show 0 ≤ 8 by omega) rfl d_law_424 (d := 60) ⟨by omega, by omega⟩ hc (zp_perform hv) ?_
  intro r1 σ1 H1 locs1 hz hH1 hS1
  obtain ⟨v, rfl, k1, hz⟩ := hz
  refine lv_aload_n hx hb d_law_427 rfl (lv_at hl 2 rfl) ?_
  refine zl_V C hH1 hS1 hl.1 (M1 := 197) (r := 160) (as := []) (rest := [.int v]) (by omega) rfl zlk_76 rfl k1 (show 1 ≤ zml 197 by decide) (show 1 ≤ 8 by omega) rfl d_law_428 (d := 60) ⟨by omega, by omega⟩ hc hz ?_
  intro r2 σ2 H2 locs2 hz2 hH2 hS2
  obtain ⟨rfl, hv2⟩ := hz2
  show W p l e R s m args below meth c H2 locs2 cells slots Q (F0 m 431 ls [.int v, .int v])
  exact lv_icmp_eq hx hb d_law_431 (tgt := 623) rfl (fun _ => back σ2 H2 locs2 hv2 hH2 hS2) (fun h => absurd rfl h)
theorem zl_c12 (K : zLK p s m args c R B0 D cs xa b L xs) (hc : cells ≤ R.cells ∧ slots ≤ R.slots) (hl : lv_has ls 7 (zll B0 b a)) (ha : a + 5 < L) (hH : zHM B0 D cs σ H) (hS : va_S (zAA B0) s.heap H locs) (hv : zLv σ) (back : ∀ (σ2 : zH) (H2 : Heap) (locs2 : List Loc), zLv σ2 → zHM B0 D cs σ2 H2 → va_S (zAA B0) s.heap H2 locs2 → W p l e R s m args below meth c H2 locs2 cells slots Q (F0 m 623 ls [])) : W p l e R s m args below meth c H locs cells slots Q (F0 m 436 ls []) := by
  obtain ⟨C, ⟨hX, hbl, hsz, hL⟩, hR, hXS⟩ := id K
  obtain ⟨hx, hb, -⟩ := id C
  refine lv_aload_n hx hb d_law_436 rfl (lv_at hl 3 rfl) ?_
  refine zl_arg K hS (k := 1) (lv_at hl 4 rfl) (lv_at hl 0 rfl) rfl (by omega) d_law_437 d_law_438 d_law_440 d_law_441 d_law_442 ?_
  refine zl_arg K hS (k := 2) (lv_at hl 4 rfl) (lv_at hl 0 rfl) rfl (by omega) d_law_443 d_law_444 d_law_446 d_law_447 d_law_448 ?_
  refine zl_V C hH hS hl.1 (M1 := 118) (r := 1) (as := [.int (xs (a + 1)), .int (xs (a + 2))]) (rest := []) (by omega) rfl zlk_77 rfl (zLv_1 hv) (show 3 ≤ zml 118 by decide) (show 0 ≤ 8 by omega) rfl d_law_449 (d := 60) ⟨by omega, by omega⟩ hc (zp_look hv) ?_
  intro r1 σ1 H1 locs1 hz hH1 hS1
  obtain ⟨v, rfl, k1, hz⟩ := hz
  refine lv_aload_n hx hb d_law_452 rfl (lv_at hl 2 rfl) ?_
  refine zl_arg K hS1 (k := 1) (lv_at hl 4 rfl) (lv_at hl 0 rfl) rfl (by omega) d_law_453 d_law_454 d_law_456 d_law_457 d_law_458 ?_
  refine zl_arg K hS1 (k := 2) (lv_at hl 4 rfl) (lv_at hl 0 rfl) rfl (by omega) d_law_459 d_law_460 d_law_462 d_law_463 d_law_464 ?_
  refine zl_V C hH1 hS1 hl.1 (M1 := 199) (r := 160) (as := [.int (xs (a + 1)), .int (xs (a + 2))]) (rest := [.int v]) (by omega) rfl zlk_81 rfl k1 (show 3 ≤ zml 199 by decide) (show 1 ≤ 8 by omega) rfl d_law_465 (d := 60) ⟨by omega, by omega⟩ hc hz ?_
  intro r2 σ2 H2 locs2 hz2 hH2 hS2
  obtain ⟨rfl, hv2⟩ := hz2
  show W p l e R s m args below meth c H2 locs2 cells slots Q (F0 m 468 ls [.int v, .int v])
  exact lv_icmp_eq hx hb d_law_468 (tgt := 623) rfl (fun _ => back σ2 H2 locs2 hv2 hH2 hS2) (fun h => absurd rfl h)
theorem zl_c13 (K : zLK p s m args c R B0 D cs xa b L xs) (hc : cells ≤ R.cells ∧ slots ≤ R.slots) (hl : lv_has ls 7 (zll B0 b a)) (ha : a + 5 < L) (hH : zHM B0 D cs σ H) (hS : va_S (zAA B0) s.heap H locs) (hv : zLv σ) (back : ∀ (σ2 : zH) (H2 : Heap) (locs2 : List Loc), zLv σ2 → zHM B0 D cs σ2 H2 → va_S (zAA B0) s.heap H2 locs2 → W p l e R s m args below meth c H2 locs2 cells slots Q (F0 m 623 ls [])) : W p l e R s m args below meth c H locs cells slots Q (F0 m 473 ls []) := by
  obtain ⟨C, ⟨hX, hbl, hsz, hL⟩, hR, hXS⟩ := id K
  obtain ⟨hx, hb, -⟩ := id C
  refine lv_aload_n hx hb d_law_473 rfl (lv_at hl 3 rfl) ?_
  refine zl_V C hH hS hl.1 (M1 := 119) (r := 1) (as := []) (rest := []) (by omega) rfl zlk_82 rfl (zLv_1 hv) (show 1 ≤ zml 119 by decide) (show 0 ≤ 8 by omega) rfl d_law_474 (d := 60) ⟨by omega, by omega⟩ hc (zp_holds hv) ?_
  intro r1 σ1 H1 locs1 hz hH1 hS1
  obtain ⟨v, rfl, k1, hz⟩ := hz
  refine lv_aload_n hx hb d_law_477 rfl (lv_at hl 2 rfl) ?_
  refine zl_V C hH1 hS1 hl.1 (M1 := 200) (r := 160) (as := []) (rest := [.int v]) (by omega) rfl zlk_85 rfl k1 (show 1 ≤ zml 200 by decide) (show 1 ≤ 8 by omega) rfl d_law_478 (d := 60) ⟨by omega, by omega⟩ hc hz ?_
  intro r2 σ2 H2 locs2 hz2 hH2 hS2
  obtain ⟨rfl, hv2⟩ := hz2
  show W p l e R s m args below meth c H2 locs2 cells slots Q (F0 m 481 ls [.int v, .int v])
  exact lv_icmp_eq hx hb d_law_481 (tgt := 623) rfl (fun _ => back σ2 H2 locs2 hv2 hH2 hS2) (fun h => absurd rfl h)
theorem zl_c16 (K : zLK p s m args c R B0 D cs xa b L xs) (hc : cells ≤ R.cells ∧ slots ≤ R.slots) (hl : lv_has ls 7 (zll B0 b a)) (ha : a + 5 < L) (hH : zHM B0 D cs σ H) (hS : va_S (zAA B0) s.heap H locs) (hv : zLv σ) (back : ∀ (σ2 : zH) (H2 : Heap) (locs2 : List Loc), zLv σ2 → zHM B0 D cs σ2 H2 → va_S (zAA B0) s.heap H2 locs2 → W p l e R s m args below meth c H2 locs2 cells slots Q (F0 m 623 ls [])) : W p l e R s m args below meth c H locs cells slots Q (F0 m 598 ls []) := by
  obtain ⟨C, ⟨hX, hbl, hsz, hL⟩, hR, hXS⟩ := id K
  obtain ⟨hx, hb, -⟩ := id C
  refine lv_aload_n hx hb d_law_598 rfl (lv_at hl 3 rfl) ?_
  refine zl_arg K hS (k := 1) (lv_at hl 4 rfl) (lv_at hl 0 rfl) rfl (by omega) d_law_599 d_law_600 d_law_602 d_law_603 d_law_604 ?_
  refine zl_V C hH hS hl.1 (M1 := 122) (r := 1) (as := [.int (xs (a + 1))]) (rest := []) (by omega) rfl zlk_98 rfl (zLv_1 hv) (show 2 ≤ zml 122 by decide) (show 0 ≤ 8 by omega) rfl d_law_605 (d := 60) ⟨by omega, by omega⟩ hc (zp_count hv) ?_
  intro r1 σ1 H1 locs1 hz hH1 hS1
  obtain ⟨v, rfl, k1, hz⟩ := hz
  refine lv_aload_n hx hb d_law_608 rfl (lv_at hl 2 rfl) ?_
  refine zl_arg K hS1 (k := 1) (lv_at hl 4 rfl) (lv_at hl 0 rfl) rfl (by omega) d_law_609 d_law_610 d_law_612 d_law_613 d_law_614 ?_
  refine zl_V C hH1 hS1 hl.1 (M1 := 204) (r := 160) (as := [.int (xs (a + 1))]) (rest := [.int v]) (by omega) rfl zlk_101 rfl k1 (show 2 ≤ zml 204 by decide) (show 1 ≤ 8 by omega) rfl d_law_615 (d := 60) ⟨by omega, by omega⟩ hc hz ?_
  intro r2 σ2 H2 locs2 hz2 hH2 hS2
  obtain ⟨rfl, hv2⟩ := hz2
  show W p l e R s m args below meth c H2 locs2 cells slots Q (F0 m 618 ls [.int v, .int v])
  exact lv_icmp_eq hx hb d_law_618 (tgt := 623) rfl (fun _ => back σ2 H2 locs2 hv2 hH2 hS2) (fun h => absurd rfl h)
end ZLC
