/-! the law: its cases -/
section CS
variable {p : Program} {l : Launch} {e : Env} {s : State} {m : MethodId} {below : List Frame} {meth : Method} {c : Code} {b : Nat} {D : va_G} {cI cM : ClassId} {ax az : Nat} {a f : Nat → Nat} {cells slots : Nat} {Q : State → Prop} {ls : Array Slot}
theorem law_c_declareType {H : Heap} {locs : List Loc} {w : va_W} {L i : Nat} {xs : Nat → Int32} (hexec : p.tables.exec = Jvm.exec) (hb : c.code = cL_law) (SS : CallFix p m c cL_law 4 s #[Value.ref b] wsL_law RL) (hts : ∀ w ∈ wsL_law, w.before #[Value.ref b] s = true) (hK : KK D cI cM s) (hX : va_X b L xs s s.heap) (hbl : b < s.heap.size) (hL : L ≤ 2560) (hl : lv_has ls 4 [(0, .ref b), (1, .ref ax), (2, .ref az), (3, .int (nI i))]) (hi : i + 5 ≤ L) (I : SYS cI cM ax a az f w) (hP : va_P D vwCl w H) (hD : va_D (LA s) w) (hS : va_S (LA s) s.heap H locs) (hf : cells ≤ room_1.cells ∧ slots ≤ room_1.slots) (kk : ∀ (w1 : va_W) (H1 : Heap) (locs1 : List Loc), SYS cI cM ax a az f w1 → va_P D vwCl w1 H1 → va_D (LA s) w1 → va_S (LA s) s.heap H1 locs1 → W p l e room_1 s m #[Value.ref b] below meth c H1 locs1 cells slots Q (F0 m 786 ls [])) : W p l e room_1 s m #[Value.ref b] below meth c H locs cells slots Q (F0 m 144 ls []) := by
  refine lv_aload_n hexec hb dL_law_144 rfl (lv_at hl 1 rfl) ?_
  refine law_arg (k := 1) hexec hb hX hbl hS hL hl (by omega) (by decide) dL_law_145 dL_law_146 dL_law_147 dL_law_148 dL_law_149 ?_
  refine law_arg (k := 2) hexec hb hX hbl hS hL hl (by omega) (by decide) dL_law_150 dL_law_151 dL_law_152 dL_law_153 dL_law_154 ?_
  refine law_arg (k := 3) hexec hb hX hbl hS hL hl (by omega) (by decide) dL_law_155 dL_law_156 dL_law_157 dL_law_158 dL_law_159 ?_
  refine st_declareType (pc2 := 179) (xs (i + 1)) (xs (i + 2)) (xs (i + 3)) SS hts hK I hP hD hS hl.1 hf dL_law_160 dL_law_179 (fun r H1 locs1 hS W2 => ?_) (fun r w1 H1 locs1 I1 hP1 hD1 hS1 => ?_)
  · refine lv_aload_n hexec hb dL_law_163 rfl (lv_at hl 2 rfl) ?_
    refine law_arg (k := 1) hexec hb hX hbl hS hL hl (by omega) (by decide) dL_law_164 dL_law_165 dL_law_166 dL_law_167 dL_law_168 ?_
    refine law_arg (k := 2) hexec hb hX hbl hS hL hl (by omega) (by decide) dL_law_169 dL_law_170 dL_law_171 dL_law_172 dL_law_173 ?_
    refine law_arg (k := 3) hexec hb hX hbl hS hL hl (by omega) (by decide) dL_law_174 dL_law_175 dL_law_176 dL_law_177 dL_law_178 ?_
    exact W2
  · refine lv_icmp_eq (tgt := 786) hexec hb dL_law_182 (by decide) (fun _ => kk w1 H1 locs1 I1 hP1 hD1 hS1) (fun h => absurd rfl h)
theorem law_c_declareMethod {H : Heap} {locs : List Loc} {w : va_W} {L i : Nat} {xs : Nat → Int32} (hexec : p.tables.exec = Jvm.exec) (hb : c.code = cL_law) (SS : CallFix p m c cL_law 4 s #[Value.ref b] wsL_law RL) (hts : ∀ w ∈ wsL_law, w.before #[Value.ref b] s = true) (hK : KK D cI cM s) (hX : va_X b L xs s s.heap) (hbl : b < s.heap.size) (hL : L ≤ 2560) (hl : lv_has ls 4 [(0, .ref b), (1, .ref ax), (2, .ref az), (3, .int (nI i))]) (hi : i + 5 ≤ L) (I : SYS cI cM ax a az f w) (hP : va_P D vwCl w H) (hD : va_D (LA s) w) (hS : va_S (LA s) s.heap H locs) (hf : cells ≤ room_1.cells ∧ slots ≤ room_1.slots) (kk : ∀ (w1 : va_W) (H1 : Heap) (locs1 : List Loc), SYS cI cM ax a az f w1 → va_P D vwCl w1 H1 → va_D (LA s) w1 → va_S (LA s) s.heap H1 locs1 → W p l e room_1 s m #[Value.ref b] below meth c H1 locs1 cells slots Q (F0 m 786 ls [])) : W p l e room_1 s m #[Value.ref b] below meth c H locs cells slots Q (F0 m 187 ls []) := by
  refine lv_aload_n hexec hb dL_law_187 rfl (lv_at hl 1 rfl) ?_
  refine law_arg (k := 1) hexec hb hX hbl hS hL hl (by omega) (by decide) dL_law_188 dL_law_189 dL_law_190 dL_law_191 dL_law_192 ?_
  refine law_arg (k := 2) hexec hb hX hbl hS hL hl (by omega) (by decide) dL_law_193 dL_law_194 dL_law_195 dL_law_196 dL_law_197 ?_
  refine law_arg (k := 3) hexec hb hX hbl hS hL hl (by omega) (by decide) dL_law_198 dL_law_199 dL_law_200 dL_law_201 dL_law_202 ?_
  refine st_declareMethod (pc2 := 222) (xs (i + 1)) (xs (i + 2)) (xs (i + 3)) SS hts hK I hP hD hS hl.1 hf dL_law_203 dL_law_222 (fun r H1 locs1 hS W2 => ?_) (fun r w1 H1 locs1 I1 hP1 hD1 hS1 => ?_)
  · refine lv_aload_n hexec hb dL_law_206 rfl (lv_at hl 2 rfl) ?_
    refine law_arg (k := 1) hexec hb hX hbl hS hL hl (by omega) (by decide) dL_law_207 dL_law_208 dL_law_209 dL_law_210 dL_law_211 ?_
    refine law_arg (k := 2) hexec hb hX hbl hS hL hl (by omega) (by decide) dL_law_212 dL_law_213 dL_law_214 dL_law_215 dL_law_216 ?_
    refine law_arg (k := 3) hexec hb hX hbl hS hL hl (by omega) (by decide) dL_law_217 dL_law_218 dL_law_219 dL_law_220 dL_law_221 ?_
    exact W2
  · refine lv_icmp_eq (tgt := 786) hexec hb dL_law_225 (by decide) (fun _ => kk w1 H1 locs1 I1 hP1 hD1 hS1) (fun h => absurd rfl h)
theorem law_c_declareCall {H : Heap} {locs : List Loc} {w : va_W} {L i : Nat} {xs : Nat → Int32} (hexec : p.tables.exec = Jvm.exec) (hb : c.code = cL_law) (SS : CallFix p m c cL_law 4 s #[Value.ref b] wsL_law RL) (hts : ∀ w ∈ wsL_law, w.before #[Value.ref b] s = true) (hK : KK D cI cM s) (hX : va_X b L xs s s.heap) (hbl : b < s.heap.size) (hL : L ≤ 2560) (hl : lv_has ls 4 [(0, .ref b), (1, .ref ax), (2, .ref az), (3, .int (nI i))]) (hi : i + 5 ≤ L) (I : SYS cI cM ax a az f w) (hP : va_P D vwCl w H) (hD : va_D (LA s) w) (hS : va_S (LA s) s.heap H locs) (hf : cells ≤ room_1.cells ∧ slots ≤ room_1.slots) (kk : ∀ (w1 : va_W) (H1 : Heap) (locs1 : List Loc), SYS cI cM ax a az f w1 → va_P D vwCl w1 H1 → va_D (LA s) w1 → va_S (LA s) s.heap H1 locs1 → W p l e room_1 s m #[Value.ref b] below meth c H1 locs1 cells slots Q (F0 m 786 ls [])) : W p l e room_1 s m #[Value.ref b] below meth c H locs cells slots Q (F0 m 230 ls []) := by
  refine lv_aload_n hexec hb dL_law_230 rfl (lv_at hl 1 rfl) ?_
  refine law_arg (k := 1) hexec hb hX hbl hS hL hl (by omega) (by decide) dL_law_231 dL_law_232 dL_law_233 dL_law_234 dL_law_235 ?_
  refine law_arg (k := 2) hexec hb hX hbl hS hL hl (by omega) (by decide) dL_law_236 dL_law_237 dL_law_238 dL_law_239 dL_law_240 ?_
  refine law_arg (k := 3) hexec hb hX hbl hS hL hl (by omega) (by decide) dL_law_241 dL_law_242 dL_law_243 dL_law_244 dL_law_245 ?_
  refine law_arg (k := 4) hexec hb hX hbl hS hL hl (by omega) (by decide) dL_law_246 dL_law_247 dL_law_248 dL_law_249 dL_law_250 ?_
  refine st_declareCall (pc2 := 275) (xs (i + 1)) (xs (i + 2)) (xs (i + 3)) (xs (i + 4)) SS hts hK I hP hD hS hl.1 hf dL_law_251 dL_law_275 (fun r H1 locs1 hS W2 => ?_) (fun r w1 H1 locs1 I1 hP1 hD1 hS1 => ?_)
  · refine lv_aload_n hexec hb dL_law_254 rfl (lv_at hl 2 rfl) ?_
    refine law_arg (k := 1) hexec hb hX hbl hS hL hl (by omega) (by decide) dL_law_255 dL_law_256 dL_law_257 dL_law_258 dL_law_259 ?_
    refine law_arg (k := 2) hexec hb hX hbl hS hL hl (by omega) (by decide) dL_law_260 dL_law_261 dL_law_262 dL_law_263 dL_law_264 ?_
    refine law_arg (k := 3) hexec hb hX hbl hS hL hl (by omega) (by decide) dL_law_265 dL_law_266 dL_law_267 dL_law_268 dL_law_269 ?_
    refine law_arg (k := 4) hexec hb hX hbl hS hL hl (by omega) (by decide) dL_law_270 dL_law_271 dL_law_272 dL_law_273 dL_law_274 ?_
    exact W2
  · refine lv_icmp_eq (tgt := 786) hexec hb dL_law_278 (by decide) (fun _ => kk w1 H1 locs1 I1 hP1 hD1 hS1) (fun h => absurd rfl h)
theorem law_c_setArgument {H : Heap} {locs : List Loc} {w : va_W} {L i : Nat} {xs : Nat → Int32} (hexec : p.tables.exec = Jvm.exec) (hb : c.code = cL_law) (SS : CallFix p m c cL_law 4 s #[Value.ref b] wsL_law RL) (hts : ∀ w ∈ wsL_law, w.before #[Value.ref b] s = true) (hK : KK D cI cM s) (hX : va_X b L xs s s.heap) (hbl : b < s.heap.size) (hL : L ≤ 2560) (hl : lv_has ls 4 [(0, .ref b), (1, .ref ax), (2, .ref az), (3, .int (nI i))]) (hi : i + 5 ≤ L) (I : SYS cI cM ax a az f w) (hP : va_P D vwCl w H) (hD : va_D (LA s) w) (hS : va_S (LA s) s.heap H locs) (hf : cells ≤ room_1.cells ∧ slots ≤ room_1.slots) (kk : ∀ (w1 : va_W) (H1 : Heap) (locs1 : List Loc), SYS cI cM ax a az f w1 → va_P D vwCl w1 H1 → va_D (LA s) w1 → va_S (LA s) s.heap H1 locs1 → W p l e room_1 s m #[Value.ref b] below meth c H1 locs1 cells slots Q (F0 m 786 ls [])) : W p l e room_1 s m #[Value.ref b] below meth c H locs cells slots Q (F0 m 283 ls []) := by
  refine lv_aload_n hexec hb dL_law_283 rfl (lv_at hl 1 rfl) ?_
  refine law_arg (k := 1) hexec hb hX hbl hS hL hl (by omega) (by decide) dL_law_284 dL_law_285 dL_law_286 dL_law_287 dL_law_288 ?_
  refine law_arg (k := 2) hexec hb hX hbl hS hL hl (by omega) (by decide) dL_law_289 dL_law_290 dL_law_291 dL_law_292 dL_law_293 ?_
  refine law_arg (k := 3) hexec hb hX hbl hS hL hl (by omega) (by decide) dL_law_294 dL_law_295 dL_law_296 dL_law_297 dL_law_298 ?_
  refine law_arg (k := 4) hexec hb hX hbl hS hL hl (by omega) (by decide) dL_law_299 dL_law_300 dL_law_301 dL_law_302 dL_law_303 ?_
  refine st_setArgument (pc2 := 328) (xs (i + 1)) (xs (i + 2)) (xs (i + 3)) (xs (i + 4)) SS hts hK I hP hD hS hl.1 hf dL_law_304 dL_law_328 (fun r H1 locs1 hS W2 => ?_) (fun r w1 H1 locs1 I1 hP1 hD1 hS1 => ?_)
  · refine lv_aload_n hexec hb dL_law_307 rfl (lv_at hl 2 rfl) ?_
    refine law_arg (k := 1) hexec hb hX hbl hS hL hl (by omega) (by decide) dL_law_308 dL_law_309 dL_law_310 dL_law_311 dL_law_312 ?_
    refine law_arg (k := 2) hexec hb hX hbl hS hL hl (by omega) (by decide) dL_law_313 dL_law_314 dL_law_315 dL_law_316 dL_law_317 ?_
    refine law_arg (k := 3) hexec hb hX hbl hS hL hl (by omega) (by decide) dL_law_318 dL_law_319 dL_law_320 dL_law_321 dL_law_322 ?_
    refine law_arg (k := 4) hexec hb hX hbl hS hL hl (by omega) (by decide) dL_law_323 dL_law_324 dL_law_325 dL_law_326 dL_law_327 ?_
    exact W2
  · refine lv_icmp_eq (tgt := 786) hexec hb dL_law_331 (by decide) (fun _ => kk w1 H1 locs1 I1 hP1 hD1 hS1) (fun h => absurd rfl h)
theorem law_c_setFrozen {H : Heap} {locs : List Loc} {w : va_W} {L i : Nat} {xs : Nat → Int32} (hexec : p.tables.exec = Jvm.exec) (hb : c.code = cL_law) (SS : CallFix p m c cL_law 4 s #[Value.ref b] wsL_law RL) (hts : ∀ w ∈ wsL_law, w.before #[Value.ref b] s = true) (hK : KK D cI cM s) (hX : va_X b L xs s s.heap) (hbl : b < s.heap.size) (hL : L ≤ 2560) (hl : lv_has ls 4 [(0, .ref b), (1, .ref ax), (2, .ref az), (3, .int (nI i))]) (hi : i + 5 ≤ L) (I : SYS cI cM ax a az f w) (hP : va_P D vwCl w H) (hD : va_D (LA s) w) (hS : va_S (LA s) s.heap H locs) (hf : cells ≤ room_1.cells ∧ slots ≤ room_1.slots) (kk : ∀ (w1 : va_W) (H1 : Heap) (locs1 : List Loc), SYS cI cM ax a az f w1 → va_P D vwCl w1 H1 → va_D (LA s) w1 → va_S (LA s) s.heap H1 locs1 → W p l e room_1 s m #[Value.ref b] below meth c H1 locs1 cells slots Q (F0 m 786 ls [])) : W p l e room_1 s m #[Value.ref b] below meth c H locs cells slots Q (F0 m 336 ls []) := by
  refine lv_aload_n hexec hb dL_law_336 rfl (lv_at hl 1 rfl) ?_
  refine law_arg (k := 1) hexec hb hX hbl hS hL hl (by omega) (by decide) dL_law_337 dL_law_338 dL_law_339 dL_law_340 dL_law_341 ?_
  refine law_arg (k := 2) hexec hb hX hbl hS hL hl (by omega) (by decide) dL_law_342 dL_law_343 dL_law_344 dL_law_345 dL_law_346 ?_
  refine st_setFrozen (pc2 := 361) (xs (i + 1)) (xs (i + 2)) SS hts hK I hP hD hS hl.1 hf dL_law_347 dL_law_361 (fun r H1 locs1 hS W2 => ?_) (fun r w1 H1 locs1 I1 hP1 hD1 hS1 => ?_)
  · refine lv_aload_n hexec hb dL_law_350 rfl (lv_at hl 2 rfl) ?_
    refine law_arg (k := 1) hexec hb hX hbl hS hL hl (by omega) (by decide) dL_law_351 dL_law_352 dL_law_353 dL_law_354 dL_law_355 ?_
    refine law_arg (k := 2) hexec hb hX hbl hS hL hl (by omega) (by decide) dL_law_356 dL_law_357 dL_law_358 dL_law_359 dL_law_360 ?_
    exact W2
  · refine lv_icmp_eq (tgt := 786) hexec hb dL_law_364 (by decide) (fun _ => kk w1 H1 locs1 I1 hP1 hD1 hS1) (fun h => absurd rfl h)
theorem law_c_typeCount {H : Heap} {locs : List Loc} {w : va_W} {L i : Nat} {xs : Nat → Int32} (hexec : p.tables.exec = Jvm.exec) (hb : c.code = cL_law) (SS : CallFix p m c cL_law 4 s #[Value.ref b] wsL_law RL) (hts : ∀ w ∈ wsL_law, w.before #[Value.ref b] s = true) (hK : KK D cI cM s) (hX : va_X b L xs s s.heap) (hbl : b < s.heap.size) (hL : L ≤ 2560) (hl : lv_has ls 4 [(0, .ref b), (1, .ref ax), (2, .ref az), (3, .int (nI i))]) (hi : i + 5 ≤ L) (I : SYS cI cM ax a az f w) (hP : va_P D vwCl w H) (hD : va_D (LA s) w) (hS : va_S (LA s) s.heap H locs) (hf : cells ≤ room_1.cells ∧ slots ≤ room_1.slots) (kk : ∀ (w1 : va_W) (H1 : Heap) (locs1 : List Loc), SYS cI cM ax a az f w1 → va_P D vwCl w1 H1 → va_D (LA s) w1 → va_S (LA s) s.heap H1 locs1 → W p l e room_1 s m #[Value.ref b] below meth c H1 locs1 cells slots Q (F0 m 786 ls [])) : W p l e room_1 s m #[Value.ref b] below meth c H locs cells slots Q (F0 m 369 ls []) := by
  refine lv_aload_n hexec hb dL_law_369 rfl (lv_at hl 1 rfl) ?_
  refine st_typeCount (pc2 := 374) SS hts hK I hP hD hS hl.1 hf dL_law_370 dL_law_374 (fun r H1 locs1 hS W2 => ?_) (fun r w1 H1 locs1 I1 hP1 hD1 hS1 => ?_)
  · refine lv_aload_n hexec hb dL_law_373 rfl (lv_at hl 2 rfl) ?_
    exact W2
  · refine lv_icmp_eq (tgt := 786) hexec hb dL_law_377 (by decide) (fun _ => kk w1 H1 locs1 I1 hP1 hD1 hS1) (fun h => absurd rfl h)
theorem law_c_isSubtype {H : Heap} {locs : List Loc} {w : va_W} {L i : Nat} {xs : Nat → Int32} (hexec : p.tables.exec = Jvm.exec) (hb : c.code = cL_law) (SS : CallFix p m c cL_law 4 s #[Value.ref b] wsL_law RL) (hts : ∀ w ∈ wsL_law, w.before #[Value.ref b] s = true) (hK : KK D cI cM s) (hX : va_X b L xs s s.heap) (hbl : b < s.heap.size) (hL : L ≤ 2560) (hl : lv_has ls 4 [(0, .ref b), (1, .ref ax), (2, .ref az), (3, .int (nI i))]) (hi : i + 5 ≤ L) (I : SYS cI cM ax a az f w) (hP : va_P D vwCl w H) (hD : va_D (LA s) w) (hS : va_S (LA s) s.heap H locs) (hf : cells ≤ room_1.cells ∧ slots ≤ room_1.slots) (kk : ∀ (w1 : va_W) (H1 : Heap) (locs1 : List Loc), SYS cI cM ax a az f w1 → va_P D vwCl w1 H1 → va_D (LA s) w1 → va_S (LA s) s.heap H1 locs1 → W p l e room_1 s m #[Value.ref b] below meth c H1 locs1 cells slots Q (F0 m 786 ls [])) : W p l e room_1 s m #[Value.ref b] below meth c H locs cells slots Q (F0 m 382 ls []) := by
  refine lv_aload_n hexec hb dL_law_382 rfl (lv_at hl 1 rfl) ?_
  refine law_arg (k := 1) hexec hb hX hbl hS hL hl (by omega) (by decide) dL_law_383 dL_law_384 dL_law_385 dL_law_386 dL_law_387 ?_
  refine law_arg (k := 2) hexec hb hX hbl hS hL hl (by omega) (by decide) dL_law_388 dL_law_389 dL_law_390 dL_law_391 dL_law_392 ?_
  refine st_isSubtype (pc2 := 407) (xs (i + 1)) (xs (i + 2)) SS hts hK I hP hD hS hl.1 hf dL_law_393 dL_law_407 (fun r H1 locs1 hS W2 => ?_) (fun r w1 H1 locs1 I1 hP1 hD1 hS1 => ?_)
  · refine lv_aload_n hexec hb dL_law_396 rfl (lv_at hl 2 rfl) ?_
    refine law_arg (k := 1) hexec hb hX hbl hS hL hl (by omega) (by decide) dL_law_397 dL_law_398 dL_law_399 dL_law_400 dL_law_401 ?_
    refine law_arg (k := 2) hexec hb hX hbl hS hL hl (by omega) (by decide) dL_law_402 dL_law_403 dL_law_404 dL_law_405 dL_law_406 ?_
    exact W2
  · refine lv_icmp_eq (tgt := 786) hexec hb dL_law_410 (by decide) (fun _ => kk w1 H1 locs1 I1 hP1 hD1 hS1) (fun h => absurd rfl h)
theorem law_c_family {H : Heap} {locs : List Loc} {w : va_W} {L i : Nat} {xs : Nat → Int32} (hexec : p.tables.exec = Jvm.exec) (hb : c.code = cL_law) (SS : CallFix p m c cL_law 4 s #[Value.ref b] wsL_law RL) (hts : ∀ w ∈ wsL_law, w.before #[Value.ref b] s = true) (hK : KK D cI cM s) (hX : va_X b L xs s s.heap) (hbl : b < s.heap.size) (hL : L ≤ 2560) (hl : lv_has ls 4 [(0, .ref b), (1, .ref ax), (2, .ref az), (3, .int (nI i))]) (hi : i + 5 ≤ L) (I : SYS cI cM ax a az f w) (hP : va_P D vwCl w H) (hD : va_D (LA s) w) (hS : va_S (LA s) s.heap H locs) (hf : cells ≤ room_1.cells ∧ slots ≤ room_1.slots) (kk : ∀ (w1 : va_W) (H1 : Heap) (locs1 : List Loc), SYS cI cM ax a az f w1 → va_P D vwCl w1 H1 → va_D (LA s) w1 → va_S (LA s) s.heap H1 locs1 → W p l e room_1 s m #[Value.ref b] below meth c H1 locs1 cells slots Q (F0 m 786 ls [])) : W p l e room_1 s m #[Value.ref b] below meth c H locs cells slots Q (F0 m 415 ls []) := by
  refine lv_aload_n hexec hb dL_law_415 rfl (lv_at hl 1 rfl) ?_
  refine law_arg (k := 1) hexec hb hX hbl hS hL hl (by omega) (by decide) dL_law_416 dL_law_417 dL_law_418 dL_law_419 dL_law_420 ?_
  refine st_family (pc2 := 430) (xs (i + 1)) SS hts hK I hP hD hS hl.1 hf dL_law_421 dL_law_430 (fun r H1 locs1 hS W2 => ?_) (fun r w1 H1 locs1 I1 hP1 hD1 hS1 => ?_)
  · refine lv_aload_n hexec hb dL_law_424 rfl (lv_at hl 2 rfl) ?_
    refine law_arg (k := 1) hexec hb hX hbl hS hL hl (by omega) (by decide) dL_law_425 dL_law_426 dL_law_427 dL_law_428 dL_law_429 ?_
    exact W2
  · refine lv_icmp_eq (tgt := 786) hexec hb dL_law_433 (by decide) (fun _ => kk w1 H1 locs1 I1 hP1 hD1 hS1) (fun h => absurd rfl h)
theorem law_c_parameterCount {H : Heap} {locs : List Loc} {w : va_W} {L i : Nat} {xs : Nat → Int32} (hexec : p.tables.exec = Jvm.exec) (hb : c.code = cL_law) (SS : CallFix p m c cL_law 4 s #[Value.ref b] wsL_law RL) (hts : ∀ w ∈ wsL_law, w.before #[Value.ref b] s = true) (hK : KK D cI cM s) (hX : va_X b L xs s s.heap) (hbl : b < s.heap.size) (hL : L ≤ 2560) (hl : lv_has ls 4 [(0, .ref b), (1, .ref ax), (2, .ref az), (3, .int (nI i))]) (hi : i + 5 ≤ L) (I : SYS cI cM ax a az f w) (hP : va_P D vwCl w H) (hD : va_D (LA s) w) (hS : va_S (LA s) s.heap H locs) (hf : cells ≤ room_1.cells ∧ slots ≤ room_1.slots) (kk : ∀ (w1 : va_W) (H1 : Heap) (locs1 : List Loc), SYS cI cM ax a az f w1 → va_P D vwCl w1 H1 → va_D (LA s) w1 → va_S (LA s) s.heap H1 locs1 → W p l e room_1 s m #[Value.ref b] below meth c H1 locs1 cells slots Q (F0 m 786 ls [])) : W p l e room_1 s m #[Value.ref b] below meth c H locs cells slots Q (F0 m 438 ls []) := by
  refine lv_aload_n hexec hb dL_law_438 rfl (lv_at hl 1 rfl) ?_
  refine law_arg (k := 1) hexec hb hX hbl hS hL hl (by omega) (by decide) dL_law_439 dL_law_440 dL_law_441 dL_law_442 dL_law_443 ?_
  refine st_parameterCount (pc2 := 453) (xs (i + 1)) SS hts hK I hP hD hS hl.1 hf dL_law_444 dL_law_453 (fun r H1 locs1 hS W2 => ?_) (fun r w1 H1 locs1 I1 hP1 hD1 hS1 => ?_)
  · refine lv_aload_n hexec hb dL_law_447 rfl (lv_at hl 2 rfl) ?_
    refine law_arg (k := 1) hexec hb hX hbl hS hL hl (by omega) (by decide) dL_law_448 dL_law_449 dL_law_450 dL_law_451 dL_law_452 ?_
    exact W2
  · refine lv_icmp_eq (tgt := 786) hexec hb dL_law_456 (by decide) (fun _ => kk w1 H1 locs1 I1 hP1 hD1 hS1) (fun h => absurd rfl h)
theorem law_c_parameterKey {H : Heap} {locs : List Loc} {w : va_W} {L i : Nat} {xs : Nat → Int32} (hexec : p.tables.exec = Jvm.exec) (hb : c.code = cL_law) (SS : CallFix p m c cL_law 4 s #[Value.ref b] wsL_law RL) (hts : ∀ w ∈ wsL_law, w.before #[Value.ref b] s = true) (hK : KK D cI cM s) (hX : va_X b L xs s s.heap) (hbl : b < s.heap.size) (hL : L ≤ 2560) (hl : lv_has ls 4 [(0, .ref b), (1, .ref ax), (2, .ref az), (3, .int (nI i))]) (hi : i + 5 ≤ L) (I : SYS cI cM ax a az f w) (hP : va_P D vwCl w H) (hD : va_D (LA s) w) (hS : va_S (LA s) s.heap H locs) (hf : cells ≤ room_1.cells ∧ slots ≤ room_1.slots) (kk : ∀ (w1 : va_W) (H1 : Heap) (locs1 : List Loc), SYS cI cM ax a az f w1 → va_P D vwCl w1 H1 → va_D (LA s) w1 → va_S (LA s) s.heap H1 locs1 → W p l e room_1 s m #[Value.ref b] below meth c H1 locs1 cells slots Q (F0 m 786 ls [])) : W p l e room_1 s m #[Value.ref b] below meth c H locs cells slots Q (F0 m 461 ls []) := by
  refine lv_aload_n hexec hb dL_law_461 rfl (lv_at hl 1 rfl) ?_
  refine law_arg (k := 1) hexec hb hX hbl hS hL hl (by omega) (by decide) dL_law_462 dL_law_463 dL_law_464 dL_law_465 dL_law_466 ?_
  refine law_arg (k := 2) hexec hb hX hbl hS hL hl (by omega) (by decide) dL_law_467 dL_law_468 dL_law_469 dL_law_470 dL_law_471 ?_
  refine st_parameterKey (pc2 := 486) (xs (i + 1)) (xs (i + 2)) SS hts hK I hP hD hS hl.1 hf dL_law_472 dL_law_486 (fun r H1 locs1 hS W2 => ?_) (fun r w1 H1 locs1 I1 hP1 hD1 hS1 => ?_)
  · refine lv_aload_n hexec hb dL_law_475 rfl (lv_at hl 2 rfl) ?_
    refine law_arg (k := 1) hexec hb hX hbl hS hL hl (by omega) (by decide) dL_law_476 dL_law_477 dL_law_478 dL_law_479 dL_law_480 ?_
    refine law_arg (k := 2) hexec hb hX hbl hS hL hl (by omega) (by decide) dL_law_481 dL_law_482 dL_law_483 dL_law_484 dL_law_485 ?_
    exact W2
  · refine lv_icmp_eq (tgt := 786) hexec hb dL_law_489 (by decide) (fun _ => kk w1 H1 locs1 I1 hP1 hD1 hS1) (fun h => absurd rfl h)
theorem law_c_dispatch {H : Heap} {locs : List Loc} {w : va_W} {L i : Nat} {xs : Nat → Int32} (hexec : p.tables.exec = Jvm.exec) (hb : c.code = cL_law) (SS : CallFix p m c cL_law 4 s #[Value.ref b] wsL_law RL) (hts : ∀ w ∈ wsL_law, w.before #[Value.ref b] s = true) (hK : KK D cI cM s) (hX : va_X b L xs s s.heap) (hbl : b < s.heap.size) (hL : L ≤ 2560) (hl : lv_has ls 4 [(0, .ref b), (1, .ref ax), (2, .ref az), (3, .int (nI i))]) (hi : i + 5 ≤ L) (I : SYS cI cM ax a az f w) (hP : va_P D vwCl w H) (hD : va_D (LA s) w) (hS : va_S (LA s) s.heap H locs) (hf : cells ≤ room_1.cells ∧ slots ≤ room_1.slots) (kk : ∀ (w1 : va_W) (H1 : Heap) (locs1 : List Loc), SYS cI cM ax a az f w1 → va_P D vwCl w1 H1 → va_D (LA s) w1 → va_S (LA s) s.heap H1 locs1 → W p l e room_1 s m #[Value.ref b] below meth c H1 locs1 cells slots Q (F0 m 786 ls [])) : W p l e room_1 s m #[Value.ref b] below meth c H locs cells slots Q (F0 m 494 ls []) := by
  refine lv_aload_n hexec hb dL_law_494 rfl (lv_at hl 1 rfl) ?_
  refine law_arg (k := 1) hexec hb hX hbl hS hL hl (by omega) (by decide) dL_law_495 dL_law_496 dL_law_497 dL_law_498 dL_law_499 ?_
  refine st_dispatch (pc2 := 509) (xs (i + 1)) SS hts hK I hP hD hS hl.1 hf dL_law_500 dL_law_509 (fun r H1 locs1 hS W2 => ?_) (fun r w1 H1 locs1 I1 hP1 hD1 hS1 => ?_)
  · refine lv_aload_n hexec hb dL_law_503 rfl (lv_at hl 2 rfl) ?_
    refine law_arg (k := 1) hexec hb hX hbl hS hL hl (by omega) (by decide) dL_law_504 dL_law_505 dL_law_506 dL_law_507 dL_law_508 ?_
    exact W2
  · refine lv_icmp_eq (tgt := 786) hexec hb dL_law_512 (by decide) (fun _ => kk w1 H1 locs1 I1 hP1 hD1 hS1) (fun h => absurd rfl h)
theorem law_c_run {H : Heap} {locs : List Loc} {w : va_W} {L i : Nat} {xs : Nat → Int32} (hexec : p.tables.exec = Jvm.exec) (hb : c.code = cL_law) (SS : CallFix p m c cL_law 4 s #[Value.ref b] wsL_law RL) (hts : ∀ w ∈ wsL_law, w.before #[Value.ref b] s = true) (hK : KK D cI cM s) (hX : va_X b L xs s s.heap) (hbl : b < s.heap.size) (hL : L ≤ 2560) (hl : lv_has ls 4 [(0, .ref b), (1, .ref ax), (2, .ref az), (3, .int (nI i))]) (hi : i + 5 ≤ L) (I : SYS cI cM ax a az f w) (hP : va_P D vwCl w H) (hD : va_D (LA s) w) (hS : va_S (LA s) s.heap H locs) (hf : cells ≤ room_1.cells ∧ slots ≤ room_1.slots) (kk : ∀ (w1 : va_W) (H1 : Heap) (locs1 : List Loc), SYS cI cM ax a az f w1 → va_P D vwCl w1 H1 → va_D (LA s) w1 → va_S (LA s) s.heap H1 locs1 → W p l e room_1 s m #[Value.ref b] below meth c H1 locs1 cells slots Q (F0 m 786 ls [])) : W p l e room_1 s m #[Value.ref b] below meth c H locs cells slots Q (F0 m 517 ls []) := by
  refine lv_aload_n hexec hb dL_law_517 rfl (lv_at hl 1 rfl) ?_
  refine law_arg (k := 1) hexec hb hX hbl hS hL hl (by omega) (by decide) dL_law_518 dL_law_519 dL_law_520 dL_law_521 dL_law_522 ?_
  refine st_run (pc2 := 532) (xs (i + 1)) SS hts hK I hP hD hS hl.1 hf dL_law_523 dL_law_532 (fun r H1 locs1 hS W2 => ?_) (fun r w1 H1 locs1 I1 hP1 hD1 hS1 => ?_)
  · refine lv_aload_n hexec hb dL_law_526 rfl (lv_at hl 2 rfl) ?_
    refine law_arg (k := 1) hexec hb hX hbl hS hL hl (by omega) (by decide) dL_law_527 dL_law_528 dL_law_529 dL_law_530 dL_law_531 ?_
    exact W2
  · refine lv_icmp_eq (tgt := 786) hexec hb dL_law_535 (by decide) (fun _ => kk w1 H1 locs1 I1 hP1 hD1 hS1) (fun h => absurd rfl h)
theorem law_c_ticks {H : Heap} {locs : List Loc} {w : va_W} {L i : Nat} {xs : Nat → Int32} (hexec : p.tables.exec = Jvm.exec) (hb : c.code = cL_law) (SS : CallFix p m c cL_law 4 s #[Value.ref b] wsL_law RL) (hts : ∀ w ∈ wsL_law, w.before #[Value.ref b] s = true) (hK : KK D cI cM s) (hX : va_X b L xs s s.heap) (hbl : b < s.heap.size) (hL : L ≤ 2560) (hl : lv_has ls 4 [(0, .ref b), (1, .ref ax), (2, .ref az), (3, .int (nI i))]) (hi : i + 5 ≤ L) (I : SYS cI cM ax a az f w) (hP : va_P D vwCl w H) (hD : va_D (LA s) w) (hS : va_S (LA s) s.heap H locs) (hf : cells ≤ room_1.cells ∧ slots ≤ room_1.slots) (kk : ∀ (w1 : va_W) (H1 : Heap) (locs1 : List Loc), SYS cI cM ax a az f w1 → va_P D vwCl w1 H1 → va_D (LA s) w1 → va_S (LA s) s.heap H1 locs1 → W p l e room_1 s m #[Value.ref b] below meth c H1 locs1 cells slots Q (F0 m 786 ls [])) : W p l e room_1 s m #[Value.ref b] below meth c H locs cells slots Q (F0 m 540 ls []) := by
  refine lv_aload_n hexec hb dL_law_540 rfl (lv_at hl 1 rfl) ?_
  refine law_arg (k := 1) hexec hb hX hbl hS hL hl (by omega) (by decide) dL_law_541 dL_law_542 dL_law_543 dL_law_544 dL_law_545 ?_
  refine st_ticks (pc2 := 555) (xs (i + 1)) SS hts hK I hP hD hS hl.1 hf dL_law_546 dL_law_555 (fun r H1 locs1 hS W2 => ?_) (fun r w1 H1 locs1 I1 hP1 hD1 hS1 => ?_)
  · refine lv_aload_n hexec hb dL_law_549 rfl (lv_at hl 2 rfl) ?_
    refine law_arg (k := 1) hexec hb hX hbl hS hL hl (by omega) (by decide) dL_law_550 dL_law_551 dL_law_552 dL_law_553 dL_law_554 ?_
    exact W2
  · refine lv_icmp_eq (tgt := 786) hexec hb dL_law_558 (by decide) (fun _ => kk w1 H1 locs1 I1 hP1 hD1 hS1) (fun h => absurd rfl h)
theorem law_c_argumentCount {H : Heap} {locs : List Loc} {w : va_W} {L i : Nat} {xs : Nat → Int32} (hexec : p.tables.exec = Jvm.exec) (hb : c.code = cL_law) (SS : CallFix p m c cL_law 4 s #[Value.ref b] wsL_law RL) (hts : ∀ w ∈ wsL_law, w.before #[Value.ref b] s = true) (hK : KK D cI cM s) (hX : va_X b L xs s s.heap) (hbl : b < s.heap.size) (hL : L ≤ 2560) (hl : lv_has ls 4 [(0, .ref b), (1, .ref ax), (2, .ref az), (3, .int (nI i))]) (hi : i + 5 ≤ L) (I : SYS cI cM ax a az f w) (hP : va_P D vwCl w H) (hD : va_D (LA s) w) (hS : va_S (LA s) s.heap H locs) (hf : cells ≤ room_1.cells ∧ slots ≤ room_1.slots) (kk : ∀ (w1 : va_W) (H1 : Heap) (locs1 : List Loc), SYS cI cM ax a az f w1 → va_P D vwCl w1 H1 → va_D (LA s) w1 → va_S (LA s) s.heap H1 locs1 → W p l e room_1 s m #[Value.ref b] below meth c H1 locs1 cells slots Q (F0 m 786 ls [])) : W p l e room_1 s m #[Value.ref b] below meth c H locs cells slots Q (F0 m 563 ls []) := by
  refine lv_aload_n hexec hb dL_law_563 rfl (lv_at hl 1 rfl) ?_
  refine law_arg (k := 1) hexec hb hX hbl hS hL hl (by omega) (by decide) dL_law_564 dL_law_565 dL_law_566 dL_law_567 dL_law_568 ?_
  refine st_argumentCount (pc2 := 578) (xs (i + 1)) SS hts hK I hP hD hS hl.1 hf dL_law_569 dL_law_578 (fun r H1 locs1 hS W2 => ?_) (fun r w1 H1 locs1 I1 hP1 hD1 hS1 => ?_)
  · refine lv_aload_n hexec hb dL_law_572 rfl (lv_at hl 2 rfl) ?_
    refine law_arg (k := 1) hexec hb hX hbl hS hL hl (by omega) (by decide) dL_law_573 dL_law_574 dL_law_575 dL_law_576 dL_law_577 ?_
    exact W2
  · refine lv_icmp_eq (tgt := 786) hexec hb dL_law_581 (by decide) (fun _ => kk w1 H1 locs1 I1 hP1 hD1 hS1) (fun h => absurd rfl h)
theorem law_c_argumentKind {H : Heap} {locs : List Loc} {w : va_W} {L i : Nat} {xs : Nat → Int32} (hexec : p.tables.exec = Jvm.exec) (hb : c.code = cL_law) (SS : CallFix p m c cL_law 4 s #[Value.ref b] wsL_law RL) (hts : ∀ w ∈ wsL_law, w.before #[Value.ref b] s = true) (hK : KK D cI cM s) (hX : va_X b L xs s s.heap) (hbl : b < s.heap.size) (hL : L ≤ 2560) (hl : lv_has ls 4 [(0, .ref b), (1, .ref ax), (2, .ref az), (3, .int (nI i))]) (hi : i + 5 ≤ L) (I : SYS cI cM ax a az f w) (hP : va_P D vwCl w H) (hD : va_D (LA s) w) (hS : va_S (LA s) s.heap H locs) (hf : cells ≤ room_1.cells ∧ slots ≤ room_1.slots) (kk : ∀ (w1 : va_W) (H1 : Heap) (locs1 : List Loc), SYS cI cM ax a az f w1 → va_P D vwCl w1 H1 → va_D (LA s) w1 → va_S (LA s) s.heap H1 locs1 → W p l e room_1 s m #[Value.ref b] below meth c H1 locs1 cells slots Q (F0 m 786 ls [])) : W p l e room_1 s m #[Value.ref b] below meth c H locs cells slots Q (F0 m 586 ls []) := by
  refine lv_aload_n hexec hb dL_law_586 rfl (lv_at hl 1 rfl) ?_
  refine law_arg (k := 1) hexec hb hX hbl hS hL hl (by omega) (by decide) dL_law_587 dL_law_588 dL_law_589 dL_law_590 dL_law_591 ?_
  refine law_arg (k := 2) hexec hb hX hbl hS hL hl (by omega) (by decide) dL_law_592 dL_law_593 dL_law_594 dL_law_595 dL_law_596 ?_
  refine st_argumentKind (pc2 := 611) (xs (i + 1)) (xs (i + 2)) SS hts hK I hP hD hS hl.1 hf dL_law_597 dL_law_611 (fun r H1 locs1 hS W2 => ?_) (fun r w1 H1 locs1 I1 hP1 hD1 hS1 => ?_)
  · refine lv_aload_n hexec hb dL_law_600 rfl (lv_at hl 2 rfl) ?_
    refine law_arg (k := 1) hexec hb hX hbl hS hL hl (by omega) (by decide) dL_law_601 dL_law_602 dL_law_603 dL_law_604 dL_law_605 ?_
    refine law_arg (k := 2) hexec hb hX hbl hS hL hl (by omega) (by decide) dL_law_606 dL_law_607 dL_law_608 dL_law_609 dL_law_610 ?_
    exact W2
  · refine lv_icmp_eq (tgt := 786) hexec hb dL_law_614 (by decide) (fun _ => kk w1 H1 locs1 I1 hP1 hD1 hS1) (fun h => absurd rfl h)
theorem law_c_temporaryCount {H : Heap} {locs : List Loc} {w : va_W} {L i : Nat} {xs : Nat → Int32} (hexec : p.tables.exec = Jvm.exec) (hb : c.code = cL_law) (SS : CallFix p m c cL_law 4 s #[Value.ref b] wsL_law RL) (hts : ∀ w ∈ wsL_law, w.before #[Value.ref b] s = true) (hK : KK D cI cM s) (hX : va_X b L xs s s.heap) (hbl : b < s.heap.size) (hL : L ≤ 2560) (hl : lv_has ls 4 [(0, .ref b), (1, .ref ax), (2, .ref az), (3, .int (nI i))]) (hi : i + 5 ≤ L) (I : SYS cI cM ax a az f w) (hP : va_P D vwCl w H) (hD : va_D (LA s) w) (hS : va_S (LA s) s.heap H locs) (hf : cells ≤ room_1.cells ∧ slots ≤ room_1.slots) (kk : ∀ (w1 : va_W) (H1 : Heap) (locs1 : List Loc), SYS cI cM ax a az f w1 → va_P D vwCl w1 H1 → va_D (LA s) w1 → va_S (LA s) s.heap H1 locs1 → W p l e room_1 s m #[Value.ref b] below meth c H1 locs1 cells slots Q (F0 m 786 ls [])) : W p l e room_1 s m #[Value.ref b] below meth c H locs cells slots Q (F0 m 619 ls []) := by
  refine lv_aload_n hexec hb dL_law_619 rfl (lv_at hl 1 rfl) ?_
  refine law_arg (k := 1) hexec hb hX hbl hS hL hl (by omega) (by decide) dL_law_620 dL_law_621 dL_law_622 dL_law_623 dL_law_624 ?_
  refine st_temporaryCount (pc2 := 634) (xs (i + 1)) SS hts hK I hP hD hS hl.1 hf dL_law_625 dL_law_634 (fun r H1 locs1 hS W2 => ?_) (fun r w1 H1 locs1 I1 hP1 hD1 hS1 => ?_)
  · refine lv_aload_n hexec hb dL_law_628 rfl (lv_at hl 2 rfl) ?_
    refine law_arg (k := 1) hexec hb hX hbl hS hL hl (by omega) (by decide) dL_law_629 dL_law_630 dL_law_631 dL_law_632 dL_law_633 ?_
    exact W2
  · refine lv_icmp_eq (tgt := 786) hexec hb dL_law_637 (by decide) (fun _ => kk w1 H1 locs1 I1 hP1 hD1 hS1) (fun h => absurd rfl h)
theorem law_c_startChange {H : Heap} {locs : List Loc} {w : va_W} {L i : Nat} {xs : Nat → Int32} (hexec : p.tables.exec = Jvm.exec) (hb : c.code = cL_law) (SS : CallFix p m c cL_law 4 s #[Value.ref b] wsL_law RL) (hts : ∀ w ∈ wsL_law, w.before #[Value.ref b] s = true) (hK : KK D cI cM s) (hX : va_X b L xs s s.heap) (hbl : b < s.heap.size) (hL : L ≤ 2560) (hl : lv_has ls 4 [(0, .ref b), (1, .ref ax), (2, .ref az), (3, .int (nI i))]) (hi : i + 5 ≤ L) (I : SYS cI cM ax a az f w) (hP : va_P D vwCl w H) (hD : va_D (LA s) w) (hS : va_S (LA s) s.heap H locs) (hf : cells ≤ room_1.cells ∧ slots ≤ room_1.slots) (kk : ∀ (w1 : va_W) (H1 : Heap) (locs1 : List Loc), SYS cI cM ax a az f w1 → va_P D vwCl w1 H1 → va_D (LA s) w1 → va_S (LA s) s.heap H1 locs1 → W p l e room_1 s m #[Value.ref b] below meth c H1 locs1 cells slots Q (F0 m 786 ls [])) : W p l e room_1 s m #[Value.ref b] below meth c H locs cells slots Q (F0 m 642 ls []) := by
  refine lv_aload_n hexec hb dL_law_642 rfl (lv_at hl 1 rfl) ?_
  refine law_arg (k := 1) hexec hb hX hbl hS hL hl (by omega) (by decide) dL_law_643 dL_law_644 dL_law_645 dL_law_646 dL_law_647 ?_
  refine st_startChange (pc2 := 657) (xs (i + 1)) SS hts hK I hP hD hS hl.1 hf dL_law_648 dL_law_657 (fun r H1 locs1 hS W2 => ?_) (fun r w1 H1 locs1 I1 hP1 hD1 hS1 => ?_)
  · refine lv_aload_n hexec hb dL_law_651 rfl (lv_at hl 2 rfl) ?_
    refine law_arg (k := 1) hexec hb hX hbl hS hL hl (by omega) (by decide) dL_law_652 dL_law_653 dL_law_654 dL_law_655 dL_law_656 ?_
    exact W2
  · refine lv_icmp_eq (tgt := 786) hexec hb dL_law_660 (by decide) (fun _ => kk w1 H1 locs1 I1 hP1 hD1 hS1) (fun h => absurd rfl h)
theorem law_c_keepParameter {H : Heap} {locs : List Loc} {w : va_W} {L i : Nat} {xs : Nat → Int32} (hexec : p.tables.exec = Jvm.exec) (hb : c.code = cL_law) (SS : CallFix p m c cL_law 4 s #[Value.ref b] wsL_law RL) (hts : ∀ w ∈ wsL_law, w.before #[Value.ref b] s = true) (hK : KK D cI cM s) (hX : va_X b L xs s s.heap) (hbl : b < s.heap.size) (hL : L ≤ 2560) (hl : lv_has ls 4 [(0, .ref b), (1, .ref ax), (2, .ref az), (3, .int (nI i))]) (hi : i + 5 ≤ L) (I : SYS cI cM ax a az f w) (hP : va_P D vwCl w H) (hD : va_D (LA s) w) (hS : va_S (LA s) s.heap H locs) (hf : cells ≤ room_1.cells ∧ slots ≤ room_1.slots) (kk : ∀ (w1 : va_W) (H1 : Heap) (locs1 : List Loc), SYS cI cM ax a az f w1 → va_P D vwCl w1 H1 → va_D (LA s) w1 → va_S (LA s) s.heap H1 locs1 → W p l e room_1 s m #[Value.ref b] below meth c H1 locs1 cells slots Q (F0 m 786 ls [])) : W p l e room_1 s m #[Value.ref b] below meth c H locs cells slots Q (F0 m 665 ls []) := by
  refine lv_aload_n hexec hb dL_law_665 rfl (lv_at hl 1 rfl) ?_
  refine law_arg (k := 1) hexec hb hX hbl hS hL hl (by omega) (by decide) dL_law_666 dL_law_667 dL_law_668 dL_law_669 dL_law_670 ?_
  refine st_keepParameter (pc2 := 680) (xs (i + 1)) SS hts hK I hP hD hS hl.1 hf dL_law_671 dL_law_680 (fun r H1 locs1 hS W2 => ?_) (fun r w1 H1 locs1 I1 hP1 hD1 hS1 => ?_)
  · refine lv_aload_n hexec hb dL_law_674 rfl (lv_at hl 2 rfl) ?_
    refine law_arg (k := 1) hexec hb hX hbl hS hL hl (by omega) (by decide) dL_law_675 dL_law_676 dL_law_677 dL_law_678 dL_law_679 ?_
    exact W2
  · refine lv_icmp_eq (tgt := 786) hexec hb dL_law_683 (by decide) (fun _ => kk w1 H1 locs1 I1 hP1 hD1 hS1) (fun h => absurd rfl h)
theorem law_c_insertParameter {H : Heap} {locs : List Loc} {w : va_W} {L i : Nat} {xs : Nat → Int32} (hexec : p.tables.exec = Jvm.exec) (hb : c.code = cL_law) (SS : CallFix p m c cL_law 4 s #[Value.ref b] wsL_law RL) (hts : ∀ w ∈ wsL_law, w.before #[Value.ref b] s = true) (hK : KK D cI cM s) (hX : va_X b L xs s s.heap) (hbl : b < s.heap.size) (hL : L ≤ 2560) (hl : lv_has ls 4 [(0, .ref b), (1, .ref ax), (2, .ref az), (3, .int (nI i))]) (hi : i + 5 ≤ L) (I : SYS cI cM ax a az f w) (hP : va_P D vwCl w H) (hD : va_D (LA s) w) (hS : va_S (LA s) s.heap H locs) (hf : cells ≤ room_1.cells ∧ slots ≤ room_1.slots) (kk : ∀ (w1 : va_W) (H1 : Heap) (locs1 : List Loc), SYS cI cM ax a az f w1 → va_P D vwCl w1 H1 → va_D (LA s) w1 → va_S (LA s) s.heap H1 locs1 → W p l e room_1 s m #[Value.ref b] below meth c H1 locs1 cells slots Q (F0 m 786 ls [])) : W p l e room_1 s m #[Value.ref b] below meth c H locs cells slots Q (F0 m 688 ls []) := by
  refine lv_aload_n hexec hb dL_law_688 rfl (lv_at hl 1 rfl) ?_
  refine law_arg (k := 1) hexec hb hX hbl hS hL hl (by omega) (by decide) dL_law_689 dL_law_690 dL_law_691 dL_law_692 dL_law_693 ?_
  refine st_insertParameter (pc2 := 703) (xs (i + 1)) SS hts hK I hP hD hS hl.1 hf dL_law_694 dL_law_703 (fun r H1 locs1 hS W2 => ?_) (fun r w1 H1 locs1 I1 hP1 hD1 hS1 => ?_)
  · refine lv_aload_n hexec hb dL_law_697 rfl (lv_at hl 2 rfl) ?_
    refine law_arg (k := 1) hexec hb hX hbl hS hL hl (by omega) (by decide) dL_law_698 dL_law_699 dL_law_700 dL_law_701 dL_law_702 ?_
    exact W2
  · refine lv_icmp_eq (tgt := 786) hexec hb dL_law_706 (by decide) (fun _ => kk w1 H1 locs1 I1 hP1 hD1 hS1) (fun h => absurd rfl h)
theorem law_c_clashingMethod {H : Heap} {locs : List Loc} {w : va_W} {L i : Nat} {xs : Nat → Int32} (hexec : p.tables.exec = Jvm.exec) (hb : c.code = cL_law) (SS : CallFix p m c cL_law 4 s #[Value.ref b] wsL_law RL) (hts : ∀ w ∈ wsL_law, w.before #[Value.ref b] s = true) (hK : KK D cI cM s) (hX : va_X b L xs s s.heap) (hbl : b < s.heap.size) (hL : L ≤ 2560) (hl : lv_has ls 4 [(0, .ref b), (1, .ref ax), (2, .ref az), (3, .int (nI i))]) (hi : i + 5 ≤ L) (I : SYS cI cM ax a az f w) (hP : va_P D vwCl w H) (hD : va_D (LA s) w) (hS : va_S (LA s) s.heap H locs) (hf : cells ≤ room_1.cells ∧ slots ≤ room_1.slots) (kk : ∀ (w1 : va_W) (H1 : Heap) (locs1 : List Loc), SYS cI cM ax a az f w1 → va_P D vwCl w1 H1 → va_D (LA s) w1 → va_S (LA s) s.heap H1 locs1 → W p l e room_1 s m #[Value.ref b] below meth c H1 locs1 cells slots Q (F0 m 786 ls [])) : W p l e room_1 s m #[Value.ref b] below meth c H locs cells slots Q (F0 m 711 ls []) := by
  refine lv_aload_n hexec hb dL_law_711 rfl (lv_at hl 1 rfl) ?_
  refine st_clashingMethod (pc2 := 716) SS hts hK I hP hD hS hl.1 hf dL_law_712 dL_law_716 (fun r H1 locs1 hS W2 => ?_) (fun r w1 H1 locs1 I1 hP1 hD1 hS1 => ?_)
  · refine lv_aload_n hexec hb dL_law_715 rfl (lv_at hl 2 rfl) ?_
    exact W2
  · refine lv_icmp_eq (tgt := 786) hexec hb dL_law_719 (by decide) (fun _ => kk w1 H1 locs1 I1 hP1 hD1 hS1) (fun h => absurd rfl h)
theorem law_c_hoistedArguments {H : Heap} {locs : List Loc} {w : va_W} {L i : Nat} {xs : Nat → Int32} (hexec : p.tables.exec = Jvm.exec) (hb : c.code = cL_law) (SS : CallFix p m c cL_law 4 s #[Value.ref b] wsL_law RL) (hts : ∀ w ∈ wsL_law, w.before #[Value.ref b] s = true) (hK : KK D cI cM s) (hX : va_X b L xs s s.heap) (hbl : b < s.heap.size) (hL : L ≤ 2560) (hl : lv_has ls 4 [(0, .ref b), (1, .ref ax), (2, .ref az), (3, .int (nI i))]) (hi : i + 5 ≤ L) (I : SYS cI cM ax a az f w) (hP : va_P D vwCl w H) (hD : va_D (LA s) w) (hS : va_S (LA s) s.heap H locs) (hf : cells ≤ room_1.cells ∧ slots ≤ room_1.slots) (kk : ∀ (w1 : va_W) (H1 : Heap) (locs1 : List Loc), SYS cI cM ax a az f w1 → va_P D vwCl w1 H1 → va_D (LA s) w1 → va_S (LA s) s.heap H1 locs1 → W p l e room_1 s m #[Value.ref b] below meth c H1 locs1 cells slots Q (F0 m 786 ls [])) : W p l e room_1 s m #[Value.ref b] below meth c H locs cells slots Q (F0 m 724 ls []) := by
  refine lv_aload_n hexec hb dL_law_724 rfl (lv_at hl 1 rfl) ?_
  refine law_arg (k := 1) hexec hb hX hbl hS hL hl (by omega) (by decide) dL_law_725 dL_law_726 dL_law_727 dL_law_728 dL_law_729 ?_
  refine st_hoistedArguments (pc2 := 739) (xs (i + 1)) SS hts hK I hP hD hS hl.1 hf dL_law_730 dL_law_739 (fun r H1 locs1 hS W2 => ?_) (fun r w1 H1 locs1 I1 hP1 hD1 hS1 => ?_)
  · refine lv_aload_n hexec hb dL_law_733 rfl (lv_at hl 2 rfl) ?_
    refine law_arg (k := 1) hexec hb hX hbl hS hL hl (by omega) (by decide) dL_law_734 dL_law_735 dL_law_736 dL_law_737 dL_law_738 ?_
    exact W2
  · refine lv_icmp_eq (tgt := 786) hexec hb dL_law_742 (by decide) (fun _ => kk w1 H1 locs1 I1 hP1 hD1 hS1) (fun h => absurd rfl h)
theorem law_c_bridgeTypes {H : Heap} {locs : List Loc} {w : va_W} {L i : Nat} {xs : Nat → Int32} (hexec : p.tables.exec = Jvm.exec) (hb : c.code = cL_law) (SS : CallFix p m c cL_law 4 s #[Value.ref b] wsL_law RL) (hts : ∀ w ∈ wsL_law, w.before #[Value.ref b] s = true) (hK : KK D cI cM s) (hX : va_X b L xs s s.heap) (hbl : b < s.heap.size) (hL : L ≤ 2560) (hl : lv_has ls 4 [(0, .ref b), (1, .ref ax), (2, .ref az), (3, .int (nI i))]) (hi : i + 5 ≤ L) (I : SYS cI cM ax a az f w) (hP : va_P D vwCl w H) (hD : va_D (LA s) w) (hS : va_S (LA s) s.heap H locs) (hf : cells ≤ room_1.cells ∧ slots ≤ room_1.slots) (kk : ∀ (w1 : va_W) (H1 : Heap) (locs1 : List Loc), SYS cI cM ax a az f w1 → va_P D vwCl w1 H1 → va_D (LA s) w1 → va_S (LA s) s.heap H1 locs1 → W p l e room_1 s m #[Value.ref b] below meth c H1 locs1 cells slots Q (F0 m 786 ls [])) : W p l e room_1 s m #[Value.ref b] below meth c H locs cells slots Q (F0 m 747 ls []) := by
  refine lv_aload_n hexec hb dL_law_747 rfl (lv_at hl 1 rfl) ?_
  refine st_bridgeTypes (pc2 := 752) SS hts hK I hP hD hS hl.1 hf dL_law_748 dL_law_752 (fun r H1 locs1 hS W2 => ?_) (fun r w1 H1 locs1 I1 hP1 hD1 hS1 => ?_)
  · refine lv_aload_n hexec hb dL_law_751 rfl (lv_at hl 2 rfl) ?_
    exact W2
  · refine lv_icmp_eq (tgt := 786) hexec hb dL_law_755 (by decide) (fun _ => kk w1 H1 locs1 I1 hP1 hD1 hS1) (fun h => absurd rfl h)
theorem law_c_applyChange {H : Heap} {locs : List Loc} {w : va_W} {L i : Nat} {xs : Nat → Int32} (hexec : p.tables.exec = Jvm.exec) (hb : c.code = cL_law) (SS : CallFix p m c cL_law 4 s #[Value.ref b] wsL_law RL) (hts : ∀ w ∈ wsL_law, w.before #[Value.ref b] s = true) (hK : KK D cI cM s) (hX : va_X b L xs s s.heap) (hbl : b < s.heap.size) (hL : L ≤ 2560) (hl : lv_has ls 4 [(0, .ref b), (1, .ref ax), (2, .ref az), (3, .int (nI i))]) (hi : i + 5 ≤ L) (I : SYS cI cM ax a az f w) (hP : va_P D vwCl w H) (hD : va_D (LA s) w) (hS : va_S (LA s) s.heap H locs) (hf : cells ≤ room_1.cells ∧ slots ≤ room_1.slots) (kk : ∀ (w1 : va_W) (H1 : Heap) (locs1 : List Loc), SYS cI cM ax a az f w1 → va_P D vwCl w1 H1 → va_D (LA s) w1 → va_S (LA s) s.heap H1 locs1 → W p l e room_1 s m #[Value.ref b] below meth c H1 locs1 cells slots Q (F0 m 786 ls [])) : W p l e room_1 s m #[Value.ref b] below meth c H locs cells slots Q (F0 m 760 ls []) := by
  refine lv_aload_n hexec hb dL_law_760 rfl (lv_at hl 1 rfl) ?_
  refine st_applyChange (pc2 := 765) SS hts hK I hP hD hS hl.1 hf dL_law_761 dL_law_765 (fun r H1 locs1 hS W2 => ?_) (fun r w1 H1 locs1 I1 hP1 hD1 hS1 => ?_)
  · refine lv_aload_n hexec hb dL_law_764 rfl (lv_at hl 2 rfl) ?_
    exact W2
  · refine lv_icmp_eq (tgt := 786) hexec hb dL_law_768 (by decide) (fun _ => kk w1 H1 locs1 I1 hP1 hD1 hS1) (fun h => absurd rfl h)
theorem law_c_undo {H : Heap} {locs : List Loc} {w : va_W} {L i : Nat} {xs : Nat → Int32} (hexec : p.tables.exec = Jvm.exec) (hb : c.code = cL_law) (SS : CallFix p m c cL_law 4 s #[Value.ref b] wsL_law RL) (hts : ∀ w ∈ wsL_law, w.before #[Value.ref b] s = true) (hK : KK D cI cM s) (hX : va_X b L xs s s.heap) (hbl : b < s.heap.size) (hL : L ≤ 2560) (hl : lv_has ls 4 [(0, .ref b), (1, .ref ax), (2, .ref az), (3, .int (nI i))]) (hi : i + 5 ≤ L) (I : SYS cI cM ax a az f w) (hP : va_P D vwCl w H) (hD : va_D (LA s) w) (hS : va_S (LA s) s.heap H locs) (hf : cells ≤ room_1.cells ∧ slots ≤ room_1.slots) (kk : ∀ (w1 : va_W) (H1 : Heap) (locs1 : List Loc), SYS cI cM ax a az f w1 → va_P D vwCl w1 H1 → va_D (LA s) w1 → va_S (LA s) s.heap H1 locs1 → W p l e room_1 s m #[Value.ref b] below meth c H1 locs1 cells slots Q (F0 m 786 ls [])) : W p l e room_1 s m #[Value.ref b] below meth c H locs cells slots Q (F0 m 773 ls []) := by
  refine lv_aload_n hexec hb dL_law_773 rfl (lv_at hl 1 rfl) ?_
  refine st_undo (pc2 := 778) SS hts hK I hP hD hS hl.1 hf dL_law_774 dL_law_778 (fun r H1 locs1 hS W2 => ?_) (fun r w1 H1 locs1 I1 hP1 hD1 hS1 => ?_)
  · refine lv_aload_n hexec hb dL_law_777 rfl (lv_at hl 2 rfl) ?_
    exact W2
  · refine lv_icmp_eq (tgt := 786) hexec hb dL_law_781 (by decide) (fun _ => kk w1 H1 locs1 I1 hP1 hD1 hS1) (fun h => absurd rfl h)
end CS
