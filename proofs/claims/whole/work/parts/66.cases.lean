section
variable {p : Program} {l : Launch} {e : Env} {s : State} {m : MethodId} {below : List Frame} {meth : Method} {c : Code} {H : Heap} {locs : List Loc} {Q : State → Prop} {ls : Array Slot} {D : va_G} {a a' : Nat → Nat} {g g' : Nat → ClassId} {b L : Nat} {xs : Nat → Int32} {S : SS} {M : SM}
set_option maxRecDepth 100000 in
set_option maxHeartbeats 4000000 in
theorem lc_line (E : LE p s m meth c D a a' g g' b L xs) (hw : LW D a a' g g' S M s H locs) {i n F : Nat} (hF : 1000000000 < F) (hi : i + 5 ≤ L) (hI : Inv n S M) (hn : n ≤ 512) (hl : lv_has ls 4 [(3, .int (nI i)), (0, .ref b), (1, .ref (a 0)), (2, .ref (a' 0))]) (kk : ∀ (S' : SS) (M' : SM) (H1 : Heap) (locs1 : List Loc), Inv (n + 1) S' M' → LW D a a' g g' S' M' s H1 locs1 → W p l e room_1 s m #[Value.ref b] below meth c H1 locs1 62 1975 Q (F0 m 738 ls [])) : W p l e room_1 s m #[Value.ref b] below meth c H locs 62 1975 Q (F0 m 128 ls []) := by
  obtain ⟨r, S1, M1, eK, eM, hI1⟩ := step_line (F := F) hF hI (xsc xs (i + 1)) (xsc xs (i + 2)) (xsc xs (i + 3)) (xsc xs (i + 4))
  refine lv_aload_n E.hx E.hb dL_law_128 rfl (lv_at hl 2 rfl) ?_
  refine ldS E hw (k := 1) (by omega) hl ic_1 dL_law_129 dL_law_130 dL_law_131 dL_law_132 dL_law_133 ?_
  refine ldS E hw (k := 2) (by omega) hl ic_2 dL_law_134 dL_law_135 dL_law_136 dL_law_137 dL_law_138 ?_
  refine ldS E hw (k := 3) (by omega) hl ic_3 dL_law_139 dL_law_140 dL_law_141 dL_law_142 dL_law_143 ?_
  refine ldS E hw (k := 4) (by omega) hl ic_4 dL_law_144 dL_law_145 dL_law_146 dL_law_147 dL_law_148 ?_
  refine lawK E hw (As := [.int (xsc xs (i + 1)), .int (xsc xs (i + 2)), .int (xsc xs (i + 3)), .int (xsc xs (i + 4))]) (mk7_line E.hDK eK) ⟨cb_of 4 E.hts wl306 wl35 wl303 (by decide +kernel) ⟨(Nat.le_of_ble_eq_true rfl), (Nat.le_of_ble_eq_true rfl)⟩, E.hts _ wl304, E.hts _ wl305⟩ rfl hl.1 rfl (Nat.le_of_ble_eq_true rfl) dL_law_149 (fun H locs hw => ?_)
  refine lv_aload_n E.hx E.hb dL_law_152 rfl (lv_at hl 3 rfl) ?_
  refine ldS E hw (k := 1) (by omega) hl ic_1 dL_law_153 dL_law_154 dL_law_155 dL_law_156 dL_law_157 ?_
  refine ldS E hw (k := 2) (by omega) hl ic_2 dL_law_158 dL_law_159 dL_law_160 dL_law_161 dL_law_162 ?_
  refine ldS E hw (k := 3) (by omega) hl ic_3 dL_law_163 dL_law_164 dL_law_165 dL_law_166 dL_law_167 ?_
  refine ldS E hw (k := 4) (by omega) hl ic_4 dL_law_168 dL_law_169 dL_law_170 dL_law_171 dL_law_172 ?_
  refine lawM E hw (As := [.int (xsc xs (i + 1)), .int (xsc xs (i + 2)), .int (xsc xs (i + 3)), .int (xsc xs (i + 4))]) (mk8_line E.hDM eM) ⟨cb_of 4 E.hts wl739 wl44 wl736 (by decide +kernel) ⟨(Nat.le_of_ble_eq_true rfl), (Nat.le_of_ble_eq_true rfl)⟩, E.hts _ wl737, E.hts _ wl738⟩ rfl hl.1 rfl (Nat.le_of_ble_eq_true rfl) dL_law_173 (fun H locs hw => ?_)
  exact lv_icmp_eq (tgt := 738) E.hx E.hb dL_law_176 (by decide) (fun _ => kk _ _ _ _ hI1 hw) (fun z => absurd rfl z)
set_option maxRecDepth 100000 in
set_option maxHeartbeats 4000000 in
theorem lc_least (E : LE p s m meth c D a a' g g' b L xs) (hw : LW D a a' g g' S M s H locs) {i n F : Nat} (hF : 1000000000 < F) (hi : i + 5 ≤ L) (hI : Inv n S M) (hn : n ≤ 512) (hl : lv_has ls 4 [(3, .int (nI i)), (0, .ref b), (1, .ref (a 0)), (2, .ref (a' 0))]) (kk : ∀ (S' : SS) (M' : SM) (H1 : Heap) (locs1 : List Loc), Inv (n + 1) S' M' → LW D a a' g g' S' M' s H1 locs1 → W p l e room_1 s m #[Value.ref b] below meth c H1 locs1 62 1975 Q (F0 m 738 ls [])) : W p l e room_1 s m #[Value.ref b] below meth c H locs 62 1975 Q (F0 m 181 ls []) := by
  obtain ⟨r, eK, eM⟩ := step_least (F := F) hI (xsc xs (i + 1)) (xsc xs (i + 2))
  refine lv_aload_n E.hx E.hb dL_law_181 rfl (lv_at hl 2 rfl) ?_
  refine ldS E hw (k := 1) (by omega) hl ic_1 dL_law_182 dL_law_183 dL_law_184 dL_law_185 dL_law_186 ?_
  refine ldS E hw (k := 2) (by omega) hl ic_2 dL_law_187 dL_law_188 dL_law_189 dL_law_190 dL_law_191 ?_
  refine lawK E hw (As := [.int (xsc xs (i + 1)), .int (xsc xs (i + 2))]) (mk7_least E.hDK eK) ⟨cb_of 2 E.hts wl338 wl35 wl335 (by decide +kernel) ⟨(Nat.le_of_ble_eq_true rfl), (Nat.le_of_ble_eq_true rfl)⟩, E.hts _ wl336, E.hts _ wl337⟩ rfl hl.1 rfl (Nat.le_of_ble_eq_true rfl) dL_law_192 (fun H locs hw => ?_)
  refine lv_aload_n E.hx E.hb dL_law_195 rfl (lv_at hl 3 rfl) ?_
  refine ldS E hw (k := 1) (by omega) hl ic_1 dL_law_196 dL_law_197 dL_law_198 dL_law_199 dL_law_200 ?_
  refine ldS E hw (k := 2) (by omega) hl ic_2 dL_law_201 dL_law_202 dL_law_203 dL_law_204 dL_law_205 ?_
  refine lawM E hw (As := [.int (xsc xs (i + 1)), .int (xsc xs (i + 2))]) (mk8_least E.hDM eM) ⟨cb_of 2 E.hts wl752 wl44 wl749 (by decide +kernel) ⟨(Nat.le_of_ble_eq_true rfl), (Nat.le_of_ble_eq_true rfl)⟩, E.hts _ wl750, E.hts _ wl751⟩ rfl hl.1 rfl (Nat.le_of_ble_eq_true rfl) dL_law_206 (fun H locs hw => ?_)
  exact lv_icmp_eq (tgt := 738) E.hx E.hb dL_law_209 (by decide) (fun _ => kk _ _ _ _ hI.up hw) (fun z => absurd rfl z)
set_option maxRecDepth 100000 in
set_option maxHeartbeats 4000000 in
theorem lc_route (E : LE p s m meth c D a a' g g' b L xs) (hw : LW D a a' g g' S M s H locs) {i n F : Nat} (hF : 1000000000 < F) (hi : i + 5 ≤ L) (hI : Inv n S M) (hn : n ≤ 512) (hl : lv_has ls 4 [(3, .int (nI i)), (0, .ref b), (1, .ref (a 0)), (2, .ref (a' 0))]) (kk : ∀ (S' : SS) (M' : SM) (H1 : Heap) (locs1 : List Loc), Inv (n + 1) S' M' → LW D a a' g g' S' M' s H1 locs1 → W p l e room_1 s m #[Value.ref b] below meth c H1 locs1 62 1975 Q (F0 m 738 ls [])) : W p l e room_1 s m #[Value.ref b] below meth c H locs 62 1975 Q (F0 m 214 ls []) := by
  obtain ⟨r, eK, eM⟩ := step_route (F := F) hF hI (xsc xs (i + 1)) (xsc xs (i + 2))
  refine lv_aload_n E.hx E.hb dL_law_214 rfl (lv_at hl 2 rfl) ?_
  refine ldS E hw (k := 1) (by omega) hl ic_1 dL_law_215 dL_law_216 dL_law_217 dL_law_218 dL_law_219 ?_
  refine ldS E hw (k := 2) (by omega) hl ic_2 dL_law_220 dL_law_221 dL_law_222 dL_law_223 dL_law_224 ?_
  refine lawK E hw (As := [.int (xsc xs (i + 1)), .int (xsc xs (i + 2))]) (mk7_route E.hDK eK) ⟨cb_of 2 E.hts wl346 wl35 wl343 (by decide +kernel) ⟨(Nat.le_of_ble_eq_true rfl), (Nat.le_of_ble_eq_true rfl)⟩, E.hts _ wl344, E.hts _ wl345⟩ rfl hl.1 rfl (Nat.le_of_ble_eq_true rfl) dL_law_225 (fun H locs hw => ?_)
  refine lv_aload_n E.hx E.hb dL_law_228 rfl (lv_at hl 3 rfl) ?_
  refine ldS E hw (k := 1) (by omega) hl ic_1 dL_law_229 dL_law_230 dL_law_231 dL_law_232 dL_law_233 ?_
  refine ldS E hw (k := 2) (by omega) hl ic_2 dL_law_234 dL_law_235 dL_law_236 dL_law_237 dL_law_238 ?_
  refine lawM E hw (As := [.int (xsc xs (i + 1)), .int (xsc xs (i + 2))]) (mk8_route E.hDM eM) ⟨cb_of 2 E.hts wl756 wl44 wl753 (by decide +kernel) ⟨(Nat.le_of_ble_eq_true rfl), (Nat.le_of_ble_eq_true rfl)⟩, E.hts _ wl754, E.hts _ wl755⟩ rfl hl.1 rfl (Nat.le_of_ble_eq_true rfl) dL_law_239 (fun H locs hw => ?_)
  exact lv_icmp_eq (tgt := 738) E.hx E.hb dL_law_242 (by decide) (fun _ => kk _ _ _ _ hI.up hw) (fun z => absurd rfl z)
set_option maxRecDepth 100000 in
set_option maxHeartbeats 4000000 in
theorem lc_part (E : LE p s m meth c D a a' g g' b L xs) (hw : LW D a a' g g' S M s H locs) {i n F : Nat} (hF : 1000000000 < F) (hi : i + 5 ≤ L) (hI : Inv n S M) (hn : n ≤ 512) (hl : lv_has ls 4 [(3, .int (nI i)), (0, .ref b), (1, .ref (a 0)), (2, .ref (a' 0))]) (kk : ∀ (S' : SS) (M' : SM) (H1 : Heap) (locs1 : List Loc), Inv (n + 1) S' M' → LW D a a' g g' S' M' s H1 locs1 → W p l e room_1 s m #[Value.ref b] below meth c H1 locs1 62 1975 Q (F0 m 738 ls [])) : W p l e room_1 s m #[Value.ref b] below meth c H locs 62 1975 Q (F0 m 247 ls []) := by
  obtain ⟨r, S1, M1, eK, eM, hI1⟩ := step_part (F := F) hF hI (xsc xs (i + 1)) (xsc xs (i + 2)) (xsc xs (i + 3)) (xsc xs (i + 4))
  refine lv_aload_n E.hx E.hb dL_law_247 rfl (lv_at hl 2 rfl) ?_
  refine ldS E hw (k := 1) (by omega) hl ic_1 dL_law_248 dL_law_249 dL_law_250 dL_law_251 dL_law_252 ?_
  refine ldS E hw (k := 2) (by omega) hl ic_2 dL_law_253 dL_law_254 dL_law_255 dL_law_256 dL_law_257 ?_
  refine ldS E hw (k := 3) (by omega) hl ic_3 dL_law_258 dL_law_259 dL_law_260 dL_law_261 dL_law_262 ?_
  refine ldS E hw (k := 4) (by omega) hl ic_4 dL_law_263 dL_law_264 dL_law_265 dL_law_266 dL_law_267 ?_
  refine lawK E hw (As := [.int (xsc xs (i + 1)), .int (xsc xs (i + 2)), .int (xsc xs (i + 3)), .int (xsc xs (i + 4))]) (mk7_part E.hDK eK) ⟨cb_of 4 E.hts wl359 wl35 wl356 (by decide +kernel) ⟨(Nat.le_of_ble_eq_true rfl), (Nat.le_of_ble_eq_true rfl)⟩, E.hts _ wl357, E.hts _ wl358⟩ rfl hl.1 rfl (Nat.le_of_ble_eq_true rfl) dL_law_268 (fun H locs hw => ?_)
  refine lv_aload_n E.hx E.hb dL_law_271 rfl (lv_at hl 3 rfl) ?_
  refine ldS E hw (k := 1) (by omega) hl ic_1 dL_law_272 dL_law_273 dL_law_274 dL_law_275 dL_law_276 ?_
  refine ldS E hw (k := 2) (by omega) hl ic_2 dL_law_277 dL_law_278 dL_law_279 dL_law_280 dL_law_281 ?_
  refine ldS E hw (k := 3) (by omega) hl ic_3 dL_law_282 dL_law_283 dL_law_284 dL_law_285 dL_law_286 ?_
  refine ldS E hw (k := 4) (by omega) hl ic_4 dL_law_287 dL_law_288 dL_law_289 dL_law_290 dL_law_291 ?_
  refine lawM E hw (As := [.int (xsc xs (i + 1)), .int (xsc xs (i + 2)), .int (xsc xs (i + 3)), .int (xsc xs (i + 4))]) (mk8_part E.hDM eM) ⟨cb_of 4 E.hts wl765 wl44 wl762 (by decide +kernel) ⟨(Nat.le_of_ble_eq_true rfl), (Nat.le_of_ble_eq_true rfl)⟩, E.hts _ wl763, E.hts _ wl764⟩ rfl hl.1 rfl (Nat.le_of_ble_eq_true rfl) dL_law_292 (fun H locs hw => ?_)
  exact lv_icmp_eq (tgt := 738) E.hx E.hb dL_law_295 (by decide) (fun _ => kk _ _ _ _ hI1 hw) (fun z => absurd rfl z)
set_option maxRecDepth 100000 in
set_option maxHeartbeats 4000000 in
theorem lc_book (E : LE p s m meth c D a a' g g' b L xs) (hw : LW D a a' g g' S M s H locs) {i n F : Nat} (hF : 1000000000 < F) (hi : i + 5 ≤ L) (hI : Inv n S M) (hn : n ≤ 512) (hl : lv_has ls 4 [(3, .int (nI i)), (0, .ref b), (1, .ref (a 0)), (2, .ref (a' 0))]) (kk : ∀ (S' : SS) (M' : SM) (H1 : Heap) (locs1 : List Loc), Inv (n + 1) S' M' → LW D a a' g g' S' M' s H1 locs1 → W p l e room_1 s m #[Value.ref b] below meth c H1 locs1 62 1975 Q (F0 m 738 ls [])) : W p l e room_1 s m #[Value.ref b] below meth c H locs 62 1975 Q (F0 m 300 ls []) := by
  obtain ⟨r, S1, M1, eK, eM, hI1⟩ := step_book (F := F) hF hI (xsc xs (i + 1)) (xsc xs (i + 2)) (xsc xs (i + 3)) (xsc xs (i + 4))
  refine lv_aload_n E.hx E.hb dL_law_300 rfl (lv_at hl 2 rfl) ?_
  refine ldS E hw (k := 1) (by omega) hl ic_1 dL_law_301 dL_law_302 dL_law_303 dL_law_304 dL_law_305 ?_
  refine ldS E hw (k := 2) (by omega) hl ic_2 dL_law_306 dL_law_307 dL_law_308 dL_law_309 dL_law_310 ?_
  refine ldS E hw (k := 3) (by omega) hl ic_3 dL_law_311 dL_law_312 dL_law_313 dL_law_314 dL_law_315 ?_
  refine ldS E hw (k := 4) (by omega) hl ic_4 dL_law_316 dL_law_317 dL_law_318 dL_law_319 dL_law_320 ?_
  refine lawK E hw (As := [.int (xsc xs (i + 1)), .int (xsc xs (i + 2)), .int (xsc xs (i + 3)), .int (xsc xs (i + 4))]) (mk7_book E.hDK eK) ⟨cb_of 4 E.hts wl389 wl35 wl386 (by decide +kernel) ⟨(Nat.le_of_ble_eq_true rfl), (Nat.le_of_ble_eq_true rfl)⟩, E.hts _ wl387, E.hts _ wl388⟩ rfl hl.1 rfl (Nat.le_of_ble_eq_true rfl) dL_law_321 (fun H locs hw => ?_)
  refine lv_aload_n E.hx E.hb dL_law_324 rfl (lv_at hl 3 rfl) ?_
  refine ldS E hw (k := 1) (by omega) hl ic_1 dL_law_325 dL_law_326 dL_law_327 dL_law_328 dL_law_329 ?_
  refine ldS E hw (k := 2) (by omega) hl ic_2 dL_law_330 dL_law_331 dL_law_332 dL_law_333 dL_law_334 ?_
  refine ldS E hw (k := 3) (by omega) hl ic_3 dL_law_335 dL_law_336 dL_law_337 dL_law_338 dL_law_339 ?_
  refine ldS E hw (k := 4) (by omega) hl ic_4 dL_law_340 dL_law_341 dL_law_342 dL_law_343 dL_law_344 ?_
  refine lawM E hw (As := [.int (xsc xs (i + 1)), .int (xsc xs (i + 2)), .int (xsc xs (i + 3)), .int (xsc xs (i + 4))]) (mk8_book E.hDM eM) ⟨cb_of 4 E.hts wl775 wl44 wl772 (by decide +kernel) ⟨(Nat.le_of_ble_eq_true rfl), (Nat.le_of_ble_eq_true rfl)⟩, E.hts _ wl773, E.hts _ wl774⟩ rfl hl.1 rfl (Nat.le_of_ble_eq_true rfl) dL_law_345 (fun H locs hw => ?_)
  exact lv_icmp_eq (tgt := 738) E.hx E.hb dL_law_348 (by decide) (fun _ => kk _ _ _ _ hI1 hw) (fun z => absurd rfl z)
set_option maxRecDepth 100000 in
set_option maxHeartbeats 4000000 in
theorem lc_wagon (E : LE p s m meth c D a a' g g' b L xs) (hw : LW D a a' g g' S M s H locs) {i n F : Nat} (hF : 1000000000 < F) (hi : i + 5 ≤ L) (hI : Inv n S M) (hn : n ≤ 512) (hl : lv_has ls 4 [(3, .int (nI i)), (0, .ref b), (1, .ref (a 0)), (2, .ref (a' 0))]) (kk : ∀ (S' : SS) (M' : SM) (H1 : Heap) (locs1 : List Loc), Inv (n + 1) S' M' → LW D a a' g g' S' M' s H1 locs1 → W p l e room_1 s m #[Value.ref b] below meth c H1 locs1 62 1975 Q (F0 m 738 ls [])) : W p l e room_1 s m #[Value.ref b] below meth c H locs 62 1975 Q (F0 m 353 ls []) := by
  obtain ⟨r, S1, M1, eK, eM, hI1⟩ := step_wagon (F := F) hF hI (xsc xs (i + 1)) (xsc xs (i + 2))
  refine lv_aload_n E.hx E.hb dL_law_353 rfl (lv_at hl 2 rfl) ?_
  refine ldS E hw (k := 1) (by omega) hl ic_1 dL_law_354 dL_law_355 dL_law_356 dL_law_357 dL_law_358 ?_
  refine ldS E hw (k := 2) (by omega) hl ic_2 dL_law_359 dL_law_360 dL_law_361 dL_law_362 dL_law_363 ?_
  refine lawK E hw (As := [.int (xsc xs (i + 1)), .int (xsc xs (i + 2))]) (mk7_wagon E.hDK eK) ⟨cb_of 2 E.hts wl393 wl35 wl390 (by decide +kernel) ⟨(Nat.le_of_ble_eq_true rfl), (Nat.le_of_ble_eq_true rfl)⟩, E.hts _ wl391, E.hts _ wl392⟩ rfl hl.1 rfl (Nat.le_of_ble_eq_true rfl) dL_law_364 (fun H locs hw => ?_)
  refine lv_aload_n E.hx E.hb dL_law_367 rfl (lv_at hl 3 rfl) ?_
  refine ldS E hw (k := 1) (by omega) hl ic_1 dL_law_368 dL_law_369 dL_law_370 dL_law_371 dL_law_372 ?_
  refine ldS E hw (k := 2) (by omega) hl ic_2 dL_law_373 dL_law_374 dL_law_375 dL_law_376 dL_law_377 ?_
  refine lawM E hw (As := [.int (xsc xs (i + 1)), .int (xsc xs (i + 2))]) (mk8_wagon E.hDM eM) ⟨cb_of 2 E.hts wl779 wl44 wl776 (by decide +kernel) ⟨(Nat.le_of_ble_eq_true rfl), (Nat.le_of_ble_eq_true rfl)⟩, E.hts _ wl777, E.hts _ wl778⟩ rfl hl.1 rfl (Nat.le_of_ble_eq_true rfl) dL_law_378 (fun H locs hw => ?_)
  exact lv_icmp_eq (tgt := 738) E.hx E.hb dL_law_381 (by decide) (fun _ => kk _ _ _ _ hI1 hw) (fun z => absurd rfl z)
set_option maxRecDepth 100000 in
set_option maxHeartbeats 4000000 in
theorem lc_see (E : LE p s m meth c D a a' g g' b L xs) (hw : LW D a a' g g' S M s H locs) {i n F : Nat} (hF : 1000000000 < F) (hi : i + 5 ≤ L) (hI : Inv n S M) (hn : n ≤ 512) (hl : lv_has ls 4 [(3, .int (nI i)), (0, .ref b), (1, .ref (a 0)), (2, .ref (a' 0))]) (kk : ∀ (S' : SS) (M' : SM) (H1 : Heap) (locs1 : List Loc), Inv (n + 1) S' M' → LW D a a' g g' S' M' s H1 locs1 → W p l e room_1 s m #[Value.ref b] below meth c H1 locs1 62 1975 Q (F0 m 738 ls [])) : W p l e room_1 s m #[Value.ref b] below meth c H locs 62 1975 Q (F0 m 386 ls []) := by
  obtain ⟨r, S1, M1, eK, eM, hI1⟩ := step_see (F := F) hF hI (xsc xs (i + 1)) (xsc xs (i + 2)) (xsc xs (i + 3)) (xsc xs (i + 4))
  refine lv_aload_n E.hx E.hb dL_law_386 rfl (lv_at hl 2 rfl) ?_
  refine ldS E hw (k := 1) (by omega) hl ic_1 dL_law_387 dL_law_388 dL_law_389 dL_law_390 dL_law_391 ?_
  refine ldS E hw (k := 2) (by omega) hl ic_2 dL_law_392 dL_law_393 dL_law_394 dL_law_395 dL_law_396 ?_
  refine ldS E hw (k := 3) (by omega) hl ic_3 dL_law_397 dL_law_398 dL_law_399 dL_law_400 dL_law_401 ?_
  refine ldS E hw (k := 4) (by omega) hl ic_4 dL_law_402 dL_law_403 dL_law_404 dL_law_405 dL_law_406 ?_
  refine lawK E hw (As := [.int (xsc xs (i + 1)), .int (xsc xs (i + 2)), .int (xsc xs (i + 3)), .int (xsc xs (i + 4))]) (mk7_see E.hDK eK) ⟨cb_of 4 E.hts wl407 wl35 wl404 (by decide +kernel) ⟨(Nat.le_of_ble_eq_true rfl), (Nat.le_of_ble_eq_true rfl)⟩, E.hts _ wl405, E.hts _ wl406⟩ rfl hl.1 rfl (Nat.le_of_ble_eq_true rfl) dL_law_407 (fun H locs hw => ?_)
  refine lv_aload_n E.hx E.hb dL_law_410 rfl (lv_at hl 3 rfl) ?_
  refine ldS E hw (k := 1) (by omega) hl ic_1 dL_law_411 dL_law_412 dL_law_413 dL_law_414 dL_law_415 ?_
  refine ldS E hw (k := 2) (by omega) hl ic_2 dL_law_416 dL_law_417 dL_law_418 dL_law_419 dL_law_420 ?_
  refine ldS E hw (k := 3) (by omega) hl ic_3 dL_law_421 dL_law_422 dL_law_423 dL_law_424 dL_law_425 ?_
  refine ldS E hw (k := 4) (by omega) hl ic_4 dL_law_426 dL_law_427 dL_law_428 dL_law_429 dL_law_430 ?_
  refine lawM E hw (As := [.int (xsc xs (i + 1)), .int (xsc xs (i + 2)), .int (xsc xs (i + 3)), .int (xsc xs (i + 4))]) (mk8_see E.hDM eM) ⟨cb_of 4 E.hts wl784 wl44 wl781 (by decide +kernel) ⟨(Nat.le_of_ble_eq_true rfl), (Nat.le_of_ble_eq_true rfl)⟩, E.hts _ wl782, E.hts _ wl783⟩ rfl hl.1 rfl (Nat.le_of_ble_eq_true rfl) dL_law_431 (fun H locs hw => ?_)
  exact lv_icmp_eq (tgt := 738) E.hx E.hb dL_law_434 (by decide) (fun _ => kk _ _ _ _ hI1 hw) (fun z => absurd rfl z)
set_option maxRecDepth 100000 in
set_option maxHeartbeats 4000000 in
theorem lc_close (E : LE p s m meth c D a a' g g' b L xs) (hw : LW D a a' g g' S M s H locs) {i n F : Nat} (hF : 1000000000 < F) (hi : i + 5 ≤ L) (hI : Inv n S M) (hn : n ≤ 512) (hl : lv_has ls 4 [(3, .int (nI i)), (0, .ref b), (1, .ref (a 0)), (2, .ref (a' 0))]) (kk : ∀ (S' : SS) (M' : SM) (H1 : Heap) (locs1 : List Loc), Inv (n + 1) S' M' → LW D a a' g g' S' M' s H1 locs1 → W p l e room_1 s m #[Value.ref b] below meth c H1 locs1 62 1975 Q (F0 m 738 ls [])) : W p l e room_1 s m #[Value.ref b] below meth c H locs 62 1975 Q (F0 m 439 ls []) := by
  obtain ⟨r, S1, M1, eK, eM, hI1⟩ := step_close (F := F) hF hI 
  refine lv_aload_n E.hx E.hb dL_law_439 rfl (lv_at hl 2 rfl) ?_
  refine lawK E hw (As := []) (mk7_close E.hDK eK) ⟨cb_of 0 E.hts wl417 wl35 wl414 (by decide +kernel) ⟨(Nat.le_of_ble_eq_true rfl), (Nat.le_of_ble_eq_true rfl)⟩, E.hts _ wl415, E.hts _ wl416⟩ rfl hl.1 rfl (Nat.le_of_ble_eq_true rfl) dL_law_440 (fun H locs hw => ?_)
  refine lv_aload_n E.hx E.hb dL_law_443 rfl (lv_at hl 3 rfl) ?_
  refine lawM E hw (As := []) (mk8_close E.hDM eM) ⟨cb_of 0 E.hts wl826 wl44 wl823 (by decide +kernel) ⟨(Nat.le_of_ble_eq_true rfl), (Nat.le_of_ble_eq_true rfl)⟩, E.hts _ wl824, E.hts _ wl825⟩ rfl hl.1 rfl (Nat.le_of_ble_eq_true rfl) dL_law_444 (fun H locs hw => ?_)
  exact lv_icmp_eq (tgt := 738) E.hx E.hb dL_law_447 (by decide) (fun _ => kk _ _ _ _ hI1 hw) (fun z => absurd rfl z)
set_option maxRecDepth 100000 in
set_option maxHeartbeats 4000000 in
theorem lc_error (E : LE p s m meth c D a a' g g' b L xs) (hw : LW D a a' g g' S M s H locs) {i n F : Nat} (hF : 1000000000 < F) (hi : i + 5 ≤ L) (hI : Inv n S M) (hn : n ≤ 512) (hl : lv_has ls 4 [(3, .int (nI i)), (0, .ref b), (1, .ref (a 0)), (2, .ref (a' 0))]) (kk : ∀ (S' : SS) (M' : SM) (H1 : Heap) (locs1 : List Loc), Inv (n + 1) S' M' → LW D a a' g g' S' M' s H1 locs1 → W p l e room_1 s m #[Value.ref b] below meth c H1 locs1 62 1975 Q (F0 m 738 ls [])) : W p l e room_1 s m #[Value.ref b] below meth c H locs 62 1975 Q (F0 m 452 ls []) := by
  obtain ⟨r, eK, eM⟩ := step_error (F := F) hF hI (xsc xs (i + 1)) (xsc xs (i + 2))
  refine lv_aload_n E.hx E.hb dL_law_452 rfl (lv_at hl 2 rfl) ?_
  refine ldS E hw (k := 1) (by omega) hl ic_1 dL_law_453 dL_law_454 dL_law_455 dL_law_456 dL_law_457 ?_
  refine ldS E hw (k := 2) (by omega) hl ic_2 dL_law_458 dL_law_459 dL_law_460 dL_law_461 dL_law_462 ?_
  refine lawK E hw (As := [.int (xsc xs (i + 1)), .int (xsc xs (i + 2))]) (mk7_error E.hDK eK) ⟨cb_of 2 E.hts wl464 wl35 wl461 (by decide +kernel) ⟨(Nat.le_of_ble_eq_true rfl), (Nat.le_of_ble_eq_true rfl)⟩, E.hts _ wl462, E.hts _ wl463⟩ rfl hl.1 rfl (Nat.le_of_ble_eq_true rfl) dL_law_463 (fun H locs hw => ?_)
  refine lv_aload_n E.hx E.hb dL_law_466 rfl (lv_at hl 3 rfl) ?_
  refine ldS E hw (k := 1) (by omega) hl ic_1 dL_law_467 dL_law_468 dL_law_469 dL_law_470 dL_law_471 ?_
  refine ldS E hw (k := 2) (by omega) hl ic_2 dL_law_472 dL_law_473 dL_law_474 dL_law_475 dL_law_476 ?_
  refine lawM E hw (As := [.int (xsc xs (i + 1)), .int (xsc xs (i + 2))]) (mk8_error E.hDM eM) ⟨cb_of 2 E.hts wl788 wl44 wl785 (by decide +kernel) ⟨(Nat.le_of_ble_eq_true rfl), (Nat.le_of_ble_eq_true rfl)⟩, E.hts _ wl786, E.hts _ wl787⟩ rfl hl.1 rfl (Nat.le_of_ble_eq_true rfl) dL_law_477 (fun H locs hw => ?_)
  exact lv_icmp_eq (tgt := 738) E.hx E.hb dL_law_480 (by decide) (fun _ => kk _ _ _ _ hI.up hw) (fun z => absurd rfl z)
set_option maxRecDepth 100000 in
set_option maxHeartbeats 4000000 in
theorem lc_whose (E : LE p s m meth c D a a' g g' b L xs) (hw : LW D a a' g g' S M s H locs) {i n F : Nat} (hF : 1000000000 < F) (hi : i + 5 ≤ L) (hI : Inv n S M) (hn : n ≤ 512) (hl : lv_has ls 4 [(3, .int (nI i)), (0, .ref b), (1, .ref (a 0)), (2, .ref (a' 0))]) (kk : ∀ (S' : SS) (M' : SM) (H1 : Heap) (locs1 : List Loc), Inv (n + 1) S' M' → LW D a a' g g' S' M' s H1 locs1 → W p l e room_1 s m #[Value.ref b] below meth c H1 locs1 62 1975 Q (F0 m 738 ls [])) : W p l e room_1 s m #[Value.ref b] below meth c H locs 62 1975 Q (F0 m 485 ls []) := by
  obtain ⟨r, S1, M1, eK, eM, hI1⟩ := step_whose (F := F) hF hI (xsc xs (i + 1))
  refine lv_aload_n E.hx E.hb dL_law_485 rfl (lv_at hl 2 rfl) ?_
  refine ldS E hw (k := 1) (by omega) hl ic_1 dL_law_486 dL_law_487 dL_law_488 dL_law_489 dL_law_490 ?_
  refine lawK E hw (As := [.int (xsc xs (i + 1))]) (mk7_whose E.hDK eK) ⟨cb_of 1 E.hts wl481 wl35 wl478 (by decide +kernel) ⟨(Nat.le_of_ble_eq_true rfl), (Nat.le_of_ble_eq_true rfl)⟩, E.hts _ wl479, E.hts _ wl480⟩ rfl hl.1 rfl (Nat.le_of_ble_eq_true rfl) dL_law_491 (fun H locs hw => ?_)
  refine lv_aload_n E.hx E.hb dL_law_494 rfl (lv_at hl 3 rfl) ?_
  refine ldS E hw (k := 1) (by omega) hl ic_1 dL_law_495 dL_law_496 dL_law_497 dL_law_498 dL_law_499 ?_
  refine lawM E hw (As := [.int (xsc xs (i + 1))]) (mk8_whose E.hDM eM) ⟨cb_of 1 E.hts wl798 wl44 wl795 (by decide +kernel) ⟨(Nat.le_of_ble_eq_true rfl), (Nat.le_of_ble_eq_true rfl)⟩, E.hts _ wl796, E.hts _ wl797⟩ rfl hl.1 rfl (Nat.le_of_ble_eq_true rfl) dL_law_500 (fun H locs hw => ?_)
  exact lv_icmp_eq (tgt := 738) E.hx E.hb dL_law_503 (by decide) (fun _ => kk _ _ _ _ hI1 hw) (fun z => absurd rfl z)
end
