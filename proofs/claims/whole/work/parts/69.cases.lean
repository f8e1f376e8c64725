section CASES
variable {l : Launch} {Γ : gG} {ad adM : Nat → Nat} {cD dA : Nat} {p : Program} {e : Env} {R : Room} {s : State} {m : MethodId} {args : Array Value} {below : List Frame} {meth : Method} {c : Code} {H : Heap} {locs : List Loc} {cells slots : Nat} {Q : State → Prop} {ls : Array Slot} {σ τ : gSt} {f : Nat → UInt64} {b L n : Nat} {xs : Nat → Int32}
/-- what follows a case -/
def lwJ (l : Launch) (Γ : gG) (ad adM : Nat → Nat) (cD dA : Nat) (p : Program) (e : Env) (R : Room) (s : State) (m : MethodId) (args : Array Value) (below : List Frame) (meth : Method) (c : Code) (cells slots : Nat) (Q : State → Prop) (b n : Nat) : Prop :=
  ∀ (ad' : Nat → Nat) (σ τ : gSt) (f : Nat → UInt64) (H : Heap) (locs : List Loc) (ls : Array Slot), (∀ k, k < 202 → ad' k = ad k) → lwS Γ ad' adM cD dA σ τ f s H locs → RR σ τ → lv_has ls 9 (L6 b (ad 0) (adM 0) (ad 201) dA n) → W p l e R s m args below meth c H locs (cells + 3) (slots + 18) Q (F0 m 1872 ls [])
theorem L_bool (x : Int32) : (if x = 0 then (0 : Int32) else 1) = 0 ∨ (if x = 0 then (0 : Int32) else 1) = 1 := by
  by_cases h : x = 0
  · exact Or.inl (if_pos h)
  · exact Or.inr (if_neg h)
theorem L_boolW {cc : ByteArray} {pc : Nat} {rest : List Value} {x : Int32} (hx : p.tables.exec = Jvm.exec) (hb : c.code = cc) (d0 : decode cc pc = .ok (.ifCond .eq 7, 3)) (d1 : decode cc (pc + 3) = .ok (.iconst 1, 1)) (d2 : decode cc (pc + 3 + 1) = .ok (.goto 4, 3)) (d3 : decode cc (pc + 7) = .ok (.iconst 0, 1))
    (kk : W p l e R s m args below meth c H locs cells slots Q (F0 m (pc + 8) ls (.int (if x = 0 then 0 else 1) :: rest))) : W p l e R s m args below meth c H locs cells slots Q (F0 m pc ls (.int x :: rest)) := by
  refine lv_if_eq (tgt := pc + 7) hx hb d0 (by push_cast; omega) (fun h => ?_) (fun h => ?_)
  · rw [if_pos h] at kk
    exact lv_iconst (v := 0) hx hb d3 rfl kk
  · rw [if_neg h] at kk
    refine lv_iconst (v := 1) hx hb d1 rfl ?_
    exact lv_goto (tgt := pc + 8) hx hb d2 (by push_cast; omega) kk
theorem L_char (x : Int32) : 0 ≤ (x.toUInt32 % 65536).toInt32 ∧ (x.toUInt32 % 65536).toInt32 ≤ 65535 := by
  have h : (x.toUInt32 % 65536).toInt32 = nI ((x.toUInt32 % 65536).toNat) := by
    apply Int32.toInt_inj.mp
    have h2 : (x.toUInt32 % 65536).toNat < 65536 := by
      rw [UInt32.toNat_mod]
      exact Nat.mod_lt _ (by decide)
    rw [nI_toInt (by omega)]
    show (x.toUInt32 % 65536).toBitVec.toInt = _
    rw [BitVec.toInt_eq_toNat_of_lt]
    · rfl
    · show 2 * (x.toUInt32 % 65536).toNat < 2 ^ 32
      omega
  have h2 : (x.toUInt32 % 65536).toNat < 65536 := by
    rw [UInt32.toNat_mod]
    exact Nat.mod_lt _ (by decide)
  rw [h, Int32.le_iff_toInt_le, Int32.le_iff_toInt_le, nI_toInt (by omega)]
  have e1 : (0 : Int32).toInt = 0 := rfl
  have e2 : (65535 : Int32).toInt = 65535 := rfl
  omega
theorem chL_film : gCH yL_film cL_film 4 (some .int) [(0, 9, 12, 13), (0, 9, 15, 15)] 3 := ⟨⟨by decide +kernel, by decide +kernel, by decide +kernel⟩, cwL_film, L_ini, gq 343 (by decide +kernel) rfl⟩
set_option maxRecDepth 100000 in
set_option maxHeartbeats 4000000 in
theorem case_0 (hl0 : l.stackTraces = false) (X : lwX Γ cD p s m args meth c) (A : lwA ad adM dA s.heap.size) (S : lwS Γ ad adM cD dA σ τ f s H locs) (hR : lwR R cells slots) (R0 : RR σ τ) (hX : va_X b L xs s s.heap) (hbl : b < s.heap.size) (hn : 6 * n + 6 ≤ L) (hL3 : L ≤ 3072) (hl : lv_has ls 9 (L6 b (ad 0) (adM 0) (ad 201) dA n)) (J : lwJ l Γ ad adM cD dA p e R s m args below meth c cells slots Q b n) : W p l e R s m args below meth c H locs cells slots Q (F0 m 164 ls []) := by
  have hx := X.1
  have hb := X.2.1
  obtain ⟨x, r, σ', r', τ', e1, e2, cr⟩ := call_film R0 (xs (6 * n + 1))
  obtain ⟨i, hi, hLx, ht, R2, hr⟩ := cr.out rfl (by decide)
  refine lv_aload_n hx hb dL_law_164 rfl (lv_at hl 1 rfl) ?_
  refine L_arg (i0 := 0) (i5 := 5) (k := 1) X S hX hbl hn hL3 hl rfl rfl (by decide) rfl dL_law_165 dL_law_166 dL_law_168 dL_law_169 dL_law_170 rfl ?_
  refine lv_aload_n hx hb dL_law_171 rfl (lv_at hl 3 rfl) ?_
  refine L_helper X A S (As := [.ref (ad 0), .int (xs (6 * n + 1)), .ref (ad 201)]) (c_L_film l hl0 e1 hi hLx H.size) chL_film mlL_111 rfl rfl hl.1 (by decide) (L_rm hR ⟨rfl, rfl⟩ (by decide) (by decide) (by omega) (by omega)) dL_law_172 (fun H locs S => ?_)
  refine lv_istore hx hb dL_law_175 hl (by decide) rfl (fun ls hl => ?_)
  refine lv_aload_n hx hb dL_law_177 rfl (lv_at hl 3 rfl) ?_
  refine L_arg (i0 := 1) (i5 := 6) (k := 1) X S hX hbl hn hL3 hl rfl rfl (by decide) rfl dL_law_178 dL_law_179 dL_law_181 dL_law_182 dL_law_183 rfl ?_
  refine L_modi X A S (As := [.int (xs (6 * n + 1))]) (c_X10_film l (Nat.le_refl 8) e2) cvX10_film mlL_116 rfl rfl rfl hl.1 (by decide) (L_rm hR ⟨rfl, rfl⟩ (by decide) (by decide) (by omega) (by omega)) dL_law_184 (fun H locs S => ?_)
  exact L_tail X A S hR ht hr hl (by omega) (by omega) dL_law_187 dL_law_189 dL_law_190 dL_law_193 dL_law_195 dL_law_200 dL_law_202 dL_law_205 dL_law_206 dL_law_207 dL_law_208 dL_law_210 dL_law_211 dL_law_212 dL_law_217 rfl (fun H locs ls S hl => J ad _ _ _ _ _ ls (fun _ _ => rfl) S R2 hl)
theorem chL_set : gCH yL_set cL_set 5 (some .int) [(0, 10, 13, 13)] 4 := ⟨⟨by decide +kernel, by decide +kernel, by decide +kernel⟩, cwL_set, L_ini, gq 488 (by decide +kernel) rfl⟩
set_option maxRecDepth 100000 in
set_option maxHeartbeats 4000000 in
theorem case_1 (hl0 : l.stackTraces = false) (X : lwX Γ cD p s m args meth c) (A : lwA ad adM dA s.heap.size) (S : lwS Γ ad adM cD dA σ τ f s H locs) (hR : lwR R cells slots) (R0 : RR σ τ) (hX : va_X b L xs s s.heap) (hbl : b < s.heap.size) (hn : 6 * n + 6 ≤ L) (hL3 : L ≤ 3072) (hl : lv_has ls 9 (L6 b (ad 0) (adM 0) (ad 201) dA n)) (J : lwJ l Γ ad adM cD dA p e R s m args below meth c cells slots Q b n) : W p l e R s m args below meth c H locs cells slots Q (F0 m 220 ls []) := by
  have hx := X.1
  have hb := X.2.1
  obtain ⟨x, r, σ', r', τ', e1, e2, cr⟩ := call_set R0 (xs (6 * n + 1)) (xs (6 * n + 2))
  obtain ⟨i, hi, hLx, ht, R2, hr⟩ := cr.out rfl (by decide)
  refine lv_aload_n hx hb dL_law_220 rfl (lv_at hl 1 rfl) ?_
  refine L_arg (i0 := 0) (i5 := 5) (k := 1) X S hX hbl hn hL3 hl rfl rfl (by decide) rfl dL_law_221 dL_law_222 dL_law_224 dL_law_225 dL_law_226 rfl ?_
  refine L_arg (i0 := 0) (i5 := 5) (k := 2) X S hX hbl hn hL3 hl rfl rfl (by decide) rfl dL_law_227 dL_law_228 dL_law_230 dL_law_231 dL_law_232 rfl ?_
  refine lv_aload_n hx hb dL_law_233 rfl (lv_at hl 3 rfl) ?_
  refine L_helper X A S (As := [.ref (ad 0), .int (xs (6 * n + 1)), .int (xs (6 * n + 2)), .ref (ad 201)]) (c_L_set l hl0 e1 hi hLx H.size) chL_set mlL_120 rfl rfl hl.1 (by decide) (L_rm hR ⟨rfl, rfl⟩ (by decide) (by decide) (by omega) (by omega)) dL_law_234 (fun H locs S => ?_)
  refine lv_istore hx hb dL_law_237 hl (by decide) rfl (fun ls hl => ?_)
  refine lv_aload_n hx hb dL_law_239 rfl (lv_at hl 3 rfl) ?_
  refine L_arg (i0 := 1) (i5 := 6) (k := 1) X S hX hbl hn hL3 hl rfl rfl (by decide) rfl dL_law_240 dL_law_241 dL_law_243 dL_law_244 dL_law_245 rfl ?_
  refine L_arg (i0 := 1) (i5 := 6) (k := 2) X S hX hbl hn hL3 hl rfl rfl (by decide) rfl dL_law_246 dL_law_247 dL_law_249 dL_law_250 dL_law_251 rfl ?_
  refine L_modi X A S (As := [.int (xs (6 * n + 1)), .int (xs (6 * n + 2))]) (c_X10_set l (Nat.le_refl 8) e2) cvX10_set mlL_123 rfl rfl rfl hl.1 (by decide) (L_rm hR ⟨rfl, rfl⟩ (by decide) (by decide) (by omega) (by omega)) dL_law_252 (fun H locs S => ?_)
  exact L_tail X A S hR ht hr hl (by omega) (by omega) dL_law_255 dL_law_257 dL_law_258 dL_law_261 dL_law_263 dL_law_268 dL_law_270 dL_law_273 dL_law_274 dL_law_275 dL_law_276 dL_law_278 dL_law_279 dL_law_280 dL_law_285 rfl (fun H locs ls S hl => J ad _ _ _ _ _ ls (fun _ _ => rfl) S R2 hl)
theorem chL_cut : gCH yL_cut cL_cut 5 (some .int) [(0, 10, 13, 25), (0, 10, 17, 27)] 4 := ⟨⟨by decide +kernel, by decide +kernel, by decide +kernel⟩, cwL_cut, L_ini, gq 515 (by decide +kernel) rfl⟩
set_option maxRecDepth 100000 in
set_option maxHeartbeats 4000000 in
theorem case_2 (hl0 : l.stackTraces = false) (X : lwX Γ cD p s m args meth c) (A : lwA ad adM dA s.heap.size) (S : lwS Γ ad adM cD dA σ τ f s H locs) (hR : lwR R cells slots) (R0 : RR σ τ) (hX : va_X b L xs s s.heap) (hbl : b < s.heap.size) (hn : 6 * n + 6 ≤ L) (hL3 : L ≤ 3072) (hl : lv_has ls 9 (L6 b (ad 0) (adM 0) (ad 201) dA n)) (J : lwJ l Γ ad adM cD dA p e R s m args below meth c cells slots Q b n) : W p l e R s m args below meth c H locs cells slots Q (F0 m 288 ls []) := by
  have hx := X.1
  have hb := X.2.1
  obtain ⟨x, r, σ', r', τ', e1, e2, cr⟩ := call_cut R0 (xs (6 * n + 1)) (L_bool (xs (6 * n + 2)))
  obtain ⟨i, hi, hLx, ht, R2, hr⟩ := cr.out rfl (by decide)
  refine lv_aload_n hx hb dL_law_288 rfl (lv_at hl 1 rfl) ?_
  refine L_arg (i0 := 0) (i5 := 5) (k := 1) X S hX hbl hn hL3 hl rfl rfl (by decide) rfl dL_law_289 dL_law_290 dL_law_292 dL_law_293 dL_law_294 rfl ?_
  refine L_arg (i0 := 0) (i5 := 5) (k := 2) X S hX hbl hn hL3 hl rfl rfl (by decide) rfl dL_law_295 dL_law_296 dL_law_298 dL_law_299 dL_law_300 rfl ?_
  refine L_boolW hx hb dL_law_301 dL_law_304 dL_law_305 dL_law_308 ?_
  refine lv_aload_n hx hb dL_law_309 rfl (lv_at hl 3 rfl) ?_
  refine L_helper X A S (As := [.ref (ad 0), .int (xs (6 * n + 1)), .int (if xs (6 * n + 2) = 0 then 0 else 1), .ref (ad 201)]) (c_L_cut l hl0 e1 hi hLx H.size) chL_cut mlL_124 rfl rfl hl.1 (by decide) (L_rm hR ⟨rfl, rfl⟩ (by decide) (by decide) (by omega) (by omega)) dL_law_310 (fun H locs S => ?_)
  refine lv_istore hx hb dL_law_313 hl (by decide) rfl (fun ls hl => ?_)
  refine lv_aload_n hx hb dL_law_315 rfl (lv_at hl 3 rfl) ?_
  refine L_arg (i0 := 1) (i5 := 6) (k := 1) X S hX hbl hn hL3 hl rfl rfl (by decide) rfl dL_law_316 dL_law_317 dL_law_319 dL_law_320 dL_law_321 rfl ?_
  refine L_arg (i0 := 1) (i5 := 6) (k := 2) X S hX hbl hn hL3 hl rfl rfl (by decide) rfl dL_law_322 dL_law_323 dL_law_325 dL_law_326 dL_law_327 rfl ?_
  refine L_boolW hx hb dL_law_328 dL_law_331 dL_law_332 dL_law_335 ?_
  refine L_modi X A S (As := [.int (xs (6 * n + 1)), .int (if xs (6 * n + 2) = 0 then 0 else 1)]) (c_X10_cut l (Nat.le_refl 8) e2) cvX10_cut mlL_127 rfl rfl rfl hl.1 (by decide) (L_rm hR ⟨rfl, rfl⟩ (by decide) (by decide) (by omega) (by omega)) dL_law_336 (fun H locs S => ?_)
  exact L_tail X A S hR ht hr hl (by omega) (by omega) dL_law_339 dL_law_341 dL_law_342 dL_law_345 dL_law_347 dL_law_352 dL_law_354 dL_law_357 dL_law_358 dL_law_359 dL_law_360 dL_law_362 dL_law_363 dL_law_364 dL_law_369 rfl (fun H locs ls S hl => J ad _ _ _ _ _ ls (fun _ _ => rfl) S R2 hl)
theorem chL_number : gCH yL_number cL_number 4 (some .int) [(0, 9, 12, 13)] 3 := ⟨⟨by decide +kernel, by decide +kernel, by decide +kernel⟩, cwL_number, L_ini, gq 600 (by decide +kernel) rfl⟩
set_option maxRecDepth 100000 in
set_option maxHeartbeats 4000000 in
theorem case_3 (hl0 : l.stackTraces = false) (X : lwX Γ cD p s m args meth c) (A : lwA ad adM dA s.heap.size) (S : lwS Γ ad adM cD dA σ τ f s H locs) (hR : lwR R cells slots) (R0 : RR σ τ) (hX : va_X b L xs s s.heap) (hbl : b < s.heap.size) (hn : 6 * n + 6 ≤ L) (hL3 : L ≤ 3072) (hl : lv_has ls 9 (L6 b (ad 0) (adM 0) (ad 201) dA n)) (J : lwJ l Γ ad adM cD dA p e R s m args below meth c cells slots Q b n) : W p l e R s m args below meth c H locs cells slots Q (F0 m 372 ls []) := by
  have hx := X.1
  have hb := X.2.1
  obtain ⟨x, r, σ', r', τ', e1, e2, cr⟩ := call_number R0 (xs (6 * n + 1))
  obtain ⟨i, hi, hLx, ht, R2, hr⟩ := cr.out rfl (by decide)
  refine lv_aload_n hx hb dL_law_372 rfl (lv_at hl 1 rfl) ?_
  refine L_arg (i0 := 0) (i5 := 5) (k := 1) X S hX hbl hn hL3 hl rfl rfl (by decide) rfl dL_law_373 dL_law_374 dL_law_376 dL_law_377 dL_law_378 rfl ?_
  refine lv_aload_n hx hb dL_law_379 rfl (lv_at hl 3 rfl) ?_
  refine L_helper X A S (As := [.ref (ad 0), .int (xs (6 * n + 1)), .ref (ad 201)]) (c_L_number l hl0 e1 hi hLx H.size) chL_number mlL_128 rfl rfl hl.1 (by decide) (L_rm hR ⟨rfl, rfl⟩ (by decide) (by decide) (by omega) (by omega)) dL_law_380 (fun H locs S => ?_)
  refine lv_istore hx hb dL_law_383 hl (by decide) rfl (fun ls hl => ?_)
  refine lv_aload_n hx hb dL_law_385 rfl (lv_at hl 3 rfl) ?_
  refine L_arg (i0 := 1) (i5 := 6) (k := 1) X S hX hbl hn hL3 hl rfl rfl (by decide) rfl dL_law_386 dL_law_387 dL_law_389 dL_law_390 dL_law_391 rfl ?_
  refine L_modi X A S (As := [.int (xs (6 * n + 1))]) (c_X10_number l (Nat.le_refl 8) e2) cvX10_number mlL_130 rfl rfl rfl hl.1 (by decide) (L_rm hR ⟨rfl, rfl⟩ (by decide) (by decide) (by omega) (by omega)) dL_law_392 (fun H locs S => ?_)
  exact L_tail X A S hR ht hr hl (by omega) (by omega) dL_law_395 dL_law_397 dL_law_398 dL_law_401 dL_law_403 dL_law_408 dL_law_410 dL_law_413 dL_law_414 dL_law_415 dL_law_416 dL_law_418 dL_law_419 dL_law_420 dL_law_425 rfl (fun H locs ls S hl => J ad _ _ _ _ _ ls (fun _ _ => rfl) S R2 hl)
theorem chL_shot : gCH yL_shot cL_shot 4 (some .int) [(0, 9, 12, 25)] 3 := ⟨⟨by decide +kernel, by decide +kernel, by decide +kernel⟩, cwL_shot, L_ini, gq 711 (by decide +kernel) rfl⟩
set_option maxRecDepth 100000 in
set_option maxHeartbeats 4000000 in
theorem case_4 (hl0 : l.stackTraces = false) (X : lwX Γ cD p s m args meth c) (A : lwA ad adM dA s.heap.size) (S : lwS Γ ad adM cD dA σ τ f s H locs) (hR : lwR R cells slots) (R0 : RR σ τ) (hX : va_X b L xs s s.heap) (hbl : b < s.heap.size) (hn : 6 * n + 6 ≤ L) (hL3 : L ≤ 3072) (hl : lv_has ls 9 (L6 b (ad 0) (adM 0) (ad 201) dA n)) (J : lwJ l Γ ad adM cD dA p e R s m args below meth c cells slots Q b n) : W p l e R s m args below meth c H locs cells slots Q (F0 m 428 ls []) := by
  have hx := X.1
  have hb := X.2.1
  obtain ⟨x, r, σ', r', τ', e1, e2, cr⟩ := call_shot R0 (xs (6 * n + 1))
  obtain ⟨i, hi, hLx, ht, R2, hr⟩ := cr.out rfl (by decide)
  refine lv_aload_n hx hb dL_law_428 rfl (lv_at hl 1 rfl) ?_
  refine L_arg (i0 := 0) (i5 := 5) (k := 1) X S hX hbl hn hL3 hl rfl rfl (by decide) rfl dL_law_429 dL_law_430 dL_law_432 dL_law_433 dL_law_434 rfl ?_
  refine lv_aload_n hx hb dL_law_435 rfl (lv_at hl 3 rfl) ?_
  refine L_helper X A S (As := [.ref (ad 0), .int (xs (6 * n + 1)), .ref (ad 201)]) (c_L_shot l hl0 e1 hi hLx H.size) chL_shot mlL_131 rfl rfl hl.1 (by decide) (L_rm hR ⟨rfl, rfl⟩ (by decide) (by decide) (by omega) (by omega)) dL_law_436 (fun H locs S => ?_)
  refine lv_istore hx hb dL_law_439 hl (by decide) rfl (fun ls hl => ?_)
  refine lv_aload_n hx hb dL_law_441 rfl (lv_at hl 3 rfl) ?_
  refine L_arg (i0 := 1) (i5 := 6) (k := 1) X S hX hbl hn hL3 hl rfl rfl (by decide) rfl dL_law_442 dL_law_443 dL_law_445 dL_law_446 dL_law_447 rfl ?_
  refine L_modi X A S (As := [.int (xs (6 * n + 1))]) (c_X10_shot l (Nat.le_refl 8) e2) cvX10_shot mlL_133 rfl rfl rfl hl.1 (by decide) (L_rm hR ⟨rfl, rfl⟩ (by decide) (by decide) (by omega) (by omega)) dL_law_448 (fun H locs S => ?_)
  exact L_tail X A S hR ht hr hl (by omega) (by omega) dL_law_451 dL_law_453 dL_law_454 dL_law_457 dL_law_459 dL_law_464 dL_law_466 dL_law_469 dL_law_470 dL_law_471 dL_law_472 dL_law_474 dL_law_475 dL_law_476 dL_law_481 rfl (fun H locs ls S hl => J ad _ _ _ _ _ ls (fun _ _ => rfl) S R2 hl)
theorem chL_feed : gCH yL_feed cL_feed 4 (some .int) [(0, 9, 12, 27)] 3 := ⟨⟨by decide +kernel, by decide +kernel, by decide +kernel⟩, cwL_feed, L_ini, gq 724 (by decide +kernel) rfl⟩
set_option maxRecDepth 100000 in
set_option maxHeartbeats 4000000 in
theorem case_5 (hl0 : l.stackTraces = false) (X : lwX Γ cD p s m args meth c) (A : lwA ad adM dA s.heap.size) (S : lwS Γ ad adM cD dA σ τ f s H locs) (hR : lwR R cells slots) (R0 : RR σ τ) (hX : va_X b L xs s s.heap) (hbl : b < s.heap.size) (hn : 6 * n + 6 ≤ L) (hL3 : L ≤ 3072) (hl : lv_has ls 9 (L6 b (ad 0) (adM 0) (ad 201) dA n)) (J : lwJ l Γ ad adM cD dA p e R s m args below meth c cells slots Q b n) : W p l e R s m args below meth c H locs cells slots Q (F0 m 484 ls []) := by
  have hx := X.1
  have hb := X.2.1
  obtain ⟨x, r, σ', r', τ', e1, e2, cr⟩ := call_feed R0 (L_char (xs (6 * n + 1)))
  obtain ⟨i, hi, hLx, ht, R2, hr⟩ := cr.out rfl (by decide)
  refine lv_aload_n hx hb dL_law_484 rfl (lv_at hl 1 rfl) ?_
  refine L_arg (i0 := 0) (i5 := 5) (k := 1) X S hX hbl hn hL3 hl rfl rfl (by decide) rfl dL_law_485 dL_law_486 dL_law_488 dL_law_489 dL_law_490 rfl ?_
  refine lv_i2c hx hb dL_law_491 rfl ?_
  refine lv_aload_n hx hb dL_law_492 rfl (lv_at hl 3 rfl) ?_
  refine L_helper X A S (As := [.ref (ad 0), .int ((xs (6 * n + 1)).toUInt32 % 65536).toInt32, .ref (ad 201)]) (c_L_feed l hl0 e1 hi hLx H.size) chL_feed mlL_134 rfl rfl hl.1 (by decide) (L_rm hR ⟨rfl, rfl⟩ (by decide) (by decide) (by omega) (by omega)) dL_law_493 (fun H locs S => ?_)
  refine lv_istore hx hb dL_law_496 hl (by decide) rfl (fun ls hl => ?_)
  refine lv_aload_n hx hb dL_law_498 rfl (lv_at hl 3 rfl) ?_
  refine L_arg (i0 := 1) (i5 := 6) (k := 1) X S hX hbl hn hL3 hl rfl rfl (by decide) rfl dL_law_499 dL_law_500 dL_law_502 dL_law_503 dL_law_504 rfl ?_
  refine lv_i2c hx hb dL_law_505 rfl ?_
  refine L_modi X A S (As := [.int ((xs (6 * n + 1)).toUInt32 % 65536).toInt32]) (c_X10_feed l (Nat.le_refl 8) e2) cvX10_feed mlL_137 rfl rfl rfl hl.1 (by decide) (L_rm hR ⟨rfl, rfl⟩ (by decide) (by decide) (by omega) (by omega)) dL_law_506 (fun H locs S => ?_)
  exact L_tail X A S hR ht hr hl (by omega) (by omega) dL_law_509 dL_law_511 dL_law_512 dL_law_515 dL_law_517 dL_law_522 dL_law_524 dL_law_527 dL_law_528 dL_law_529 dL_law_530 dL_law_532 dL_law_533 dL_law_534 dL_law_539 rfl (fun H locs ls S hl => J ad _ _ _ _ _ ls (fun _ _ => rfl) S R2 hl)
theorem chL_add : gCH yL_add cL_add 7 (some .int) [(0, 14, 17, 25), (0, 14, 21, 13), (0, 14, 25, 15)] 6 := ⟨⟨by decide +kernel, by decide +kernel, by decide +kernel⟩, cwL_add, L_ini, gq 736 (by decide +kernel) rfl⟩
set_option maxRecDepth 100000 in
set_option maxHeartbeats 4000000 in
theorem case_6 (hl0 : l.stackTraces = false) (X : lwX Γ cD p s m args meth c) (A : lwA ad adM dA s.heap.size) (S : lwS Γ ad adM cD dA σ τ f s H locs) (hR : lwR R cells slots) (R0 : RR σ τ) (hX : va_X b L xs s s.heap) (hbl : b < s.heap.size) (hn : 6 * n + 6 ≤ L) (hL3 : L ≤ 3072) (hl : lv_has ls 9 (L6 b (ad 0) (adM 0) (ad 201) dA n)) (J : lwJ l Γ ad adM cD dA p e R s m args below meth c cells slots Q b n) : W p l e R s m args below meth c H locs cells slots Q (F0 m 542 ls []) := by
  have hx := X.1
  have hb := X.2.1
  obtain ⟨x, r, σ', r', τ', e1, e2, cr⟩ := call_add R0 (xs (6 * n + 1)) (xs (6 * n + 2)) (xs (6 * n + 3)) (xs (6 * n + 4))
  obtain ⟨i, hi, hLx, ht, R2, hr⟩ := cr.out rfl (by decide)
  refine lv_aload_n hx hb dL_law_542 rfl (lv_at hl 1 rfl) ?_
  refine L_arg (i0 := 0) (i5 := 5) (k := 1) X S hX hbl hn hL3 hl rfl rfl (by decide) rfl dL_law_543 dL_law_544 dL_law_546 dL_law_547 dL_law_548 rfl ?_
  refine L_arg (i0 := 0) (i5 := 5) (k := 2) X S hX hbl hn hL3 hl rfl rfl (by decide) rfl dL_law_549 dL_law_550 dL_law_552 dL_law_553 dL_law_554 rfl ?_
  refine L_arg (i0 := 0) (i5 := 5) (k := 3) X S hX hbl hn hL3 hl rfl rfl (by decide) rfl dL_law_555 dL_law_556 dL_law_558 dL_law_559 dL_law_560 rfl ?_
  refine L_arg (i0 := 0) (i5 := 5) (k := 4) X S hX hbl hn hL3 hl rfl rfl (by decide) rfl dL_law_561 dL_law_562 dL_law_564 dL_law_565 dL_law_566 rfl ?_
  refine lv_aload_n hx hb dL_law_567 rfl (lv_at hl 3 rfl) ?_
  refine L_helper X A S (As := [.ref (ad 0), .int (xs (6 * n + 1)), .int (xs (6 * n + 2)), .int (xs (6 * n + 3)), .int (xs (6 * n + 4)), .ref (ad 201)]) (c_L_add l hl0 e1 hi hLx H.size) chL_add mlL_138 rfl rfl hl.1 (by decide) (L_rm hR ⟨rfl, rfl⟩ (by decide) (by decide) (by omega) (by omega)) dL_law_568 (fun H locs S => ?_)
  refine lv_istore hx hb dL_law_571 hl (by decide) rfl (fun ls hl => ?_)
  refine lv_aload_n hx hb dL_law_573 rfl (lv_at hl 3 rfl) ?_
  refine L_arg (i0 := 1) (i5 := 6) (k := 1) X S hX hbl hn hL3 hl rfl rfl (by decide) rfl dL_law_574 dL_law_575 dL_law_577 dL_law_578 dL_law_579 rfl ?_
  refine L_arg (i0 := 1) (i5 := 6) (k := 2) X S hX hbl hn hL3 hl rfl rfl (by decide) rfl dL_law_580 dL_law_581 dL_law_583 dL_law_584 dL_law_585 rfl ?_
  refine L_arg (i0 := 1) (i5 := 6) (k := 3) X S hX hbl hn hL3 hl rfl rfl (by decide) rfl dL_law_586 dL_law_587 dL_law_589 dL_law_590 dL_law_591 rfl ?_
  refine L_arg (i0 := 1) (i5 := 6) (k := 4) X S hX hbl hn hL3 hl rfl rfl (by decide) rfl dL_law_592 dL_law_593 dL_law_595 dL_law_596 dL_law_597 rfl ?_
  refine L_modi X A S (As := [.int (xs (6 * n + 1)), .int (xs (6 * n + 2)), .int (xs (6 * n + 3)), .int (xs (6 * n + 4))]) (c_X10_add l (Nat.le_refl 8) e2) cvX10_add mlL_141 rfl rfl rfl hl.1 (by decide) (L_rm hR ⟨rfl, rfl⟩ (by decide) (by decide) (by omega) (by omega)) dL_law_598 (fun H locs S => ?_)
  exact L_tail X A S hR ht hr hl (by omega) (by omega) dL_law_601 dL_law_603 dL_law_604 dL_law_607 dL_law_609 dL_law_614 dL_law_616 dL_law_619 dL_law_620 dL_law_621 dL_law_622 dL_law_624 dL_law_625 dL_law_626 dL_law_631 rfl (fun H locs ls S hl => J ad _ _ _ _ _ ls (fun _ _ => rfl) S R2 hl)
theorem chL_remove : gCH yL_remove cL_remove 5 (some .int) [(0, 10, 13, 25)] 4 := ⟨⟨by decide +kernel, by decide +kernel, by decide +kernel⟩, cwL_remove, L_ini, gq 809 (by decide +kernel) rfl⟩
set_option maxRecDepth 100000 in
set_option maxHeartbeats 4000000 in
theorem case_7 (hl0 : l.stackTraces = false) (X : lwX Γ cD p s m args meth c) (A : lwA ad adM dA s.heap.size) (S : lwS Γ ad adM cD dA σ τ f s H locs) (hR : lwR R cells slots) (R0 : RR σ τ) (hX : va_X b L xs s s.heap) (hbl : b < s.heap.size) (hn : 6 * n + 6 ≤ L) (hL3 : L ≤ 3072) (hl : lv_has ls 9 (L6 b (ad 0) (adM 0) (ad 201) dA n)) (J : lwJ l Γ ad adM cD dA p e R s m args below meth c cells slots Q b n) : W p l e R s m args below meth c H locs cells slots Q (F0 m 634 ls []) := by
  have hx := X.1
  have hb := X.2.1
  obtain ⟨x, r, σ', r', τ', e1, e2, cr⟩ := call_remove R0 (xs (6 * n + 1)) (xs (6 * n + 2))
  obtain ⟨i, hi, hLx, ht, R2, hr⟩ := cr.out rfl (by decide)
  refine lv_aload_n hx hb dL_law_634 rfl (lv_at hl 1 rfl) ?_
  refine L_arg (i0 := 0) (i5 := 5) (k := 1) X S hX hbl hn hL3 hl rfl rfl (by decide) rfl dL_law_635 dL_law_636 dL_law_638 dL_law_639 dL_law_640 rfl ?_
  refine L_arg (i0 := 0) (i5 := 5) (k := 2) X S hX hbl hn hL3 hl rfl rfl (by decide) rfl dL_law_641 dL_law_642 dL_law_644 dL_law_645 dL_law_646 rfl ?_
  refine lv_aload_n hx hb dL_law_647 rfl (lv_at hl 3 rfl) ?_
  refine L_helper X A S (As := [.ref (ad 0), .int (xs (6 * n + 1)), .int (xs (6 * n + 2)), .ref (ad 201)]) (c_L_remove l hl0 e1 hi hLx H.size) chL_remove mlL_142 rfl rfl hl.1 (by decide) (L_rm hR ⟨rfl, rfl⟩ (by decide) (by decide) (by omega) (by omega)) dL_law_648 (fun H locs S => ?_)
  refine lv_istore hx hb dL_law_651 hl (by decide) rfl (fun ls hl => ?_)
  refine lv_aload_n hx hb dL_law_653 rfl (lv_at hl 3 rfl) ?_
  refine L_arg (i0 := 1) (i5 := 6) (k := 1) X S hX hbl hn hL3 hl rfl rfl (by decide) rfl dL_law_654 dL_law_655 dL_law_657 dL_law_658 dL_law_659 rfl ?_
  refine L_arg (i0 := 1) (i5 := 6) (k := 2) X S hX hbl hn hL3 hl rfl rfl (by decide) rfl dL_law_660 dL_law_661 dL_law_663 dL_law_664 dL_law_665 rfl ?_
  refine L_modi X A S (As := [.int (xs (6 * n + 1)), .int (xs (6 * n + 2))]) (c_X10_remove l (Nat.le_refl 8) e2) cvX10_remove mlL_144 rfl rfl rfl hl.1 (by decide) (L_rm hR ⟨rfl, rfl⟩ (by decide) (by decide) (by omega) (by omega)) dL_law_666 (fun H locs S => ?_)
  exact L_tail X A S hR ht hr hl (by omega) (by omega) dL_law_669 dL_law_671 dL_law_672 dL_law_675 dL_law_677 dL_law_682 dL_law_684 dL_law_687 dL_law_688 dL_law_689 dL_law_690 dL_law_692 dL_law_693 dL_law_694 dL_law_699 rfl (fun H locs ls S hl => J ad _ _ _ _ _ ls (fun _ _ => rfl) S R2 hl)
theorem chL_move : gCH yL_move cL_move 7 (some .int) [(0, 14, 17, 25), (0, 14, 21, 15)] 6 := ⟨⟨by decide +kernel, by decide +kernel, by decide +kernel⟩, cwL_move, L_ini, gq 826 (by decide +kernel) rfl⟩
set_option maxRecDepth 100000 in
set_option maxHeartbeats 4000000 in
theorem case_8 (hl0 : l.stackTraces = false) (X : lwX Γ cD p s m args meth c) (A : lwA ad adM dA s.heap.size) (S : lwS Γ ad adM cD dA σ τ f s H locs) (hR : lwR R cells slots) (R0 : RR σ τ) (hX : va_X b L xs s s.heap) (hbl : b < s.heap.size) (hn : 6 * n + 6 ≤ L) (hL3 : L ≤ 3072) (hl : lv_has ls 9 (L6 b (ad 0) (adM 0) (ad 201) dA n)) (J : lwJ l Γ ad adM cD dA p e R s m args below meth c cells slots Q b n) : W p l e R s m args below meth c H locs cells slots Q (F0 m 702 ls []) := by
  have hx := X.1
  have hb := X.2.1
  obtain ⟨x, r, σ', r', τ', e1, e2, cr⟩ := call_move R0 (xs (6 * n + 1)) (xs (6 * n + 2)) (xs (6 * n + 3)) (xs (6 * n + 4))
  obtain ⟨i, hi, hLx, ht, R2, hr⟩ := cr.out rfl (by decide)
  refine lv_aload_n hx hb dL_law_702 rfl (lv_at hl 1 rfl) ?_
  refine L_arg (i0 := 0) (i5 := 5) (k := 1) X S hX hbl hn hL3 hl rfl rfl (by decide) rfl dL_law_703 dL_law_704 dL_law_706 dL_law_707 dL_law_708 rfl ?_
  refine L_arg (i0 := 0) (i5 := 5) (k := 2) X S hX hbl hn hL3 hl rfl rfl (by decide) rfl dL_law_709 dL_law_710 dL_law_712 dL_law_713 dL_law_714 rfl ?_
  refine L_arg (i0 := 0) (i5 := 5) (k := 3) X S hX hbl hn hL3 hl rfl rfl (by decide) rfl dL_law_715 dL_law_716 dL_law_718 dL_law_719 dL_law_720 rfl ?_
  refine L_arg (i0 := 0) (i5 := 5) (k := 4) X S hX hbl hn hL3 hl rfl rfl (by decide) rfl dL_law_721 dL_law_722 dL_law_724 dL_law_725 dL_law_726 rfl ?_
  refine lv_aload_n hx hb dL_law_727 rfl (lv_at hl 3 rfl) ?_
  refine L_helper X A S (As := [.ref (ad 0), .int (xs (6 * n + 1)), .int (xs (6 * n + 2)), .int (xs (6 * n + 3)), .int (xs (6 * n + 4)), .ref (ad 201)]) (c_L_move l hl0 e1 hi hLx H.size) chL_move mlL_145 rfl rfl hl.1 (by decide) (L_rm hR ⟨rfl, rfl⟩ (by decide) (by decide) (by omega) (by omega)) dL_law_728 (fun H locs S => ?_)
  refine lv_istore hx hb dL_law_731 hl (by decide) rfl (fun ls hl => ?_)
  refine lv_aload_n hx hb dL_law_733 rfl (lv_at hl 3 rfl) ?_
  refine L_arg (i0 := 1) (i5 := 6) (k := 1) X S hX hbl hn hL3 hl rfl rfl (by decide) rfl dL_law_734 dL_law_735 dL_law_737 dL_law_738 dL_law_739 rfl ?_
  refine L_arg (i0 := 1) (i5 := 6) (k := 2) X S hX hbl hn hL3 hl rfl rfl (by decide) rfl dL_law_740 dL_law_741 dL_law_743 dL_law_744 dL_law_745 rfl ?_
  refine L_arg (i0 := 1) (i5 := 6) (k := 3) X S hX hbl hn hL3 hl rfl rfl (by decide) rfl dL_law_746 dL_law_747 dL_law_749 dL_law_750 dL_law_751 rfl ?_
  refine L_arg (i0 := 1) (i5 := 6) (k := 4) X S hX hbl hn hL3 hl rfl rfl (by decide) rfl dL_law_752 dL_law_753 dL_law_755 dL_law_756 dL_law_757 rfl ?_
  refine L_modi X A S (As := [.int (xs (6 * n + 1)), .int (xs (6 * n + 2)), .int (xs (6 * n + 3)), .int (xs (6 * n + 4))]) (c_X10_move l (Nat.le_refl 8) e2) cvX10_move mlL_147 rfl rfl rfl hl.1 (by decide) (L_rm hR ⟨rfl, rfl⟩ (by decide) (by decide) (by omega) (by omega)) dL_law_758 (fun H locs S => ?_)
  exact L_tail X A S hR ht hr hl (by omega) (by omega) dL_law_761 dL_law_763 dL_law_764 dL_law_767 dL_law_769 dL_law_774 dL_law_776 dL_law_779 dL_law_780 dL_law_781 dL_law_782 dL_law_784 dL_law_785 dL_law_786 dL_law_791 rfl (fun H locs ls S hl => J ad _ _ _ _ _ ls (fun _ _ => rfl) S R2 hl)
theorem chL_split : gCH yL_split cL_split 6 (some .int) [(0, 12, 15, 25), (0, 12, 19, 15)] 5 := ⟨⟨by decide +kernel, by decide +kernel, by decide +kernel⟩, cwL_split, L_ini, gq 849 (by decide +kernel) rfl⟩
set_option maxRecDepth 100000 in
set_option maxHeartbeats 4000000 in
theorem case_9 (hl0 : l.stackTraces = false) (X : lwX Γ cD p s m args meth c) (A : lwA ad adM dA s.heap.size) (S : lwS Γ ad adM cD dA σ τ f s H locs) (hR : lwR R cells slots) (R0 : RR σ τ) (hX : va_X b L xs s s.heap) (hbl : b < s.heap.size) (hn : 6 * n + 6 ≤ L) (hL3 : L ≤ 3072) (hl : lv_has ls 9 (L6 b (ad 0) (adM 0) (ad 201) dA n)) (J : lwJ l Γ ad adM cD dA p e R s m args below meth c cells slots Q b n) : W p l e R s m args below meth c H locs cells slots Q (F0 m 794 ls []) := by
  have hx := X.1
  have hb := X.2.1
  obtain ⟨x, r, σ', r', τ', e1, e2, cr⟩ := call_split R0 (xs (6 * n + 1)) (xs (6 * n + 2)) (xs (6 * n + 3))
  obtain ⟨i, hi, hLx, ht, R2, hr⟩ := cr.out rfl (by decide)
  refine lv_aload_n hx hb dL_law_794 rfl (lv_at hl 1 rfl) ?_
  refine L_arg (i0 := 0) (i5 := 5) (k := 1) X S hX hbl hn hL3 hl rfl rfl (by decide) rfl dL_law_795 dL_law_796 dL_law_798 dL_law_799 dL_law_800 rfl ?_
  refine L_arg (i0 := 0) (i5 := 5) (k := 2) X S hX hbl hn hL3 hl rfl rfl (by decide) rfl dL_law_801 dL_law_802 dL_law_804 dL_law_805 dL_law_806 rfl ?_
  refine L_arg (i0 := 0) (i5 := 5) (k := 3) X S hX hbl hn hL3 hl rfl rfl (by decide) rfl dL_law_807 dL_law_808 dL_law_810 dL_law_811 dL_law_812 rfl ?_
  refine lv_aload_n hx hb dL_law_813 rfl (lv_at hl 3 rfl) ?_
  refine L_helper X A S (As := [.ref (ad 0), .int (xs (6 * n + 1)), .int (xs (6 * n + 2)), .int (xs (6 * n + 3)), .ref (ad 201)]) (c_L_split l hl0 e1 hi hLx H.size) chL_split mlL_148 rfl rfl hl.1 (by decide) (L_rm hR ⟨rfl, rfl⟩ (by decide) (by decide) (by omega) (by omega)) dL_law_814 (fun H locs S => ?_)
  refine lv_istore hx hb dL_law_817 hl (by decide) rfl (fun ls hl => ?_)
  refine lv_aload_n hx hb dL_law_819 rfl (lv_at hl 3 rfl) ?_
  refine L_arg (i0 := 1) (i5 := 6) (k := 1) X S hX hbl hn hL3 hl rfl rfl (by decide) rfl dL_law_820 dL_law_821 dL_law_823 dL_law_824 dL_law_825 rfl ?_
  refine L_arg (i0 := 1) (i5 := 6) (k := 2) X S hX hbl hn hL3 hl rfl rfl (by decide) rfl dL_law_826 dL_law_827 dL_law_829 dL_law_830 dL_law_831 rfl ?_
  refine L_arg (i0 := 1) (i5 := 6) (k := 3) X S hX hbl hn hL3 hl rfl rfl (by decide) rfl dL_law_832 dL_law_833 dL_law_835 dL_law_836 dL_law_837 rfl ?_
  refine L_modi X A S (As := [.int (xs (6 * n + 1)), .int (xs (6 * n + 2)), .int (xs (6 * n + 3))]) (c_X10_split l (Nat.le_refl 8) e2) cvX10_split mlL_151 rfl rfl rfl hl.1 (by decide) (L_rm hR ⟨rfl, rfl⟩ (by decide) (by decide) (by omega) (by omega)) dL_law_838 (fun H locs S => ?_)
  exact L_tail X A S hR ht hr hl (by omega) (by omega) dL_law_841 dL_law_843 dL_law_844 dL_law_847 dL_law_849 dL_law_854 dL_law_856 dL_law_859 dL_law_860 dL_law_861 dL_law_862 dL_law_864 dL_law_865 dL_law_866 dL_law_871 rfl (fun H locs ls S hl => J ad _ _ _ _ _ ls (fun _ _ => rfl) S R2 hl)
theorem chL_merge : gCH yL_merge cL_merge 5 (some .int) [(0, 10, 13, 25), (0, 10, 17, 15)] 4 := ⟨⟨by decide +kernel, by decide +kernel, by decide +kernel⟩, cwL_merge, L_ini, gq 883 (by decide +kernel) rfl⟩
set_option maxRecDepth 100000 in
set_option maxHeartbeats 4000000 in
theorem case_10 (hl0 : l.stackTraces = false) (X : lwX Γ cD p s m args meth c) (A : lwA ad adM dA s.heap.size) (S : lwS Γ ad adM cD dA σ τ f s H locs) (hR : lwR R cells slots) (R0 : RR σ τ) (hX : va_X b L xs s s.heap) (hbl : b < s.heap.size) (hn : 6 * n + 6 ≤ L) (hL3 : L ≤ 3072) (hl : lv_has ls 9 (L6 b (ad 0) (adM 0) (ad 201) dA n)) (J : lwJ l Γ ad adM cD dA p e R s m args below meth c cells slots Q b n) : W p l e R s m args below meth c H locs cells slots Q (F0 m 874 ls []) := by
  have hx := X.1
  have hb := X.2.1
  obtain ⟨x, r, σ', r', τ', e1, e2, cr⟩ := call_merge R0 (xs (6 * n + 1)) (xs (6 * n + 2))
  obtain ⟨i, hi, hLx, ht, R2, hr⟩ := cr.out rfl (by decide)
  refine lv_aload_n hx hb dL_law_874 rfl (lv_at hl 1 rfl) ?_
  refine L_arg (i0 := 0) (i5 := 5) (k := 1) X S hX hbl hn hL3 hl rfl rfl (by decide) rfl dL_law_875 dL_law_876 dL_law_878 dL_law_879 dL_law_880 rfl ?_
  refine L_arg (i0 := 0) (i5 := 5) (k := 2) X S hX hbl hn hL3 hl rfl rfl (by decide) rfl dL_law_881 dL_law_882 dL_law_884 dL_law_885 dL_law_886 rfl ?_
  refine lv_aload_n hx hb dL_law_887 rfl (lv_at hl 3 rfl) ?_
  refine L_helper X A S (As := [.ref (ad 0), .int (xs (6 * n + 1)), .int (xs (6 * n + 2)), .ref (ad 201)]) (c_L_merge l hl0 e1 hi hLx H.size) chL_merge mlL_152 rfl rfl hl.1 (by decide) (L_rm hR ⟨rfl, rfl⟩ (by decide) (by decide) (by omega) (by omega)) dL_law_888 (fun H locs S => ?_)
  refine lv_istore hx hb dL_law_891 hl (by decide) rfl (fun ls hl => ?_)
  refine lv_aload_n hx hb dL_law_893 rfl (lv_at hl 3 rfl) ?_
  refine L_arg (i0 := 1) (i5 := 6) (k := 1) X S hX hbl hn hL3 hl rfl rfl (by decide) rfl dL_law_894 dL_law_895 dL_law_897 dL_law_898 dL_law_899 rfl ?_
  refine L_arg (i0 := 1) (i5 := 6) (k := 2) X S hX hbl hn hL3 hl rfl rfl (by decide) rfl dL_law_900 dL_law_901 dL_law_903 dL_law_904 dL_law_905 rfl ?_
  refine L_modi X A S (As := [.int (xs (6 * n + 1)), .int (xs (6 * n + 2))]) (c_X10_merge l (Nat.le_refl 8) e2) cvX10_merge mlL_154 rfl rfl rfl hl.1 (by decide) (L_rm hR ⟨rfl, rfl⟩ (by decide) (by decide) (by omega) (by omega)) dL_law_906 (fun H locs S => ?_)
  exact L_tail X A S hR ht hr hl (by omega) (by omega) dL_law_909 dL_law_911 dL_law_912 dL_law_915 dL_law_917 dL_law_922 dL_law_924 dL_law_927 dL_law_928 dL_law_929 dL_law_930 dL_law_932 dL_law_933 dL_law_934 dL_law_939 rfl (fun H locs ls S hl => J ad _ _ _ _ _ ls (fun _ _ => rfl) S R2 hl)
theorem chL_snap : gCH yL_snap cL_snap 5 (some .int) [(0, 10, 13, 25), (0, 10, 17, 15)] 4 := ⟨⟨by decide +kernel, by decide +kernel, by decide +kernel⟩, cwL_snap, L_ini, gq 910 (by decide +kernel) rfl⟩
set_option maxRecDepth 100000 in
set_option maxHeartbeats 4000000 in
theorem case_11 (hl0 : l.stackTraces = false) (X : lwX Γ cD p s m args meth c) (A : lwA ad adM dA s.heap.size) (S : lwS Γ ad adM cD dA σ τ f s H locs) (hR : lwR R cells slots) (R0 : RR σ τ) (hX : va_X b L xs s s.heap) (hbl : b < s.heap.size) (hn : 6 * n + 6 ≤ L) (hL3 : L ≤ 3072) (hl : lv_has ls 9 (L6 b (ad 0) (adM 0) (ad 201) dA n)) (J : lwJ l Γ ad adM cD dA p e R s m args below meth c cells slots Q b n) : W p l e R s m args below meth c H locs cells slots Q (F0 m 942 ls []) := by
  have hx := X.1
  have hb := X.2.1
  obtain ⟨x, r, σ', r', τ', e1, e2, cr⟩ := call_snap R0 (xs (6 * n + 1)) (xs (6 * n + 2))
  obtain ⟨i, hi, hLx, ht, R2, hr⟩ := cr.out rfl (by decide)
  refine lv_aload_n hx hb dL_law_942 rfl (lv_at hl 1 rfl) ?_
  refine L_arg (i0 := 0) (i5 := 5) (k := 1) X S hX hbl hn hL3 hl rfl rfl (by decide) rfl dL_law_943 dL_law_944 dL_law_946 dL_law_947 dL_law_948 rfl ?_
  refine L_arg (i0 := 0) (i5 := 5) (k := 2) X S hX hbl hn hL3 hl rfl rfl (by decide) rfl dL_law_949 dL_law_950 dL_law_952 dL_law_953 dL_law_954 rfl ?_
  refine lv_aload_n hx hb dL_law_955 rfl (lv_at hl 3 rfl) ?_
  refine L_helper X A S (As := [.ref (ad 0), .int (xs (6 * n + 1)), .int (xs (6 * n + 2)), .ref (ad 201)]) (c_L_snap l hl0 e1 hi hLx H.size) chL_snap mlL_155 rfl rfl hl.1 (by decide) (L_rm hR ⟨rfl, rfl⟩ (by decide) (by decide) (by omega) (by omega)) dL_law_956 (fun H locs S => ?_)
  refine lv_istore hx hb dL_law_959 hl (by decide) rfl (fun ls hl => ?_)
  refine lv_aload_n hx hb dL_law_961 rfl (lv_at hl 3 rfl) ?_
  refine L_arg (i0 := 1) (i5 := 6) (k := 1) X S hX hbl hn hL3 hl rfl rfl (by decide) rfl dL_law_962 dL_law_963 dL_law_965 dL_law_966 dL_law_967 rfl ?_
  refine L_arg (i0 := 1) (i5 := 6) (k := 2) X S hX hbl hn hL3 hl rfl rfl (by decide) rfl dL_law_968 dL_law_969 dL_law_971 dL_law_972 dL_law_973 rfl ?_
  refine L_modi X A S (As := [.int (xs (6 * n + 1)), .int (xs (6 * n + 2))]) (c_X10_snap l (Nat.le_refl 8) e2) cvX10_snap mlL_157 rfl rfl rfl hl.1 (by decide) (L_rm hR ⟨rfl, rfl⟩ (by decide) (by decide) (by omega) (by omega)) dL_law_974 (fun H locs S => ?_)
  exact L_tail X A S hR ht hr hl (by omega) (by omega) dL_law_977 dL_law_979 dL_law_980 dL_law_983 dL_law_985 dL_law_990 dL_law_992 dL_law_995 dL_law_996 dL_law_997 dL_law_998 dL_law_1000 dL_law_1001 dL_law_1002 dL_law_1007 rfl (fun H locs ls S hl => J ad _ _ _ _ _ ls (fun _ _ => rfl) S R2 hl)
theorem chL_fit : gCH yL_fit cL_fit 5 (some .int) [(0, 10, 13, 25)] 4 := ⟨⟨by decide +kernel, by decide +kernel, by decide +kernel⟩, cwL_fit, L_ini, gq 933 (by decide +kernel) rfl⟩
set_option maxRecDepth 100000 in
set_option maxHeartbeats 4000000 in
theorem case_12 (hl0 : l.stackTraces = false) (X : lwX Γ cD p s m args meth c) (A : lwA ad adM dA s.heap.size) (S : lwS Γ ad adM cD dA σ τ f s H locs) (hR : lwR R cells slots) (R0 : RR σ τ) (hX : va_X b L xs s s.heap) (hbl : b < s.heap.size) (hn : 6 * n + 6 ≤ L) (hL3 : L ≤ 3072) (hl : lv_has ls 9 (L6 b (ad 0) (adM 0) (ad 201) dA n)) (J : lwJ l Γ ad adM cD dA p e R s m args below meth c cells slots Q b n) : W p l e R s m args below meth c H locs cells slots Q (F0 m 1010 ls []) := by
  have hx := X.1
  have hb := X.2.1
  obtain ⟨x, r, σ', r', τ', e1, e2, cr⟩ := call_fit R0 (xs (6 * n + 1)) (xs (6 * n + 2))
  obtain ⟨i, hi, hLx, ht, R2, hr⟩ := cr.out rfl (by decide)
  refine lv_aload_n hx hb dL_law_1010 rfl (lv_at hl 1 rfl) ?_
  refine L_arg (i0 := 0) (i5 := 5) (k := 1) X S hX hbl hn hL3 hl rfl rfl (by decide) rfl dL_law_1011 dL_law_1012 dL_law_1014 dL_law_1015 dL_law_1016 rfl ?_
  refine L_arg (i0 := 0) (i5 := 5) (k := 2) X S hX hbl hn hL3 hl rfl rfl (by decide) rfl dL_law_1017 dL_law_1018 dL_law_1020 dL_law_1021 dL_law_1022 rfl ?_
  refine lv_aload_n hx hb dL_law_1023 rfl (lv_at hl 3 rfl) ?_
  refine L_helper X A S (As := [.ref (ad 0), .int (xs (6 * n + 1)), .int (xs (6 * n + 2)), .ref (ad 201)]) (c_L_fit l hl0 e1 hi hLx H.size) chL_fit mlL_158 rfl rfl hl.1 (by decide) (L_rm hR ⟨rfl, rfl⟩ (by decide) (by decide) (by omega) (by omega)) dL_law_1024 (fun H locs S => ?_)
  refine lv_istore hx hb dL_law_1027 hl (by decide) rfl (fun ls hl => ?_)
  refine lv_aload_n hx hb dL_law_1029 rfl (lv_at hl 3 rfl) ?_
  refine L_arg (i0 := 1) (i5 := 6) (k := 1) X S hX hbl hn hL3 hl rfl rfl (by decide) rfl dL_law_1030 dL_law_1031 dL_law_1033 dL_law_1034 dL_law_1035 rfl ?_
  refine L_arg (i0 := 1) (i5 := 6) (k := 2) X S hX hbl hn hL3 hl rfl rfl (by decide) rfl dL_law_1036 dL_law_1037 dL_law_1039 dL_law_1040 dL_law_1041 rfl ?_
  refine L_modi X A S (As := [.int (xs (6 * n + 1)), .int (xs (6 * n + 2))]) (c_X10_fit l (Nat.le_refl 8) e2) cvX10_fit mlL_160 rfl rfl rfl hl.1 (by decide) (L_rm hR ⟨rfl, rfl⟩ (by decide) (by decide) (by omega) (by omega)) dL_law_1042 (fun H locs S => ?_)
  exact L_tail X A S hR ht hr hl (by omega) (by omega) dL_law_1045 dL_law_1047 dL_law_1048 dL_law_1051 dL_law_1053 dL_law_1058 dL_law_1060 dL_law_1063 dL_law_1064 dL_law_1065 dL_law_1066 dL_law_1068 dL_law_1069 dL_law_1070 dL_law_1075 rfl (fun H locs ls S hl => J ad _ _ _ _ _ ls (fun _ _ => rfl) S R2 hl)
theorem chL_retime : gCH yL_retime cL_retime 8 (some .int) [(0, 16, 19, 25), (0, 16, 23, 13), (0, 16, 27, 15)] 7 := ⟨⟨by decide +kernel, by decide +kernel, by decide +kernel⟩, cwL_retime, L_ini, gq 952 (by decide +kernel) rfl⟩
set_option maxRecDepth 100000 in
set_option maxHeartbeats 4000000 in
theorem case_13 (hl0 : l.stackTraces = false) (X : lwX Γ cD p s m args meth c) (A : lwA ad adM dA s.heap.size) (S : lwS Γ ad adM cD dA σ τ f s H locs) (hR : lwR R cells slots) (R0 : RR σ τ) (hX : va_X b L xs s s.heap) (hbl : b < s.heap.size) (hn : 6 * n + 6 ≤ L) (hL3 : L ≤ 3072) (hl : lv_has ls 9 (L6 b (ad 0) (adM 0) (ad 201) dA n)) (J : lwJ l Γ ad adM cD dA p e R s m args below meth c cells slots Q b n) : W p l e R s m args below meth c H locs cells slots Q (F0 m 1078 ls []) := by
  have hx := X.1
  have hb := X.2.1
  obtain ⟨ad1, σ1, had, h9, hσ1, S1⟩ := S.norm
  have A1 := A.ad' had
  have R1 := R0.c191 hσ1
  obtain ⟨x, r, σ', r', τ', e1, e2, cr, h191⟩ := call_retime R1 (xs (6 * n + 1)) (xs (6 * n + 2)) (xs (6 * n + 3)) (xs (6 * n + 4)) (xs (6 * n + 5))
  obtain ⟨i, hi, hLx, ht, R2, hr⟩ := cr.out rfl (by decide)
  have h9' : r9 σ' := by unfold r9 at *; rw [h191]; exact h9
  have a0 := had 0 (by decide)
  have a201 := had 201 (by decide)
  rw [← a0, ← a201] at hl
  refine lv_aload_n hx hb dL_law_1078 rfl (lv_at hl 1 rfl) ?_
  refine L_arg (i0 := 0) (i5 := 5) (k := 1) X S1 hX hbl hn hL3 hl rfl rfl (by decide) rfl dL_law_1079 dL_law_1080 dL_law_1082 dL_law_1083 dL_law_1084 rfl ?_
  refine L_arg (i0 := 0) (i5 := 5) (k := 2) X S1 hX hbl hn hL3 hl rfl rfl (by decide) rfl dL_law_1085 dL_law_1086 dL_law_1088 dL_law_1089 dL_law_1090 rfl ?_
  refine L_arg (i0 := 0) (i5 := 5) (k := 3) X S1 hX hbl hn hL3 hl rfl rfl (by decide) rfl dL_law_1091 dL_law_1092 dL_law_1094 dL_law_1095 dL_law_1096 rfl ?_
  refine L_arg (i0 := 0) (i5 := 5) (k := 4) X S1 hX hbl hn hL3 hl rfl rfl (by decide) rfl dL_law_1097 dL_law_1098 dL_law_1100 dL_law_1101 dL_law_1102 rfl ?_
  refine L_arg (i0 := 0) (i5 := 5) (k := 5) X S1 hX hbl hn hL3 hl rfl rfl (by decide) rfl dL_law_1103 dL_law_1104 dL_law_1106 dL_law_1107 dL_law_1108 rfl ?_
  refine lv_aload_n hx hb dL_law_1109 rfl (lv_at hl 3 rfl) ?_
  refine L_helper X A1 S1 (As := [.ref (ad1 0), .int (xs (6 * n + 1)), .int (xs (6 * n + 2)), .int (xs (6 * n + 3)), .int (xs (6 * n + 4)), .int (xs (6 * n + 5)), .ref (ad1 201)]) (c_L_retime l hl0 h9 h9' e1 hi hLx H.size) chL_retime mlL_161 rfl rfl hl.1 (by decide) (L_rm hR ⟨rfl, rfl⟩ (by decide) (by decide) (by omega) (by omega)) dL_law_1110 (fun H locs S => ?_)
  refine lv_istore hx hb dL_law_1113 hl (by decide) rfl (fun ls hl => ?_)
  refine lv_aload_n hx hb dL_law_1115 rfl (lv_at hl 3 rfl) ?_
  refine L_arg (i0 := 1) (i5 := 6) (k := 1) X S hX hbl hn hL3 hl rfl rfl (by decide) rfl dL_law_1116 dL_law_1117 dL_law_1119 dL_law_1120 dL_law_1121 rfl ?_
  refine L_arg (i0 := 1) (i5 := 6) (k := 2) X S hX hbl hn hL3 hl rfl rfl (by decide) rfl dL_law_1122 dL_law_1123 dL_law_1125 dL_law_1126 dL_law_1127 rfl ?_
  refine L_arg (i0 := 1) (i5 := 6) (k := 3) X S hX hbl hn hL3 hl rfl rfl (by decide) rfl dL_law_1128 dL_law_1129 dL_law_1131 dL_law_1132 dL_law_1133 rfl ?_
  refine L_arg (i0 := 1) (i5 := 6) (k := 4) X S hX hbl hn hL3 hl rfl rfl (by decide) rfl dL_law_1134 dL_law_1135 dL_law_1137 dL_law_1138 dL_law_1139 rfl ?_
  refine L_arg (i0 := 1) (i5 := 6) (k := 5) X S hX hbl hn hL3 hl rfl rfl (by decide) rfl dL_law_1140 dL_law_1141 dL_law_1143 dL_law_1144 dL_law_1145 rfl ?_
  refine L_modi X A1 S (As := [.int (xs (6 * n + 1)), .int (xs (6 * n + 2)), .int (xs (6 * n + 3)), .int (xs (6 * n + 4)), .int (xs (6 * n + 5))]) (c_X10_retime l (Nat.le_refl 8) e2) cvX10_retime mlL_164 rfl rfl rfl hl.1 (by decide) (L_rm hR ⟨rfl, rfl⟩ (by decide) (by decide) (by omega) (by omega)) dL_law_1146 (fun H locs S => ?_)
  exact L_tail X A1 S hR ht hr hl (by omega) (by omega) dL_law_1149 dL_law_1151 dL_law_1152 dL_law_1155 dL_law_1157 dL_law_1162 dL_law_1164 dL_law_1167 dL_law_1168 dL_law_1169 dL_law_1170 dL_law_1172 dL_law_1173 dL_law_1174 dL_law_1179 rfl (fun H locs ls S hl => J ad1 _ _ _ _ _ ls had S R2 (by rw [← a0, ← a201]; exact hl))
theorem chL_caption : gCH yL_caption cL_caption 6 (some .int) [(0, 12, 15, 25), (0, 12, 19, 13)] 5 := ⟨⟨by decide +kernel, by decide +kernel, by decide +kernel⟩, cwL_caption, L_ini, gq 1005 (by decide +kernel) rfl⟩
set_option maxRecDepth 100000 in
set_option maxHeartbeats 4000000 in
theorem case_14 (hl0 : l.stackTraces = false) (X : lwX Γ cD p s m args meth c) (A : lwA ad adM dA s.heap.size) (S : lwS Γ ad adM cD dA σ τ f s H locs) (hR : lwR R cells slots) (R0 : RR σ τ) (hX : va_X b L xs s s.heap) (hbl : b < s.heap.size) (hn : 6 * n + 6 ≤ L) (hL3 : L ≤ 3072) (hl : lv_has ls 9 (L6 b (ad 0) (adM 0) (ad 201) dA n)) (J : lwJ l Γ ad adM cD dA p e R s m args below meth c cells slots Q b n) : W p l e R s m args below meth c H locs cells slots Q (F0 m 1182 ls []) := by
  have hx := X.1
  have hb := X.2.1
  obtain ⟨x, r, σ', r', τ', e1, e2, cr⟩ := call_caption R0 (xs (6 * n + 1)) (xs (6 * n + 2)) (xs (6 * n + 3))
  obtain ⟨i, hi, hLx, ht, R2, hr⟩ := cr.out rfl (by decide)
  refine lv_aload_n hx hb dL_law_1182 rfl (lv_at hl 1 rfl) ?_
  refine L_arg (i0 := 0) (i5 := 5) (k := 1) X S hX hbl hn hL3 hl rfl rfl (by decide) rfl dL_law_1183 dL_law_1184 dL_law_1186 dL_law_1187 dL_law_1188 rfl ?_
  refine L_arg (i0 := 0) (i5 := 5) (k := 2) X S hX hbl hn hL3 hl rfl rfl (by decide) rfl dL_law_1189 dL_law_1190 dL_law_1192 dL_law_1193 dL_law_1194 rfl ?_
  refine L_arg (i0 := 0) (i5 := 5) (k := 3) X S hX hbl hn hL3 hl rfl rfl (by decide) rfl dL_law_1195 dL_law_1196 dL_law_1198 dL_law_1199 dL_law_1200 rfl ?_
  refine lv_aload_n hx hb dL_law_1201 rfl (lv_at hl 3 rfl) ?_
  refine L_helper X A S (As := [.ref (ad 0), .int (xs (6 * n + 1)), .int (xs (6 * n + 2)), .int (xs (6 * n + 3)), .ref (ad 201)]) (c_L_caption l hl0 e1 hi hLx H.size) chL_caption mlL_165 rfl rfl hl.1 (by decide) (L_rm hR ⟨rfl, rfl⟩ (by decide) (by decide) (by omega) (by omega)) dL_law_1202 (fun H locs S => ?_)
  refine lv_istore hx hb dL_law_1205 hl (by decide) rfl (fun ls hl => ?_)
  refine lv_aload_n hx hb dL_law_1207 rfl (lv_at hl 3 rfl) ?_
  refine L_arg (i0 := 1) (i5 := 6) (k := 1) X S hX hbl hn hL3 hl rfl rfl (by decide) rfl dL_law_1208 dL_law_1209 dL_law_1211 dL_law_1212 dL_law_1213 rfl ?_
  refine L_arg (i0 := 1) (i5 := 6) (k := 2) X S hX hbl hn hL3 hl rfl rfl (by decide) rfl dL_law_1214 dL_law_1215 dL_law_1217 dL_law_1218 dL_law_1219 rfl ?_
  refine L_arg (i0 := 1) (i5 := 6) (k := 3) X S hX hbl hn hL3 hl rfl rfl (by decide) rfl dL_law_1220 dL_law_1221 dL_law_1223 dL_law_1224 dL_law_1225 rfl ?_
  refine L_modi X A S (As := [.int (xs (6 * n + 1)), .int (xs (6 * n + 2)), .int (xs (6 * n + 3))]) (c_X10_caption l (Nat.le_refl 8) e2) cvX10_caption mlL_167 rfl rfl rfl hl.1 (by decide) (L_rm hR ⟨rfl, rfl⟩ (by decide) (by decide) (by omega) (by omega)) dL_law_1226 (fun H locs S => ?_)
  exact L_tail X A S hR ht hr hl (by omega) (by omega) dL_law_1229 dL_law_1231 dL_law_1232 dL_law_1235 dL_law_1237 dL_law_1242 dL_law_1244 dL_law_1247 dL_law_1248 dL_law_1249 dL_law_1250 dL_law_1252 dL_law_1253 dL_law_1254 dL_law_1259 rfl (fun H locs ls S hl => J ad _ _ _ _ _ ls (fun _ _ => rfl) S R2 hl)
theorem chL_letter : gCH yL_letter cL_letter 6 (some .int) [(0, 12, 15, 25), (0, 12, 19, 73)] 5 := ⟨⟨by decide +kernel, by decide +kernel, by decide +kernel⟩, cwL_letter, L_ini, gq 1030 (by decide +kernel) rfl⟩
set_option maxRecDepth 100000 in
set_option maxHeartbeats 4000000 in
theorem case_15 (hl0 : l.stackTraces = false) (X : lwX Γ cD p s m args meth c) (A : lwA ad adM dA s.heap.size) (S : lwS Γ ad adM cD dA σ τ f s H locs) (hR : lwR R cells slots) (R0 : RR σ τ) (hX : va_X b L xs s s.heap) (hbl : b < s.heap.size) (hn : 6 * n + 6 ≤ L) (hL3 : L ≤ 3072) (hl : lv_has ls 9 (L6 b (ad 0) (adM 0) (ad 201) dA n)) (J : lwJ l Γ ad adM cD dA p e R s m args below meth c cells slots Q b n) : W p l e R s m args below meth c H locs cells slots Q (F0 m 1262 ls []) := by
  have hx := X.1
  have hb := X.2.1
  obtain ⟨x, r, σ', r', τ', e1, e2, cr⟩ := call_letter R0 (xs (6 * n + 1)) (xs (6 * n + 2)) (xs (6 * n + 3))
  obtain ⟨i, hi, hLx, ht, R2, hr⟩ := cr.out rfl (by decide)
  refine lv_aload_n hx hb dL_law_1262 rfl (lv_at hl 1 rfl) ?_
  refine L_arg (i0 := 0) (i5 := 5) (k := 1) X S hX hbl hn hL3 hl rfl rfl (by decide) rfl dL_law_1263 dL_law_1264 dL_law_1266 dL_law_1267 dL_law_1268 rfl ?_
  refine L_arg (i0 := 0) (i5 := 5) (k := 2) X S hX hbl hn hL3 hl rfl rfl (by decide) rfl dL_law_1269 dL_law_1270 dL_law_1272 dL_law_1273 dL_law_1274 rfl ?_
  refine L_arg (i0 := 0) (i5 := 5) (k := 3) X S hX hbl hn hL3 hl rfl rfl (by decide) rfl dL_law_1275 dL_law_1276 dL_law_1278 dL_law_1279 dL_law_1280 rfl ?_
  refine lv_aload_n hx hb dL_law_1281 rfl (lv_at hl 3 rfl) ?_
  refine L_helper X A S (As := [.ref (ad 0), .int (xs (6 * n + 1)), .int (xs (6 * n + 2)), .int (xs (6 * n + 3)), .ref (ad 201)]) (c_L_letter l hl0 e1 hi hLx H.size) chL_letter mlL_168 rfl rfl hl.1 (by decide) (L_rm hR ⟨rfl, rfl⟩ (by decide) (by decide) (by omega) (by omega)) dL_law_1282 (fun H locs S => ?_)
  refine lv_istore hx hb dL_law_1285 hl (by decide) rfl (fun ls hl => ?_)
  refine lv_aload_n hx hb dL_law_1287 rfl (lv_at hl 3 rfl) ?_
  refine L_arg (i0 := 1) (i5 := 6) (k := 1) X S hX hbl hn hL3 hl rfl rfl (by decide) rfl dL_law_1288 dL_law_1289 dL_law_1291 dL_law_1292 dL_law_1293 rfl ?_
  refine L_arg (i0 := 1) (i5 := 6) (k := 2) X S hX hbl hn hL3 hl rfl rfl (by decide) rfl dL_law_1294 dL_law_1295 dL_law_1297 dL_law_1298 dL_law_1299 rfl ?_
  refine L_arg (i0 := 1) (i5 := 6) (k := 3) X S hX hbl hn hL3 hl rfl rfl (by decide) rfl dL_law_1300 dL_law_1301 dL_law_1303 dL_law_1304 dL_law_1305 rfl ?_
  refine L_modi X A S (As := [.int (xs (6 * n + 1)), .int (xs (6 * n + 2)), .int (xs (6 * n + 3))]) (c_X10_letter l (Nat.le_refl 8) e2) cvX10_letter mlL_170 rfl rfl rfl hl.1 (by decide) (L_rm hR ⟨rfl, rfl⟩ (by decide) (by decide) (by omega) (by omega)) dL_law_1306 (fun H locs S => ?_)
  exact L_tail X A S hR ht hr hl (by omega) (by omega) dL_law_1309 dL_law_1311 dL_law_1312 dL_law_1315 dL_law_1317 dL_law_1322 dL_law_1324 dL_law_1327 dL_law_1328 dL_law_1329 dL_law_1330 dL_law_1332 dL_law_1333 dL_law_1334 dL_law_1339 rfl (fun H locs ls S hl => J ad _ _ _ _ _ ls (fun _ _ => rfl) S R2 hl)
theorem chL_shown : gCH yL_shown cL_shown 5 (some .int) [(0, 10, 13, 25), (0, 10, 17, 73)] 4 := ⟨⟨by decide +kernel, by decide +kernel, by decide +kernel⟩, cwL_shown, L_ini, gq 1054 (by decide +kernel) rfl⟩
set_option maxRecDepth 100000 in
set_option maxHeartbeats 4000000 in
theorem case_16 (hl0 : l.stackTraces = false) (X : lwX Γ cD p s m args meth c) (A : lwA ad adM dA s.heap.size) (S : lwS Γ ad adM cD dA σ τ f s H locs) (hR : lwR R cells slots) (R0 : RR σ τ) (hX : va_X b L xs s s.heap) (hbl : b < s.heap.size) (hn : 6 * n + 6 ≤ L) (hL3 : L ≤ 3072) (hl : lv_has ls 9 (L6 b (ad 0) (adM 0) (ad 201) dA n)) (J : lwJ l Γ ad adM cD dA p e R s m args below meth c cells slots Q b n) : W p l e R s m args below meth c H locs cells slots Q (F0 m 1342 ls []) := by
  have hx := X.1
  have hb := X.2.1
  obtain ⟨x, r, σ', r', τ', e1, e2, cr⟩ := call_shown R0 (xs (6 * n + 1)) (xs (6 * n + 2))
  obtain ⟨i, hi, hLx, ht, R2, hr⟩ := cr.out rfl (by decide)
  refine lv_aload_n hx hb dL_law_1342 rfl (lv_at hl 1 rfl) ?_
  refine L_arg (i0 := 0) (i5 := 5) (k := 1) X S hX hbl hn hL3 hl rfl rfl (by decide) rfl dL_law_1343 dL_law_1344 dL_law_1346 dL_law_1347 dL_law_1348 rfl ?_
  refine L_arg (i0 := 0) (i5 := 5) (k := 2) X S hX hbl hn hL3 hl rfl rfl (by decide) rfl dL_law_1349 dL_law_1350 dL_law_1352 dL_law_1353 dL_law_1354 rfl ?_
  refine lv_aload_n hx hb dL_law_1355 rfl (lv_at hl 3 rfl) ?_
  refine L_helper X A S (As := [.ref (ad 0), .int (xs (6 * n + 1)), .int (xs (6 * n + 2)), .ref (ad 201)]) (c_L_shown l hl0 e1 hi hLx H.size) chL_shown mlL_171 rfl rfl hl.1 (by decide) (L_rm hR ⟨rfl, rfl⟩ (by decide) (by decide) (by omega) (by omega)) dL_law_1356 (fun H locs S => ?_)
  refine lv_istore hx hb dL_law_1359 hl (by decide) rfl (fun ls hl => ?_)
  refine lv_aload_n hx hb dL_law_1361 rfl (lv_at hl 3 rfl) ?_
  refine L_arg (i0 := 1) (i5 := 6) (k := 1) X S hX hbl hn hL3 hl rfl rfl (by decide) rfl dL_law_1362 dL_law_1363 dL_law_1365 dL_law_1366 dL_law_1367 rfl ?_
  refine L_arg (i0 := 1) (i5 := 6) (k := 2) X S hX hbl hn hL3 hl rfl rfl (by decide) rfl dL_law_1368 dL_law_1369 dL_law_1371 dL_law_1372 dL_law_1373 rfl ?_
  refine L_modi X A S (As := [.int (xs (6 * n + 1)), .int (xs (6 * n + 2))]) (c_X10_shown l (Nat.le_refl 8) e2) cvX10_shown mlL_173 rfl rfl rfl hl.1 (by decide) (L_rm hR ⟨rfl, rfl⟩ (by decide) (by decide) (by omega) (by omega)) dL_law_1374 (fun H locs S => ?_)
  exact L_tail X A S hR ht hr hl (by omega) (by omega) dL_law_1377 dL_law_1379 dL_law_1380 dL_law_1383 dL_law_1385 dL_law_1390 dL_law_1392 dL_law_1395 dL_law_1396 dL_law_1397 dL_law_1398 dL_law_1400 dL_law_1401 dL_law_1402 dL_law_1407 rfl (fun H locs ls S hl => J ad _ _ _ _ _ ls (fun _ _ => rfl) S R2 hl)
theorem chL_track : gCH yL_track cL_track 5 (some .int) [(0, 10, 13, 25), (0, 10, 17, 13)] 4 := ⟨⟨by decide +kernel, by decide +kernel, by decide +kernel⟩, cwL_track, L_ini, gq 1066 (by decide +kernel) rfl⟩
set_option maxRecDepth 100000 in
set_option maxHeartbeats 4000000 in
theorem case_17 (hl0 : l.stackTraces = false) (X : lwX Γ cD p s m args meth c) (A : lwA ad adM dA s.heap.size) (S : lwS Γ ad adM cD dA σ τ f s H locs) (hR : lwR R cells slots) (R0 : RR σ τ) (hX : va_X b L xs s s.heap) (hbl : b < s.heap.size) (hn : 6 * n + 6 ≤ L) (hL3 : L ≤ 3072) (hl : lv_has ls 9 (L6 b (ad 0) (adM 0) (ad 201) dA n)) (J : lwJ l Γ ad adM cD dA p e R s m args below meth c cells slots Q b n) : W p l e R s m args below meth c H locs cells slots Q (F0 m 1410 ls []) := by
  have hx := X.1
  have hb := X.2.1
  obtain ⟨x, r, σ', r', τ', e1, e2, cr⟩ := call_track R0 (xs (6 * n + 1)) (xs (6 * n + 2))
  obtain ⟨i, hi, hLx, ht, R2, hr⟩ := cr.out rfl (by decide)
  refine lv_aload_n hx hb dL_law_1410 rfl (lv_at hl 1 rfl) ?_
  refine L_arg (i0 := 0) (i5 := 5) (k := 1) X S hX hbl hn hL3 hl rfl rfl (by decide) rfl dL_law_1411 dL_law_1412 dL_law_1414 dL_law_1415 dL_law_1416 rfl ?_
  refine L_arg (i0 := 0) (i5 := 5) (k := 2) X S hX hbl hn hL3 hl rfl rfl (by decide) rfl dL_law_1417 dL_law_1418 dL_law_1420 dL_law_1421 dL_law_1422 rfl ?_
  refine lv_aload_n hx hb dL_law_1423 rfl (lv_at hl 3 rfl) ?_
  refine L_helper X A S (As := [.ref (ad 0), .int (xs (6 * n + 1)), .int (xs (6 * n + 2)), .ref (ad 201)]) (c_L_track l hl0 e1 hi hLx H.size) chL_track mlL_174 rfl rfl hl.1 (by decide) (L_rm hR ⟨rfl, rfl⟩ (by decide) (by decide) (by omega) (by omega)) dL_law_1424 (fun H locs S => ?_)
  refine lv_istore hx hb dL_law_1427 hl (by decide) rfl (fun ls hl => ?_)
  refine lv_aload_n hx hb dL_law_1429 rfl (lv_at hl 3 rfl) ?_
  refine L_arg (i0 := 1) (i5 := 6) (k := 1) X S hX hbl hn hL3 hl rfl rfl (by decide) rfl dL_law_1430 dL_law_1431 dL_law_1433 dL_law_1434 dL_law_1435 rfl ?_
  refine L_arg (i0 := 1) (i5 := 6) (k := 2) X S hX hbl hn hL3 hl rfl rfl (by decide) rfl dL_law_1436 dL_law_1437 dL_law_1439 dL_law_1440 dL_law_1441 rfl ?_
  refine L_modi X A S (As := [.int (xs (6 * n + 1)), .int (xs (6 * n + 2))]) (c_X10_track l (Nat.le_refl 8) e2) cvX10_track mlL_176 rfl rfl rfl hl.1 (by decide) (L_rm hR ⟨rfl, rfl⟩ (by decide) (by decide) (by omega) (by omega)) dL_law_1442 (fun H locs S => ?_)
  exact L_tail X A S hR ht hr hl (by omega) (by omega) dL_law_1445 dL_law_1447 dL_law_1448 dL_law_1451 dL_law_1453 dL_law_1458 dL_law_1460 dL_law_1463 dL_law_1464 dL_law_1465 dL_law_1466 dL_law_1468 dL_law_1469 dL_law_1470 dL_law_1475 rfl (fun H locs ls S hl => J ad _ _ _ _ _ ls (fun _ _ => rfl) S R2 hl)
theorem chL_fastest : gCH yL_fastest cL_fastest 4 (some .int) [(0, 9, 12, 25), (0, 9, 15, 73)] 3 := ⟨⟨by decide +kernel, by decide +kernel, by decide +kernel⟩, cwL_fastest, L_ini, gq 1093 (by decide +kernel) rfl⟩
set_option maxRecDepth 100000 in
set_option maxHeartbeats 4000000 in
theorem case_18 (hl0 : l.stackTraces = false) (X : lwX Γ cD p s m args meth c) (A : lwA ad adM dA s.heap.size) (S : lwS Γ ad adM cD dA σ τ f s H locs) (hR : lwR R cells slots) (R0 : RR σ τ) (hX : va_X b L xs s s.heap) (hbl : b < s.heap.size) (hn : 6 * n + 6 ≤ L) (hL3 : L ≤ 3072) (hl : lv_has ls 9 (L6 b (ad 0) (adM 0) (ad 201) dA n)) (J : lwJ l Γ ad adM cD dA p e R s m args below meth c cells slots Q b n) : W p l e R s m args below meth c H locs cells slots Q (F0 m 1478 ls []) := by
  have hx := X.1
  have hb := X.2.1
  obtain ⟨x, r, σ', r', τ', e1, e2, cr⟩ := call_fastest R0 (xs (6 * n + 1))
  obtain ⟨i, hi, hLx, ht, R2, hr⟩ := cr.out rfl (by decide)
  refine lv_aload_n hx hb dL_law_1478 rfl (lv_at hl 1 rfl) ?_
  refine L_arg (i0 := 0) (i5 := 5) (k := 1) X S hX hbl hn hL3 hl rfl rfl (by decide) rfl dL_law_1479 dL_law_1480 dL_law_1482 dL_law_1483 dL_law_1484 rfl ?_
  refine lv_aload_n hx hb dL_law_1485 rfl (lv_at hl 3 rfl) ?_
  refine L_helper X A S (As := [.ref (ad 0), .int (xs (6 * n + 1)), .ref (ad 201)]) (c_L_fastest l hl0 e1 hi hLx H.size) chL_fastest mlL_177 rfl rfl hl.1 (by decide) (L_rm hR ⟨rfl, rfl⟩ (by decide) (by decide) (by omega) (by omega)) dL_law_1486 (fun H locs S => ?_)
  refine lv_istore hx hb dL_law_1489 hl (by decide) rfl (fun ls hl => ?_)
  refine lv_aload_n hx hb dL_law_1491 rfl (lv_at hl 3 rfl) ?_
  refine L_arg (i0 := 1) (i5 := 6) (k := 1) X S hX hbl hn hL3 hl rfl rfl (by decide) rfl dL_law_1492 dL_law_1493 dL_law_1495 dL_law_1496 dL_law_1497 rfl ?_
  refine L_modi X A S (As := [.int (xs (6 * n + 1))]) (c_X10_fastest l (Nat.le_refl 8) e2) cvX10_fastest mlL_179 rfl rfl rfl hl.1 (by decide) (L_rm hR ⟨rfl, rfl⟩ (by decide) (by decide) (by omega) (by omega)) dL_law_1498 (fun H locs S => ?_)
  exact L_tail X A S hR ht hr hl (by omega) (by omega) dL_law_1501 dL_law_1503 dL_law_1504 dL_law_1507 dL_law_1509 dL_law_1514 dL_law_1516 dL_law_1519 dL_law_1520 dL_law_1521 dL_law_1522 dL_law_1524 dL_law_1525 dL_law_1526 dL_law_1531 rfl (fun H locs ls S hl => J ad _ _ _ _ _ ls (fun _ _ => rfl) S R2 hl)
theorem chL_read : gCH yL_read cL_read 3 (some .int) [(0, 8, 11, 13), (0, 8, 14, 15)] 2 := ⟨⟨by decide +kernel, by decide +kernel, by decide +kernel⟩, cwL_read, L_ini, gq 1129 (by decide +kernel) rfl⟩
set_option maxRecDepth 100000 in
set_option maxHeartbeats 4000000 in
theorem case_20 (hl0 : l.stackTraces = false) (X : lwX Γ cD p s m args meth c) (A : lwA ad adM dA s.heap.size) (S : lwS Γ ad adM cD dA σ τ f s H locs) (hR : lwR R cells slots) (R0 : RR σ τ) (hX : va_X b L xs s s.heap) (hbl : b < s.heap.size) (hn : 6 * n + 6 ≤ L) (hL3 : L ≤ 3072) (hl : lv_has ls 9 (L6 b (ad 0) (adM 0) (ad 201) dA n)) (J : lwJ l Γ ad adM cD dA p e R s m args below meth c cells slots Q b n) (hread : ∃ x r σ' r' τ', f_X9_read σ = some (x, r, σ') ∧ f_X10_read τ = some (r', τ') ∧ CR [0, 1, 2] σ' τ' x r r') : W p l e R s m args below meth c H locs cells slots Q (F0 m 1611 ls []) := by
  have hx := X.1
  have hb := X.2.1
  obtain ⟨x, r, σ', r', τ', e1, e2, cr⟩ := hread
  obtain ⟨i, hi, hLx, ht, R2, hr⟩ := cr.out rfl (by decide)
  refine lv_aload_n hx hb dL_law_1611 rfl (lv_at hl 1 rfl) ?_
  refine lv_aload_n hx hb dL_law_1612 rfl (lv_at hl 3 rfl) ?_
  refine L_helper X A S (As := [.ref (ad 0), .ref (ad 201)]) (c_L_read l hl0 e1 hi hLx H.size) chL_read mlL_184 rfl rfl hl.1 (by decide) (L_rm hR ⟨rfl, rfl⟩ (by decide) (by decide) (by omega) (by omega)) dL_law_1613 (fun H locs S => ?_)
  refine lv_istore hx hb dL_law_1616 hl (by decide) rfl (fun ls hl => ?_)
  refine lv_aload_n hx hb dL_law_1618 rfl (lv_at hl 3 rfl) ?_
  refine L_modi X A S (As := []) (c_X10_read l (Nat.le_refl 8) e2) cvX10_read mlL_187 rfl rfl rfl hl.1 (by decide) (L_rm hR ⟨rfl, rfl⟩ (by decide) (by decide) (by omega) (by omega)) dL_law_1619 (fun H locs S => ?_)
  exact L_tail X A S hR ht hr hl (by omega) (by omega) dL_law_1622 dL_law_1624 dL_law_1625 dL_law_1628 dL_law_1630 dL_law_1635 dL_law_1637 dL_law_1640 dL_law_1641 dL_law_1642 dL_law_1643 dL_law_1645 dL_law_1646 dL_law_1647 dL_law_1652 rfl (fun H locs ls S hl => J ad _ _ _ _ _ ls (fun _ _ => rfl) S R2 hl)
theorem chL_faultPosition : gCH yL_faultPosition cL_faultPosition 3 (some .int) [(0, 8, 11, 73)] 2 := ⟨⟨by decide +kernel, by decide +kernel, by decide +kernel⟩, cwL_faultPosition, L_ini, gq 1228 (by decide +kernel) rfl⟩
set_option maxRecDepth 100000 in
set_option maxHeartbeats 4000000 in
theorem case_21 (hl0 : l.stackTraces = false) (X : lwX Γ cD p s m args meth c) (A : lwA ad adM dA s.heap.size) (S : lwS Γ ad adM cD dA σ τ f s H locs) (hR : lwR R cells slots) (R0 : RR σ τ) (hX : va_X b L xs s s.heap) (hbl : b < s.heap.size) (hn : 6 * n + 6 ≤ L) (hL3 : L ≤ 3072) (hl : lv_has ls 9 (L6 b (ad 0) (adM 0) (ad 201) dA n)) (J : lwJ l Γ ad adM cD dA p e R s m args below meth c cells slots Q b n) : W p l e R s m args below meth c H locs cells slots Q (F0 m 1655 ls []) := by
  have hx := X.1
  have hb := X.2.1
  obtain ⟨x, r, σ', r', τ', e1, e2, cr⟩ := call_fault R0 
  obtain ⟨i, hi, hLx, ht, R2, hr⟩ := cr.out rfl (by decide)
  refine lv_aload_n hx hb dL_law_1655 rfl (lv_at hl 1 rfl) ?_
  refine lv_aload_n hx hb dL_law_1656 rfl (lv_at hl 3 rfl) ?_
  refine L_helper X A S (As := [.ref (ad 0), .ref (ad 201)]) (c_L_faultPosition l hl0 e1 hi hLx H.size) chL_faultPosition mlL_188 rfl rfl hl.1 (by decide) (L_rm hR ⟨rfl, rfl⟩ (by decide) (by decide) (by omega) (by omega)) dL_law_1657 (fun H locs S => ?_)
  refine lv_istore hx hb dL_law_1660 hl (by decide) rfl (fun ls hl => ?_)
  refine lv_aload_n hx hb dL_law_1662 rfl (lv_at hl 3 rfl) ?_
  refine L_modi X A S (As := []) (c_X10_faultPosition l (Nat.le_refl 8) e2) cvX10_faultPosition mlL_190 rfl rfl rfl hl.1 (by decide) (L_rm hR ⟨rfl, rfl⟩ (by decide) (by decide) (by omega) (by omega)) dL_law_1663 (fun H locs S => ?_)
  exact L_tail X A S hR ht hr hl (by omega) (by omega) dL_law_1666 dL_law_1668 dL_law_1669 dL_law_1672 dL_law_1674 dL_law_1679 dL_law_1681 dL_law_1684 dL_law_1685 dL_law_1686 dL_law_1687 dL_law_1689 dL_law_1690 dL_law_1691 dL_law_1696 rfl (fun H locs ls S hl => J ad _ _ _ _ _ ls (fun _ _ => rfl) S R2 hl)
theorem chL_refusal : gCH yL_refusal cL_refusal 4 (some .int) [(0, 9, 12, 73)] 3 := ⟨⟨by decide +kernel, by decide +kernel, by decide +kernel⟩, cwL_refusal, L_ini, gq 1236 (by decide +kernel) rfl⟩
set_option maxRecDepth 100000 in
set_option maxHeartbeats 4000000 in
theorem case_22 (hl0 : l.stackTraces = false) (X : lwX Γ cD p s m args meth c) (A : lwA ad adM dA s.heap.size) (S : lwS Γ ad adM cD dA σ τ f s H locs) (hR : lwR R cells slots) (R0 : RR σ τ) (hX : va_X b L xs s s.heap) (hbl : b < s.heap.size) (hn : 6 * n + 6 ≤ L) (hL3 : L ≤ 3072) (hl : lv_has ls 9 (L6 b (ad 0) (adM 0) (ad 201) dA n)) (J : lwJ l Γ ad adM cD dA p e R s m args below meth c cells slots Q b n) : W p l e R s m args below meth c H locs cells slots Q (F0 m 1699 ls []) := by
  have hx := X.1
  have hb := X.2.1
  obtain ⟨x, r, σ', r', τ', e1, e2, cr⟩ := call_refusal R0 (if xs (6 * n + 1) = 0 then 0 else 1)
  obtain ⟨i, hi, hLx, ht, R2, hr⟩ := cr.out rfl (by decide)
  refine lv_aload_n hx hb dL_law_1699 rfl (lv_at hl 1 rfl) ?_
  refine L_arg (i0 := 0) (i5 := 5) (k := 1) X S hX hbl hn hL3 hl rfl rfl (by decide) rfl dL_law_1700 dL_law_1701 dL_law_1703 dL_law_1704 dL_law_1705 rfl ?_
  refine L_boolW hx hb dL_law_1706 dL_law_1709 dL_law_1710 dL_law_1713 ?_
  refine lv_aload_n hx hb dL_law_1714 rfl (lv_at hl 3 rfl) ?_
  refine L_helper X A S (As := [.ref (ad 0), .int (if xs (6 * n + 1) = 0 then 0 else 1), .ref (ad 201)]) (c_L_refusal l hl0 e1 hi hLx H.size) chL_refusal mlL_191 rfl rfl hl.1 (by decide) (L_rm hR ⟨rfl, rfl⟩ (by decide) (by decide) (by omega) (by omega)) dL_law_1715 (fun H locs S => ?_)
  refine lv_istore hx hb dL_law_1718 hl (by decide) rfl (fun ls hl => ?_)
  refine lv_aload_n hx hb dL_law_1720 rfl (lv_at hl 3 rfl) ?_
  refine L_arg (i0 := 1) (i5 := 6) (k := 1) X S hX hbl hn hL3 hl rfl rfl (by decide) rfl dL_law_1721 dL_law_1722 dL_law_1724 dL_law_1725 dL_law_1726 rfl ?_
  refine L_boolW hx hb dL_law_1727 dL_law_1730 dL_law_1731 dL_law_1734 ?_
  refine L_modi X A S (As := [.int (if xs (6 * n + 1) = 0 then 0 else 1)]) (c_X10_refusal l (Nat.le_refl 8) e2) cvX10_refusal mlL_194 rfl rfl rfl hl.1 (by decide) (L_rm hR ⟨rfl, rfl⟩ (by decide) (by decide) (by omega) (by omega)) dL_law_1735 (fun H locs S => ?_)
  exact L_tail X A S hR ht hr hl (by omega) (by omega) dL_law_1738 dL_law_1740 dL_law_1741 dL_law_1744 dL_law_1746 dL_law_1751 dL_law_1753 dL_law_1756 dL_law_1757 dL_law_1758 dL_law_1759 dL_law_1761 dL_law_1762 dL_law_1763 dL_law_1768 rfl (fun H locs ls S hl => J ad _ _ _ _ _ ls (fun _ _ => rfl) S R2 hl)
theorem chL_undo : gCH yL_undo cL_undo 3 (some .int) [(0, 8, 11, 27)] 2 := ⟨⟨by decide +kernel, by decide +kernel, by decide +kernel⟩, cwL_undo, L_ini, gq 1244 (by decide +kernel) rfl⟩
set_option maxRecDepth 100000 in
set_option maxHeartbeats 4000000 in
theorem case_23 (hl0 : l.stackTraces = false) (X : lwX Γ cD p s m args meth c) (A : lwA ad adM dA s.heap.size) (S : lwS Γ ad adM cD dA σ τ f s H locs) (hR : lwR R cells slots) (R0 : RR σ τ) (hX : va_X b L xs s s.heap) (hbl : b < s.heap.size) (hn : 6 * n + 6 ≤ L) (hL3 : L ≤ 3072) (hl : lv_has ls 9 (L6 b (ad 0) (adM 0) (ad 201) dA n)) (J : lwJ l Γ ad adM cD dA p e R s m args below meth c cells slots Q b n) : W p l e R s m args below meth c H locs cells slots Q (F0 m 1771 ls []) := by
  have hx := X.1
  have hb := X.2.1
  obtain ⟨x, r, σ', r', τ', e1, e2, cr⟩ := call_undo R0 
  obtain ⟨i, hi, hLx, ht, R2, hr⟩ := cr.out rfl (by decide)
  refine lv_aload_n hx hb dL_law_1771 rfl (lv_at hl 1 rfl) ?_
  refine lv_aload_n hx hb dL_law_1772 rfl (lv_at hl 3 rfl) ?_
  refine L_helper X A S (As := [.ref (ad 0), .ref (ad 201)]) (c_L_undo l hl0 e1 hi hLx H.size) chL_undo mlL_195 rfl rfl hl.1 (by decide) (L_rm hR ⟨rfl, rfl⟩ (by decide) (by decide) (by omega) (by omega)) dL_law_1773 (fun H locs S => ?_)
  refine lv_istore hx hb dL_law_1776 hl (by decide) rfl (fun ls hl => ?_)
  refine lv_aload_n hx hb dL_law_1778 rfl (lv_at hl 3 rfl) ?_
  refine L_modi X A S (As := []) (c_X10_undo l (Nat.le_refl 8) e2) cvX10_undo mlL_197 rfl rfl rfl hl.1 (by decide) (L_rm hR ⟨rfl, rfl⟩ (by decide) (by decide) (by omega) (by omega)) dL_law_1779 (fun H locs S => ?_)
  exact L_tail X A S hR ht hr hl (by omega) (by omega) dL_law_1782 dL_law_1784 dL_law_1785 dL_law_1788 dL_law_1790 dL_law_1795 dL_law_1797 dL_law_1800 dL_law_1801 dL_law_1802 dL_law_1803 dL_law_1805 dL_law_1806 dL_law_1807 dL_law_1812 rfl (fun H locs ls S hl => J ad _ _ _ _ _ ls (fun _ _ => rfl) S R2 hl)
theorem chL_restoreSnapshot : gCH yL_restoreSnapshot cL_restoreSnapshot 3 (some .int) [(0, 8, 11, 27)] 2 := ⟨⟨by decide +kernel, by decide +kernel, by decide +kernel⟩, cwL_restoreSnapshot, L_ini, gq 1257 (by decide +kernel) rfl⟩
set_option maxRecDepth 100000 in
set_option maxHeartbeats 4000000 in
theorem case_25 (hl0 : l.stackTraces = false) (X : lwX Γ cD p s m args meth c) (A : lwA ad adM dA s.heap.size) (S : lwS Γ ad adM cD dA σ τ f s H locs) (hR : lwR R cells slots) (R0 : RR σ τ) (hX : va_X b L xs s s.heap) (hbl : b < s.heap.size) (hn : 6 * n + 6 ≤ L) (hL3 : L ≤ 3072) (hl : lv_has ls 9 (L6 b (ad 0) (adM 0) (ad 201) dA n)) (J : lwJ l Γ ad adM cD dA p e R s m args below meth c cells slots Q b n) : W p l e R s m args below meth c H locs cells slots Q (F0 m 1828 ls []) := by
  have hx := X.1
  have hb := X.2.1
  obtain ⟨x, r, σ', r', τ', e1, e2, cr⟩ := call_restore R0 
  obtain ⟨i, hi, hLx, ht, R2, hr⟩ := cr.out rfl (by decide)
  refine lv_aload_n hx hb dL_law_1828 rfl (lv_at hl 1 rfl) ?_
  refine lv_aload_n hx hb dL_law_1829 rfl (lv_at hl 3 rfl) ?_
  refine L_helper X A S (As := [.ref (ad 0), .ref (ad 201)]) (c_L_restoreSnapshot l hl0 e1 hi hLx H.size) chL_restoreSnapshot mlL_202 rfl rfl hl.1 (by decide) (L_rm hR ⟨rfl, rfl⟩ (by decide) (by decide) (by omega) (by omega)) dL_law_1830 (fun H locs S => ?_)
  refine lv_istore hx hb dL_law_1833 hl (by decide) rfl (fun ls hl => ?_)
  refine lv_aload_n hx hb dL_law_1835 rfl (lv_at hl 3 rfl) ?_
  refine L_modi X A S (As := []) (c_X10_restoreSnapshot l (Nat.le_refl 8) e2) cvX10_restoreSnapshot mlL_204 rfl rfl rfl hl.1 (by decide) (L_rm hR ⟨rfl, rfl⟩ (by decide) (by decide) (by omega) (by omega)) dL_law_1836 (fun H locs S => ?_)
  exact L_tail X A S hR ht hr hl (by omega) (by omega) dL_law_1839 dL_law_1841 dL_law_1842 dL_law_1845 dL_law_1847 dL_law_1852 dL_law_1854 dL_law_1857 dL_law_1858 dL_law_1859 dL_law_1860 dL_law_1862 dL_law_1863 dL_law_1864 dL_law_1869 rfl (fun H locs ls S hl => J ad _ _ _ _ _ ls (fun _ _ => rfl) S R2 hl)
end CASES
