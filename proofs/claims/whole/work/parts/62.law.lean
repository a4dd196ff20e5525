/-! the law -/
theorem lcmp_self (x : Int64) : lg_cmp x x = 0 := by
  unfold lg_cmp
  rw [if_neg (fun q => Int64.lt_irrefl q), if_pos rfl]
theorem law_cmp {N i : Nat} (hN : N < 2 ^ 31) (hi : i < 2 ^ 31) : nI N - 5 < nI i ↔ N < i + 5 := by
  have h5 : (nI N - 5 : Int32).toInt = (N : Int) - 5 := by
    have e5 : (5 : Int32).toInt = 5 := by decide
    rw [Int32.toInt_sub, nI_toInt hN, e5]
    exact Int.bmod_eq_of_le (by omega) (by omega)
  rw [Int32.lt_iff_toInt_lt, h5, nI_toInt hi]
  omega
/-- both sides are at s -/
def lI (h : tv_H) (s : tT) : Prop := tcs h s ∧ (∃ th, msr h th s) ∧ okZ s ∧ ∃ o, h[505]? = some (102, [.long o])
theorem cS_no {h h1 : tv_H} (f : fr cS h h1) {r : Option tv_E} (ho : h[505]? = r) : h1[505]? = r := (f.2 505 (fun q => absurd (show 505 < 497 from q) (by decide))).trans ho
theorem mS_no {h h1 : tv_H} (f : fr mS h h1) {r : Option tv_E} (ho : h[505]? = r) : h1[505]? = r := (f.2 505 (fun q => absurd q.2 (by decide))).trans ho
theorem cS_m {b : Nat} (hb : mS b) : ¬ cS b := fun q => absurd (show b < 497 from q) (by have := hb.1; omega)
theorem oS_m {b : Nat} (hb : mS b) : ¬ oS b := by
  have := hb.1
  have := hb.2
  rintro (q | q) <;> omega
theorem mS_c {b : Nat} (hb : b < 497) : ¬ mS b := fun q => absurd q.1 (by omega)
abbrev lQ : tv_R → tv_H → Prop := rv (.int 1) (fun _ => True)
section
variable {G : tv_G} {h h' : tv_H} {s : tT} {i r : Nat} {th : Int32} {o : Int64} {u5 u6 : Option Value}
/-- what follows a step -/
abbrev lwN (G : tv_G) (i r : Nat) : Prop := ∀ h' s' u5 u6, lI h' s' → tv_Ev G mm_Lw_law 738 [some (.retAddr G.1), some (.ref 0), some (.ref 497), some (.ref 505), some (.int (nI i)), u5, u6] [] h' r (6 * r) lQ
theorem law_1 (hN : G.2.1 < 2 ^ 31) (hi : i + 5 ≤ G.2.1) (next : lwN G i r) (hI : lI h s) : tv_Ev G mm_Lw_law 153 [some (.retAddr G.1), some (.ref 0), some (.ref 497), some (.ref 505), some (.int (nI i)), u5, u6] [] h (r + 1) (6 * r + 6) lQ := by
  obtain ⟨hs, ⟨th, hm⟩, ok, o, ho⟩ := hI
  refine e_Lw_law_153 rfl ?_
  refine e_Lw_law_154 rfl ?_
  refine e_Lw_law_155 rfl ?_
  refine e_Lw_law_157 ?_
  refine e_Lw_law_158 ?_
  refine e_Lw_law_159 (i + 1) (nI_add i 1) (by omega) hN ?_
  refine e_Lw_law_160 (c := r) (z := 6 * r) (mc' := 1) (ms' := 6) (Nat.le_of_ble_eq_true rfl) (c_Lw_directory hs ok.1) (kv ?_) xn
  rintro h1 ⟨t1, f1⟩
  have m1 := hm.keep f1 (fun _ => cS_m)
  have ho1 := cS_no f1 ho
  obtain ⟨M1, mm1, -⟩ := id m1
  refine e_Lw_law_163 (Nat.le_of_ble_eq_true rfl) ?_
  refine e_Lw_law_165 rfl ?_
  refine e_Lw_law_166 rfl ?_
  refine e_Lw_law_167 rfl ?_
  refine e_Lw_law_169 ?_
  refine e_Lw_law_170 ?_
  refine e_Lw_law_171 (i + 1) (nI_add i 1) (by omega) hN ?_
  refine e_Lw_law_172 (mc' := 0) (ms' := 0) mm1.1 (Nat.le_of_ble_eq_true rfl) (c_Mo_directory m1 ok.1) (kn ?_) xn
  rintro h2 ⟨m2, f2⟩
  have t2 := t1.keep f2 (fun _ => mS_c)
  have ho2 := mS_no f2 ho1
  obtain ⟨M2, mm2, -⟩ := id m2
  refine e_Lw_law_175 rfl ?_
  refine e_Lw_law_176 (mc' := 0) (ms' := 0) mm2.1 (Nat.le_of_ble_eq_true rfl) (c_Mo_thrown mm2) (kp ?_) xn
  refine e_Lw_law_179 rfl ?_
  refine e_Lw_law_181 (fun _ => ?_) (fun c1 => absurd rfl c1)
  exact e_Lw_law_186 (next h2 _ _ _ ⟨t2, ⟨_, m2⟩, mdir_ok ok, _, ho2⟩)
theorem law_2 (hN : G.2.1 < 2 ^ 31) (hi : i + 5 ≤ G.2.1) (next : lwN G i r) (hI : lI h s) : tv_Ev G mm_Lw_law 189 [some (.retAddr G.1), some (.ref 0), some (.ref 497), some (.ref 505), some (.int (nI i)), u5, u6] [] h (r + 1) (6 * r + 6) lQ := by
  obtain ⟨hs, ⟨th, hm⟩, ok, o, ho⟩ := hI
  refine e_Lw_law_189 rfl ?_
  refine e_Lw_law_190 rfl ?_
  refine e_Lw_law_191 rfl ?_
  refine e_Lw_law_193 ?_
  refine e_Lw_law_194 ?_
  refine e_Lw_law_195 (i + 1) (nI_add i 1) (by omega) hN ?_
  refine e_Lw_law_196 rfl ?_
  refine e_Lw_law_197 rfl ?_
  refine e_Lw_law_199 ?_
  refine e_Lw_law_200 ?_
  refine e_Lw_law_201 (i + 2) (nI_add i 2) (by omega) hN ?_
  refine e_Lw_law_202 (c := r) (z := 6 * r) (mc' := 1) (ms' := 6) (Nat.le_of_ble_eq_true rfl) (c_Lw_file hs ok.1) (kv ?_) xn
  rintro h1 ⟨t1, f1⟩
  have m1 := hm.keep f1 (fun _ => cS_m)
  have ho1 := cS_no f1 ho
  obtain ⟨M1, mm1, -⟩ := id m1
  refine e_Lw_law_205 (Nat.le_of_ble_eq_true rfl) ?_
  refine e_Lw_law_207 rfl ?_
  refine e_Lw_law_208 rfl ?_
  refine e_Lw_law_209 rfl ?_
  refine e_Lw_law_211 ?_
  refine e_Lw_law_212 ?_
  refine e_Lw_law_213 (i + 1) (nI_add i 1) (by omega) hN ?_
  refine e_Lw_law_214 rfl ?_
  refine e_Lw_law_215 rfl ?_
  refine e_Lw_law_217 ?_
  refine e_Lw_law_218 ?_
  refine e_Lw_law_219 (i + 2) (nI_add i 2) (by omega) hN ?_
  refine e_Lw_law_220 (mc' := 0) (ms' := 0) mm1.1 (Nat.le_of_ble_eq_true rfl) (c_Mo_file m1 ok.1) (kn ?_) xn
  rintro h2 ⟨m2, f2⟩
  have t2 := t1.keep f2 (fun _ => mS_c)
  have ho2 := mS_no f2 ho1
  obtain ⟨M2, mm2, -⟩ := id m2
  refine e_Lw_law_223 rfl ?_
  refine e_Lw_law_224 (mc' := 0) (ms' := 0) mm2.1 (Nat.le_of_ble_eq_true rfl) (c_Mo_thrown mm2) (kp ?_) xn
  refine e_Lw_law_227 rfl ?_
  refine e_Lw_law_229 (fun _ => ?_) (fun c1 => absurd rfl c1)
  exact e_Lw_law_234 (next h2 _ _ _ ⟨t2, ⟨_, m2⟩, mfil_ok ok, _, ho2⟩)
theorem law_3 (hN : G.2.1 < 2 ^ 31) (hi : i + 5 ≤ G.2.1) (next : lwN G i r) (hI : lI h s) : tv_Ev G mm_Lw_law 237 [some (.retAddr G.1), some (.ref 0), some (.ref 497), some (.ref 505), some (.int (nI i)), u5, u6] [] h (r + 1) (6 * r + 6) lQ := by
  obtain ⟨hs, ⟨th, hm⟩, ok, o, ho⟩ := hI
  refine e_Lw_law_237 rfl ?_
  refine e_Lw_law_238 rfl ?_
  refine e_Lw_law_239 rfl ?_
  refine e_Lw_law_241 ?_
  refine e_Lw_law_242 ?_
  refine e_Lw_law_243 (i + 1) (nI_add i 1) (by omega) hN ?_
  refine e_Lw_law_244 rfl ?_
  refine e_Lw_law_245 rfl ?_
  refine e_Lw_law_247 ?_
  refine e_Lw_law_248 ?_
  refine e_Lw_law_249 (i + 2) (nI_add i 2) (by omega) hN ?_
  refine e_Lw_law_250 (c := r) (z := 6 * r) (mc' := 1) (ms' := 6) (Nat.le_of_ble_eq_true rfl) (c_Lw_add hs ok.1) (kv ?_) xn
  rintro h1 ⟨t1, f1⟩
  have m1 := hm.keep f1 (fun _ => cS_m)
  have ho1 := cS_no f1 ho
  obtain ⟨M1, mm1, -⟩ := id m1
  refine e_Lw_law_253 (Nat.le_of_ble_eq_true rfl) ?_
  refine e_Lw_law_255 rfl ?_
  refine e_Lw_law_256 rfl ?_
  refine e_Lw_law_257 rfl ?_
  refine e_Lw_law_259 ?_
  refine e_Lw_law_260 ?_
  refine e_Lw_law_261 (i + 1) (nI_add i 1) (by omega) hN ?_
  refine e_Lw_law_262 rfl ?_
  refine e_Lw_law_263 rfl ?_
  refine e_Lw_law_265 ?_
  refine e_Lw_law_266 ?_
  refine e_Lw_law_267 (i + 2) (nI_add i 2) (by omega) hN ?_
  refine e_Lw_law_268 (mc' := 0) (ms' := 0) mm1.1 (Nat.le_of_ble_eq_true rfl) (c_Mo_add m1 ok.1) (kn ?_) xn
  rintro h2 ⟨m2, f2⟩
  have t2 := t1.keep f2 (fun _ => mS_c)
  have ho2 := mS_no f2 ho1
  obtain ⟨M2, mm2, -⟩ := id m2
  refine e_Lw_law_271 rfl ?_
  refine e_Lw_law_272 (mc' := 0) (ms' := 0) mm2.1 (Nat.le_of_ble_eq_true rfl) (c_Mo_thrown mm2) (kp ?_) xn
  refine e_Lw_law_275 rfl ?_
  refine e_Lw_law_277 (fun _ => ?_) (fun c1 => absurd rfl c1)
  exact e_Lw_law_282 (next h2 _ _ _ ⟨t2, ⟨_, m2⟩, madd_ok ok, _, ho2⟩)
theorem law_4 (hN : G.2.1 < 2 ^ 31) (hi : i + 5 ≤ G.2.1) (next : lwN G i r) (hI : lI h s) : tv_Ev G mm_Lw_law 285 [some (.retAddr G.1), some (.ref 0), some (.ref 497), some (.ref 505), some (.int (nI i)), u5, u6] [] h (r + 1) (6 * r + 6) lQ := by
  obtain ⟨hs, ⟨th, hm⟩, ok, o, ho⟩ := hI
  refine e_Lw_law_285 rfl ?_
  refine e_Lw_law_286 rfl ?_
  refine e_Lw_law_287 rfl ?_
  refine e_Lw_law_289 ?_
  refine e_Lw_law_290 ?_
  refine e_Lw_law_291 (i + 1) (nI_add i 1) (by omega) hN ?_
  refine e_Lw_law_292 (c := r) (z := 6 * r) (mc' := 1) (ms' := 6) (Nat.le_of_ble_eq_true rfl) (c_Lw_remove hs ok.1) (kv ?_) xn
  rintro h1 ⟨t1, f1⟩
  have m1 := hm.keep f1 (fun _ => cS_m)
  have ho1 := cS_no f1 ho
  obtain ⟨M1, mm1, -⟩ := id m1
  refine e_Lw_law_295 (Nat.le_of_ble_eq_true rfl) ?_
  refine e_Lw_law_297 rfl ?_
  refine e_Lw_law_298 rfl ?_
  refine e_Lw_law_299 rfl ?_
  refine e_Lw_law_301 ?_
  refine e_Lw_law_302 ?_
  refine e_Lw_law_303 (i + 1) (nI_add i 1) (by omega) hN ?_
  refine e_Lw_law_304 (mc' := 0) (ms' := 0) mm1.1 (Nat.le_of_ble_eq_true rfl) (c_Mo_remove m1 ok.1) (kn ?_) xn
  rintro h2 ⟨m2, f2⟩
  have t2 := t1.keep f2 (fun _ => mS_c)
  have ho2 := mS_no f2 ho1
  obtain ⟨M2, mm2, -⟩ := id m2
  refine e_Lw_law_307 rfl ?_
  refine e_Lw_law_308 (mc' := 0) (ms' := 0) mm2.1 (Nat.le_of_ble_eq_true rfl) (c_Mo_thrown mm2) (kp ?_) xn
  refine e_Lw_law_311 rfl ?_
  refine e_Lw_law_313 (fun _ => ?_) (fun c1 => absurd rfl c1)
  exact e_Lw_law_318 (next h2 _ _ _ ⟨t2, ⟨_, m2⟩, mrem_ok ok, _, ho2⟩)
theorem law_5 (hN : G.2.1 < 2 ^ 31) (hi : i + 5 ≤ G.2.1) (next : lwN G i r) (hI : lI h s) : tv_Ev G mm_Lw_law 321 [some (.retAddr G.1), some (.ref 0), some (.ref 497), some (.ref 505), some (.int (nI i)), u5, u6] [] h (r + 1) (6 * r + 6) lQ := by
  obtain ⟨hs, ⟨th, hm⟩, ok, o, ho⟩ := hI
  refine e_Lw_law_321 rfl ?_
  refine e_Lw_law_322 rfl ?_
  refine e_Lw_law_323 rfl ?_
  refine e_Lw_law_325 ?_
  refine e_Lw_law_326 ?_
  refine e_Lw_law_327 (i + 1) (nI_add i 1) (by omega) hN ?_
  refine e_Lw_law_328 rfl ?_
  refine e_Lw_law_329 rfl ?_
  refine e_Lw_law_331 ?_
  refine e_Lw_law_332 ?_
  refine e_Lw_law_333 (i + 2) (nI_add i 2) (by omega) hN ?_
  refine e_Lw_law_334 rfl ?_
  refine e_Lw_law_335 rfl ?_
  refine e_Lw_law_337 ?_
  refine e_Lw_law_338 ?_
  refine e_Lw_law_339 (i + 3) (nI_add i 3) (by omega) hN ?_
  refine e_Lw_law_340 rfl ?_
  refine e_Lw_law_341 rfl ?_
  refine e_Lw_law_343 ?_
  refine e_Lw_law_344 ?_
  refine e_Lw_law_345 (i + 4) (nI_add i 4) (by omega) hN ?_
  refine e_Lw_law_346 (c := r) (z := 6 * r) (mc' := 1) (ms' := 6) (Nat.le_of_ble_eq_true rfl) (c_Lw_move hs ok.1) (kv ?_) xn
  rintro h1 ⟨t1, f1⟩
  have m1 := hm.keep f1 (fun _ => cS_m)
  have ho1 := cS_no f1 ho
  obtain ⟨M1, mm1, -⟩ := id m1
  refine e_Lw_law_349 (Nat.le_of_ble_eq_true rfl) ?_
  refine e_Lw_law_351 rfl ?_
  refine e_Lw_law_352 rfl ?_
  refine e_Lw_law_353 rfl ?_
  refine e_Lw_law_355 ?_
  refine e_Lw_law_356 ?_
  refine e_Lw_law_357 (i + 1) (nI_add i 1) (by omega) hN ?_
  refine e_Lw_law_358 rfl ?_
  refine e_Lw_law_359 rfl ?_
  refine e_Lw_law_361 ?_
  refine e_Lw_law_362 ?_
  refine e_Lw_law_363 (i + 2) (nI_add i 2) (by omega) hN ?_
  refine e_Lw_law_364 rfl ?_
  refine e_Lw_law_365 rfl ?_
  refine e_Lw_law_367 ?_
  refine e_Lw_law_368 ?_
  refine e_Lw_law_369 (i + 3) (nI_add i 3) (by omega) hN ?_
  refine e_Lw_law_370 rfl ?_
  refine e_Lw_law_371 rfl ?_
  refine e_Lw_law_373 ?_
  refine e_Lw_law_374 ?_
  refine e_Lw_law_375 (i + 4) (nI_add i 4) (by omega) hN ?_
  refine e_Lw_law_376 (mc' := 0) (ms' := 0) mm1.1 (Nat.le_of_ble_eq_true rfl) (c_Mo_move m1 ok.1) (kn ?_) xn
  rintro h2 ⟨m2, f2⟩
  have t2 := t1.keep f2 (fun _ => mS_c)
  have ho2 := mS_no f2 ho1
  obtain ⟨M2, mm2, -⟩ := id m2
  refine e_Lw_law_379 rfl ?_
  refine e_Lw_law_380 (mc' := 0) (ms' := 0) mm2.1 (Nat.le_of_ble_eq_true rfl) (c_Mo_thrown mm2) (kp ?_) xn
  refine e_Lw_law_383 rfl ?_
  refine e_Lw_law_385 (fun _ => ?_) (fun c1 => absurd rfl c1)
  exact e_Lw_law_390 (next h2 _ _ _ ⟨t2, ⟨_, m2⟩, mmov_ok ok, _, ho2⟩)
theorem law_6 (hN : G.2.1 < 2 ^ 31) (hi : i + 5 ≤ G.2.1) (next : lwN G i r) (hI : lI h s) : tv_Ev G mm_Lw_law 393 [some (.retAddr G.1), some (.ref 0), some (.ref 497), some (.ref 505), some (.int (nI i)), u5, u6] [] h (r + 1) (6 * r + 6) lQ := by
  obtain ⟨hs, ⟨th, hm⟩, ok, o, ho⟩ := hI
  refine e_Lw_law_393 rfl ?_
  refine e_Lw_law_394 rfl ?_
  refine e_Lw_law_395 rfl ?_
  refine e_Lw_law_397 ?_
  refine e_Lw_law_398 ?_
  refine e_Lw_law_399 (i + 1) (nI_add i 1) (by omega) hN ?_
  refine e_Lw_law_400 rfl ?_
  refine e_Lw_law_401 rfl ?_
  refine e_Lw_law_403 ?_
  refine e_Lw_law_404 ?_
  refine e_Lw_law_405 (i + 2) (nI_add i 2) (by omega) hN ?_
  refine e_Lw_law_406 (c := r) (z := 6 * r) (mc' := 1) (ms' := 6) (Nat.le_of_ble_eq_true rfl) (c_Lw_copy hs ok.1) (kv ?_) xn
  rintro h1 ⟨t1, f1⟩
  have m1 := hm.keep f1 (fun _ => cS_m)
  have ho1 := cS_no f1 ho
  obtain ⟨M1, mm1, -⟩ := id m1
  refine e_Lw_law_409 (Nat.le_of_ble_eq_true rfl) ?_
  refine e_Lw_law_411 rfl ?_
  refine e_Lw_law_412 rfl ?_
  refine e_Lw_law_413 rfl ?_
  refine e_Lw_law_415 ?_
  refine e_Lw_law_416 ?_
  refine e_Lw_law_417 (i + 1) (nI_add i 1) (by omega) hN ?_
  refine e_Lw_law_418 rfl ?_
  refine e_Lw_law_419 rfl ?_
  refine e_Lw_law_421 ?_
  refine e_Lw_law_422 ?_
  refine e_Lw_law_423 (i + 2) (nI_add i 2) (by omega) hN ?_
  refine e_Lw_law_424 (mc' := 0) (ms' := 0) mm1.1 (Nat.le_of_ble_eq_true rfl) (c_Mo_copy m1) (kn ?_) xn
  rintro h2 ⟨m2, f2⟩
  have t2 := t1.keep f2 (fun _ => mS_c)
  have ho2 := mS_no f2 ho1
  obtain ⟨M2, mm2, -⟩ := id m2
  refine e_Lw_law_427 rfl ?_
  refine e_Lw_law_428 (mc' := 0) (ms' := 0) mm2.1 (Nat.le_of_ble_eq_true rfl) (c_Mo_thrown mm2) (kp ?_) xn
  refine e_Lw_law_431 rfl ?_
  refine e_Lw_law_433 (fun _ => ?_) (fun c1 => absurd rfl c1)
  exact e_Lw_law_438 (next h2 _ _ _ ⟨t2, ⟨_, m2⟩, mcpy_ok ok, _, ho2⟩)
theorem law_7 (hN : G.2.1 < 2 ^ 31) (hi : i + 5 ≤ G.2.1) (next : lwN G i r) (hI : lI h s) : tv_Ev G mm_Lw_law 441 [some (.retAddr G.1), some (.ref 0), some (.ref 497), some (.ref 505), some (.int (nI i)), u5, u6] [] h (r + 1) (6 * r + 6) lQ := by
  obtain ⟨hs, ⟨th, hm⟩, ok, o, ho⟩ := hI
  refine e_Lw_law_441 rfl ?_
  refine e_Lw_law_442 rfl ?_
  refine e_Lw_law_443 rfl ?_
  refine e_Lw_law_445 ?_
  refine e_Lw_law_446 ?_
  refine e_Lw_law_447 (i + 1) (nI_add i 1) (by omega) hN ?_
  refine e_Lw_law_448 rfl ?_
  refine e_Lw_law_449 (c := r) (z := 6 * r) (mc' := 1) (ms' := 6) (Nat.le_of_ble_eq_true rfl) (c_Lw_changes hs ok.1 ho) (kv ?_) xn
  rintro h1 ⟨t1, f1, o1, ho1, hv⟩
  have m1 := hm.keep f1 (fun _ => oS_m)
  obtain ⟨M1, mm1, -⟩ := id m1
  refine e_Lw_law_452 (Nat.le_of_ble_eq_true rfl) ?_
  refine e_Lw_law_454 rfl ?_
  refine e_Lw_law_455 rfl ?_
  refine e_Lw_law_456 rfl ?_
  refine e_Lw_law_458 ?_
  refine e_Lw_law_459 ?_
  refine e_Lw_law_460 (i + 1) (nI_add i 1) (by omega) hN ?_
  refine e_Lw_law_461 (mc' := 0) (ms' := 0) mm1.1 (Nat.le_of_ble_eq_true rfl) (c_Mo_changes m1 ok.1) (kv ?_) xn
  rintro h2 ⟨m2, f2⟩
  have t2 := t1.keep f2 (fun _ => mS_c)
  have ho2 := mS_no f2 ho1
  obtain ⟨M2, mm2, -⟩ := id m2
  refine e_Lw_law_464 (Nat.le_of_ble_eq_true rfl) ?_
  refine e_Lw_law_466 rfl ?_
  refine e_Lw_law_467 (mc' := 0) (ms' := 0) mm2.1 (Nat.le_of_ble_eq_true rfl) (c_Mo_thrown mm2) (kp ?_) xn
  refine e_Lw_law_470 rfl ?_
  refine e_Lw_law_472 (fun _ => ?_) (fun c1 => absurd rfl c1)
  refine e_Lw_law_477 rfl ?_
  refine e_Lw_law_479 (fun _ => ?_) (fun c2 => ?_)
  · exact e_Lw_law_494 (next h2 _ _ _ ⟨t2, ⟨_, m2⟩, mchg_ok ok, _, ho2⟩)
  · refine e_Lw_law_482 rfl ?_
    refine e_Lw_law_483 ?_
    refine e_Lw_law_484 0 ho2 rfl rfl (Nat.le_of_ble_eq_true rfl) ?_
    refine e_Lw_law_485 rfl ?_
    refine e_Lw_law_487 ?_
    refine e_Lw_law_488 ?_
    refine e_Lw_law_489 (fun _ => ?_) (fun c3 => absurd ?_ c3)
    · exact e_Lw_law_494 (next h2 _ _ _ ⟨t2, ⟨_, m2⟩, mchg_ok ok, _, ho2⟩)
    · have hle : (mchg s (G.2.2 (i + 1))).1 < 2 ^ 31 := by
        have := mchg_le (s := s) (x := (G.2.2 (i + 1)))
        omega
      have hz : (mchg s (G.2.2 (i + 1))).1 = 0 := (nI_eq (b := 0) hle (by decide)).mp c2
      rw [hv hz]
      have hx : it (G.2.2 (i + 1)) := by
        by_cases q : it (G.2.2 (i + 1))
        · exact q
        · unfold mchg at hz
          rw [if_neg q] at hz
          exact absurd (show 1 = 0 from hz) (by decide)
      rw [if_pos hx]
      exact lcmp_self _
theorem law_8 (hN : G.2.1 < 2 ^ 31) (hi : i + 5 ≤ G.2.1) (next : lwN G i r) (hI : lI h s) : tv_Ev G mm_Lw_law 497 [some (.retAddr G.1), some (.ref 0), some (.ref 497), some (.ref 505), some (.int (nI i)), u5, u6] [] h (r + 1) (6 * r + 6) lQ := by
  obtain ⟨hs, ⟨th, hm⟩, ok, o, ho⟩ := hI
  refine e_Lw_law_497 rfl ?_
  refine e_Lw_law_498 rfl ?_
  refine e_Lw_law_499 rfl ?_
  refine e_Lw_law_501 ?_
  refine e_Lw_law_502 ?_
  refine e_Lw_law_503 (i + 1) (nI_add i 1) (by omega) hN ?_
  refine e_Lw_law_504 rfl ?_
  refine e_Lw_law_505 (c := r) (z := 6 * r) (mc' := 1) (ms' := 6) (Nat.le_of_ble_eq_true rfl) (c_Lw_layer hs ok.1 ho) (kv ?_) xn
  rintro h1 ⟨t1, f1, o1, ho1, hv⟩
  have m1 := hm.keep f1 (fun _ => oS_m)
  obtain ⟨M1, mm1, -⟩ := id m1
  refine e_Lw_law_508 (Nat.le_of_ble_eq_true rfl) ?_
  refine e_Lw_law_510 rfl ?_
  refine e_Lw_law_511 rfl ?_
  refine e_Lw_law_512 rfl ?_
  refine e_Lw_law_514 ?_
  refine e_Lw_law_515 ?_
  refine e_Lw_law_516 (i + 1) (nI_add i 1) (by omega) hN ?_
  refine e_Lw_law_517 (mc' := 0) (ms' := 0) mm1.1 (Nat.le_of_ble_eq_true rfl) (c_Mo_layer m1) (kv ?_) xn
  rintro h2 ⟨m2, f2⟩
  have t2 := t1.keep f2 (fun _ => mS_c)
  have ho2 := mS_no f2 ho1
  obtain ⟨M2, mm2, -⟩ := id m2
  refine e_Lw_law_520 (Nat.le_of_ble_eq_true rfl) ?_
  refine e_Lw_law_522 rfl ?_
  refine e_Lw_law_523 (mc' := 0) (ms' := 0) mm2.1 (Nat.le_of_ble_eq_true rfl) (c_Mo_thrown mm2) (kp ?_) xn
  refine e_Lw_law_526 rfl ?_
  refine e_Lw_law_528 (fun _ => ?_) (fun c1 => absurd rfl c1)
  refine e_Lw_law_533 rfl ?_
  refine e_Lw_law_535 (fun _ => ?_) (fun c2 => ?_)
  · exact e_Lw_law_550 (next h2 _ _ _ ⟨t2, ⟨_, m2⟩, ok, _, ho2⟩)
  · refine e_Lw_law_538 rfl ?_
    refine e_Lw_law_539 ?_
    refine e_Lw_law_540 0 ho2 rfl rfl (Nat.le_of_ble_eq_true rfl) ?_
    refine e_Lw_law_541 rfl ?_
    refine e_Lw_law_543 ?_
    refine e_Lw_law_544 ?_
    refine e_Lw_law_545 (fun _ => ?_) (fun c3 => absurd ?_ c3)
    · exact e_Lw_law_550 (next h2 _ _ _ ⟨t2, ⟨_, m2⟩, ok, _, ho2⟩)
    · have hle : (mlay s (G.2.2 (i + 1))).1 < 2 ^ 31 := by
        have := mlay_le (s := s) (x := (G.2.2 (i + 1)))
        omega
      have hz : (mlay s (G.2.2 (i + 1))).1 = 0 := (nI_eq (b := 0) hle (by decide)).mp c2
      rw [hv hz]
      exact lcmp_self _
theorem law_9 (hN : G.2.1 < 2 ^ 31) (hi : i + 5 ≤ G.2.1) (next : lwN G i r) (hI : lI h s) : tv_Ev G mm_Lw_law 553 [some (.retAddr G.1), some (.ref 0), some (.ref 497), some (.ref 505), some (.int (nI i)), u5, u6] [] h (r + 1) (6 * r + 6) lQ := by
  obtain ⟨hs, ⟨th, hm⟩, ok, o, ho⟩ := hI
  refine e_Lw_law_553 rfl ?_
  refine e_Lw_law_554 rfl ?_
  refine e_Lw_law_555 rfl ?_
  refine e_Lw_law_557 ?_
  refine e_Lw_law_558 ?_
  refine e_Lw_law_559 (i + 1) (nI_add i 1) (by omega) hN ?_
  refine e_Lw_law_560 (c := r) (z := 6 * r) (mc' := 1) (ms' := 6) (Nat.le_of_ble_eq_true rfl) (c_Lw_apply hs ok.1) (kv ?_) xn
  rintro h1 ⟨t1, f1⟩
  have m1 := hm.keep f1 (fun _ => cS_m)
  have ho1 := cS_no f1 ho
  obtain ⟨M1, mm1, -⟩ := id m1
  refine e_Lw_law_563 (Nat.le_of_ble_eq_true rfl) ?_
  refine e_Lw_law_565 rfl ?_
  refine e_Lw_law_566 rfl ?_
  refine e_Lw_law_567 rfl ?_
  refine e_Lw_law_569 ?_
  refine e_Lw_law_570 ?_
  refine e_Lw_law_571 (i + 1) (nI_add i 1) (by omega) hN ?_
  refine e_Lw_law_572 (mc' := 0) (ms' := 0) mm1.1 (Nat.le_of_ble_eq_true rfl) (c_Mo_apply m1 ok.1) (kn ?_) xn
  rintro h2 ⟨m2, f2⟩
  have t2 := t1.keep f2 (fun _ => mS_c)
  have ho2 := mS_no f2 ho1
  obtain ⟨M2, mm2, -⟩ := id m2
  refine e_Lw_law_575 rfl ?_
  refine e_Lw_law_576 (mc' := 0) (ms' := 0) mm2.1 (Nat.le_of_ble_eq_true rfl) (c_Mo_thrown mm2) (kp ?_) xn
  refine e_Lw_law_579 rfl ?_
  refine e_Lw_law_581 (fun _ => ?_) (fun c1 => absurd rfl c1)
  exact e_Lw_law_586 (next h2 _ _ _ ⟨t2, ⟨_, m2⟩, mapp_ok ok, _, ho2⟩)
theorem law_11 (hN : G.2.1 < 2 ^ 31) (hi : i + 5 ≤ G.2.1) (next : lwN G i r) (hI : lI h s) : tv_Ev G mm_Lw_law 602 [some (.retAddr G.1), some (.ref 0), some (.ref 497), some (.ref 505), some (.int (nI i)), u5, u6] [] h (r + 1) (6 * r + 6) lQ := by
  obtain ⟨hs, ⟨th, hm⟩, ok, o, ho⟩ := hI
  refine e_Lw_law_602 rfl ?_
  refine e_Lw_law_603 rfl ?_
  refine e_Lw_law_604 rfl ?_
  refine e_Lw_law_606 ?_
  refine e_Lw_law_607 ?_
  refine e_Lw_law_608 (i + 1) (nI_add i 1) (by omega) hN ?_
  refine e_Lw_law_609 rfl ?_
  refine e_Lw_law_610 (c := r) (z := 6 * r) (mc' := 1) (ms' := 6) (Nat.le_of_ble_eq_true rfl) (c_Lw_entries hs ok.1 ho) (kv ?_) xn
  rintro h1 ⟨t1, f1, o1, ho1, hv⟩
  have m1 := hm.keep f1 (fun _ => oS_m)
  obtain ⟨M1, mm1, -⟩ := id m1
  refine e_Lw_law_613 (Nat.le_of_ble_eq_true rfl) ?_
  refine e_Lw_law_615 rfl ?_
  refine e_Lw_law_616 rfl ?_
  refine e_Lw_law_617 rfl ?_
  refine e_Lw_law_619 ?_
  refine e_Lw_law_620 ?_
  refine e_Lw_law_621 (i + 1) (nI_add i 1) (by omega) hN ?_
  refine e_Lw_law_622 (mc' := 0) (ms' := 0) mm1.1 (Nat.le_of_ble_eq_true rfl) (c_Mo_entries m1) (kv ?_) xn
  rintro h2 ⟨m2, f2⟩
  have t2 := t1.keep f2 (fun _ => mS_c)
  have ho2 := mS_no f2 ho1
  obtain ⟨M2, mm2, -⟩ := id m2
  refine e_Lw_law_625 (Nat.le_of_ble_eq_true rfl) ?_
  refine e_Lw_law_627 rfl ?_
  refine e_Lw_law_628 (mc' := 0) (ms' := 0) mm2.1 (Nat.le_of_ble_eq_true rfl) (c_Mo_thrown mm2) (kp ?_) xn
  refine e_Lw_law_631 rfl ?_
  refine e_Lw_law_633 (fun _ => ?_) (fun c1 => absurd rfl c1)
  refine e_Lw_law_638 rfl ?_
  refine e_Lw_law_640 (fun _ => ?_) (fun c2 => ?_)
  · exact e_Lw_law_655 (next h2 _ _ _ ⟨t2, ⟨_, m2⟩, ok, _, ho2⟩)
  · refine e_Lw_law_643 rfl ?_
    refine e_Lw_law_644 ?_
    refine e_Lw_law_645 0 ho2 rfl rfl (Nat.le_of_ble_eq_true rfl) ?_
    refine e_Lw_law_646 rfl ?_
    refine e_Lw_law_648 ?_
    refine e_Lw_law_649 ?_
    refine e_Lw_law_650 (fun _ => ?_) (fun c3 => absurd ?_ c3)
    · exact e_Lw_law_655 (next h2 _ _ _ ⟨t2, ⟨_, m2⟩, ok, _, ho2⟩)
    · have hle : (if it (G.2.2 (i + 1)) then 0 else 1) < 2 ^ 31 := by
        split <;> omega
      have hz : (if it (G.2.2 (i + 1)) then 0 else 1) = 0 := (nI_eq (b := 0) hle (by decide)).mp c2
      rw [hv hz]
      have hx : it (G.2.2 (i + 1)) := by
        by_cases q : it (G.2.2 (i + 1))
        · exact q
        · rw [if_neg q] at hz
          exact absurd hz (by decide)
      rw [if_pos hx]
      exact lcmp_self _
theorem law_12 (hN : G.2.1 < 2 ^ 31) (hi : i + 5 ≤ G.2.1) (next : lwN G i r) (hI : lI h s) : tv_Ev G mm_Lw_law 658 [some (.retAddr G.1), some (.ref 0), some (.ref 497), some (.ref 505), some (.int (nI i)), u5, u6] [] h (r + 1) (6 * r + 6) lQ := by
  obtain ⟨hs, ⟨th, hm⟩, ok, o, ho⟩ := hI
  refine e_Lw_law_658 rfl ?_
  refine e_Lw_law_659 rfl ?_
  refine e_Lw_law_660 rfl ?_
  refine e_Lw_law_662 ?_
  refine e_Lw_law_663 ?_
  refine e_Lw_law_664 (i + 1) (nI_add i 1) (by omega) hN ?_
  refine e_Lw_law_665 rfl ?_
  refine e_Lw_law_666 rfl ?_
  refine e_Lw_law_668 ?_
  refine e_Lw_law_669 ?_
  refine e_Lw_law_670 (i + 2) (nI_add i 2) (by omega) hN ?_
  refine e_Lw_law_671 rfl ?_
  refine e_Lw_law_672 rfl ?_
  refine e_Lw_law_674 ?_
  refine e_Lw_law_675 ?_
  refine e_Lw_law_676 (i + 3) (nI_add i 3) (by omega) hN ?_
  refine e_Lw_law_677 rfl ?_
  refine e_Lw_law_678 (c := r) (z := 6 * r) (mc' := 1) (ms' := 6) (Nat.le_of_ble_eq_true rfl) (c_Lw_entry hs ok.1 ho) (kv ?_) xn
  rintro h1 ⟨t1, f1, o1, ho1, hv⟩
  have m1 := hm.keep f1 (fun _ => oS_m)
  obtain ⟨M1, mm1, -⟩ := id m1
  refine e_Lw_law_681 (Nat.le_of_ble_eq_true rfl) ?_
  refine e_Lw_law_683 rfl ?_
  refine e_Lw_law_684 rfl ?_
  refine e_Lw_law_685 rfl ?_
  refine e_Lw_law_687 ?_
  refine e_Lw_law_688 ?_
  refine e_Lw_law_689 (i + 1) (nI_add i 1) (by omega) hN ?_
  refine e_Lw_law_690 rfl ?_
  refine e_Lw_law_691 rfl ?_
  refine e_Lw_law_693 ?_
  refine e_Lw_law_694 ?_
  refine e_Lw_law_695 (i + 2) (nI_add i 2) (by omega) hN ?_
  refine e_Lw_law_696 rfl ?_
  refine e_Lw_law_697 rfl ?_
  refine e_Lw_law_699 ?_
  refine e_Lw_law_700 ?_
  refine e_Lw_law_701 (i + 3) (nI_add i 3) (by omega) hN ?_
  refine e_Lw_law_702 (mc' := 0) (ms' := 0) mm1.1 (Nat.le_of_ble_eq_true rfl) (c_Mo_entry m1 ok.1) (kv ?_) xn
  rintro h2 ⟨m2, f2⟩
  have t2 := t1.keep f2 (fun _ => mS_c)
  have ho2 := mS_no f2 ho1
  obtain ⟨M2, mm2, -⟩ := id m2
  refine e_Lw_law_705 (Nat.le_of_ble_eq_true rfl) ?_
  refine e_Lw_law_707 rfl ?_
  refine e_Lw_law_708 (mc' := 0) (ms' := 0) mm2.1 (Nat.le_of_ble_eq_true rfl) (c_Mo_thrown mm2) (kp ?_) xn
  refine e_Lw_law_711 rfl ?_
  refine e_Lw_law_713 (fun _ => ?_) (fun c1 => absurd rfl c1)
  refine e_Lw_law_718 rfl ?_
  refine e_Lw_law_720 (fun _ => ?_) (fun c2 => ?_)
  · exact e_Lw_law_735 (next h2 _ _ _ ⟨t2, ⟨_, m2⟩, ok, _, ho2⟩)
  · refine e_Lw_law_723 rfl ?_
    refine e_Lw_law_724 ?_
    refine e_Lw_law_725 0 ho2 rfl rfl (Nat.le_of_ble_eq_true rfl) ?_
    refine e_Lw_law_726 rfl ?_
    refine e_Lw_law_728 ?_
    refine e_Lw_law_729 ?_
    refine e_Lw_law_730 (fun _ => ?_) (fun c3 => absurd ?_ c3)
    · exact e_Lw_law_735 (next h2 _ _ _ ⟨t2, ⟨_, m2⟩, ok, _, ho2⟩)
    · have hle : (ment s (G.2.2 (i + 1)) (G.2.2 (i + 2)) (G.2.2 (i + 3))).1 < 2 ^ 31 := by
        have := ment_le (s := s) (x := (G.2.2 (i + 1))) (y := (G.2.2 (i + 2))) (w := (G.2.2 (i + 3)))
        omega
      have hz : (ment s (G.2.2 (i + 1)) (G.2.2 (i + 2)) (G.2.2 (i + 3))).1 = 0 := (nI_eq (b := 0) hle (by decide)).mp c2
      rw [hv hz]
      exact lcmp_self _
theorem law_0 (hN : G.2.1 < 2 ^ 31) (hi : i + 5 ≤ G.2.1) (next : lwN G i r) (hI : lI h s) : tv_Ev G mm_Lw_law 104 [some (.retAddr G.1), some (.ref 0), some (.ref 497), some (.ref 505), some (.int (nI i)), u5, u6] [] h (r + 1) (6 * r + 6) lQ := by
  refine ev_room (Nat.le_add_right r 1) (Nat.le_add_right (6 * r) 6) ?_
  obtain ⟨hs, ⟨th, hm⟩, ok, o, ho⟩ := hI
  refine e_Lw_law_104 rfl ?_
  refine e_Lw_law_105 rfl ?_
  refine e_Lw_law_106 rfl ?_
  refine e_Lw_law_108 ?_
  refine e_Lw_law_109 ?_
  refine e_Lw_law_110 (i + 1) (nI_add i 1) (by omega) hN ?_
  refine e_Lw_law_111 rfl ?_
  refine e_Lw_law_112 rfl ?_
  refine e_Lw_law_114 ?_
  refine e_Lw_law_115 ?_
  refine e_Lw_law_116 (i + 2) (nI_add i 2) (by omega) hN ?_
  refine e_Lw_law_117 rfl ?_
  refine e_Lw_law_118 rfl ?_
  refine e_Lw_law_120 ?_
  refine e_Lw_law_121 ?_
  refine e_Lw_law_122 (i + 3) (nI_add i 3) (by omega) hN ?_
  refine e_Lw_law_123 (mc' := 0) (ms' := 0) hs.1 (Nat.le_of_ble_eq_true rfl) (c_Tc_path hs _ _ _) (kv ?_) xn
  rintro h1 ⟨t1, f1⟩
  have m1 := hm.keep f1 (fun _ => cS_m)
  obtain ⟨M1, mm1, -⟩ := id m1
  refine e_Lw_law_126 rfl ?_
  refine e_Lw_law_127 rfl ?_
  refine e_Lw_law_128 rfl ?_
  refine e_Lw_law_130 ?_
  refine e_Lw_law_131 ?_
  refine e_Lw_law_132 (i + 1) (nI_add i 1) (by omega) hN ?_
  refine e_Lw_law_133 rfl ?_
  refine e_Lw_law_134 rfl ?_
  refine e_Lw_law_136 ?_
  refine e_Lw_law_137 ?_
  refine e_Lw_law_138 (i + 2) (nI_add i 2) (by omega) hN ?_
  refine e_Lw_law_139 rfl ?_
  refine e_Lw_law_140 rfl ?_
  refine e_Lw_law_142 ?_
  refine e_Lw_law_143 ?_
  refine e_Lw_law_144 (i + 3) (nI_add i 3) (by omega) hN ?_
  refine e_Lw_law_145 (mc' := 0) (ms' := 0) mm1.1 (Nat.le_of_ble_eq_true rfl) (c_Mo_path m1) (kv ?_) xn
  rintro h2 ⟨m2, f2⟩
  refine e_Lw_law_148 (fun _ => ?_) (fun c1 => absurd rfl c1)
  exact next h2 _ _ _ ⟨t1.keep f2 (fun _ => mS_c), ⟨_, m2⟩, okZ_path ok _ _ _, _, mS_no f2 (cS_no f1 ho)⟩
theorem law_10 (next : lwN G i r) (hI : lI h s) : tv_Ev G mm_Lw_law 589 [some (.retAddr G.1), some (.ref 0), some (.ref 497), some (.ref 505), some (.int (nI i)), u5, u6] [] h (r + 1) (6 * r + 6) lQ := by
  refine ev_room (Nat.le_add_right r 1) (Nat.le_add_right (6 * r) 6) ?_
  obtain ⟨hs, ⟨th, hm⟩, ok, o, ho⟩ := hI
  obtain ⟨M1, mm1, -⟩ := id hm
  refine e_Lw_law_589 rfl ?_
  refine e_Lw_law_590 (mc' := 0) (ms' := 0) hs.1 (Nat.le_of_ble_eq_true rfl) (c_Tc_same hs ok.1.S) (kp ?_) xn
  refine e_Lw_law_593 rfl ?_
  refine e_Lw_law_594 (mc' := 0) (ms' := 0) mm1.1 (Nat.le_of_ble_eq_true rfl) (c_Mo_same hm ok.1) (kv ?_) xn
  rintro h2 ⟨m2, f2⟩
  refine e_Lw_law_597 (fun _ => ?_) (fun c1 => absurd rfl c1)
  exact next h2 _ _ _ ⟨hs.keep f2 (fun _ => mS_c), ⟨_, m2⟩, ok, _, mS_no f2 ho⟩
theorem l_law (hN : G.2.1 < 2 ^ 31) : ∀ r i, G.2.1 < i + 5 * r + 5 → i ≤ G.2.1 → ∀ h s u5 u6, lI h s → tv_Ev G mm_Lw_law 23 [some (.retAddr G.1), some (.ref 0), some (.ref 497), some (.ref 505), some (.int (nI i)), u5, u6] [] h r (6 * r) lQ := by
  intro r
  induction r with
  | zero =>
    intro i h1 h2 h s u5 u6 hI
    refine e_Lw_law_23 rfl ?_
    refine e_Lw_law_25 rfl ?_
    refine e_Lw_law_26 ?_
    refine e_Lw_law_27 ?_
    refine e_Lw_law_28 ?_
    refine e_Lw_law_29 (fun _ => ?_) (fun c1 => absurd ((law_cmp hN (by omega)).mpr (by omega)) c1)
    refine e_Lw_law_744 ?_
    exact e_Lw_law_745 (Or.inr rfl) ⟨rfl, trivial⟩
  | succ r ih =>
    intro i h1 h2 h s u5 u6 hI
    refine e_Lw_law_23 rfl ?_
    refine e_Lw_law_25 rfl ?_
    refine e_Lw_law_26 ?_
    refine e_Lw_law_27 ?_
    refine e_Lw_law_28 ?_
    refine e_Lw_law_29 (fun _ => ?_) (fun c1 => ?_)
    · refine e_Lw_law_744 ?_
      exact e_Lw_law_745 (Or.inr rfl) ⟨rfl, trivial⟩
    · have hi : i + 5 ≤ G.2.1 := Nat.not_lt.mp (fun q => c1 ((law_cmp hN (by omega)).mpr q))
      have next : lwN G i r := by
        intro h' s' v5 v6 hI'
        refine e_Lw_law_738 rfl ?_
        refine e_Lw_law_741 ?_
        rw [show nI i + 5 = nI (i + 5) from nI_add i 5]
        exact ih (i + 5) (by omega) (by omega) h' s' v5 v6 hI'
      rw [show 6 * (r + 1) = 6 * r + 6 from rfl]
      refine e_Lw_law_32 rfl ?_
      refine e_Lw_law_33 rfl ?_
      refine e_Lw_law_35 i rfl (by omega) hN ?_
      refine e_Lw_law_36 ?_
      refine e_Lw_law_38 ?_
      obtain ⟨t, ht, e⟩ := pk_andE (G.2.2 i) (m := 15) 4 (by decide)
      rw [e]
      rcases (show t = 0 ∨ t = 1 ∨ t = 2 ∨ t = 3 ∨ t = 4 ∨ t = 5 ∨ t = 6 ∨ t = 7 ∨ t = 8 ∨ t = 9 ∨ t = 10 ∨ t = 11 ∨ t = 12 ∨ 12 < t by omega) with q | q | q | q | q | q | q | q | q | q | q | q | q | q
      · subst q
        exact e_Lw_law_39_0 (law_0 hN hi next hI)
      · subst q
        exact e_Lw_law_39_1 (law_1 hN hi next hI)
      · subst q
        exact e_Lw_law_39_2 (law_2 hN hi next hI)
      · subst q
        exact e_Lw_law_39_3 (law_3 hN hi next hI)
      · subst q
        exact e_Lw_law_39_4 (law_4 hN hi next hI)
      · subst q
        exact e_Lw_law_39_5 (law_5 hN hi next hI)
      · subst q
        exact e_Lw_law_39_6 (law_6 hN hi next hI)
      · subst q
        exact e_Lw_law_39_7 (law_7 hN hi next hI)
      · subst q
        exact e_Lw_law_39_8 (law_8 hN hi next hI)
      · subst q
        exact e_Lw_law_39_9 (law_9 hN hi next hI)
      · subst q
        exact e_Lw_law_39_10 (law_10 next hI)
      · subst q
        exact e_Lw_law_39_11 (law_11 hN hi next hI)
      · subst q
        exact e_Lw_law_39_12 (law_12 hN hi next hI)
      · refine e_Lw_law_39_d (Or.inr ?_) ?_
        · rw [nI_toInt (by omega)]
          omega
        · exact ev_room (Nat.le_add_right r 1) (Nat.le_add_right (6 * r) 6) (next h s u5 u6 hI)
theorem c_law (hN : G.2.1 < 2 ^ 31) (hi : h = []) {n : Nat} (hn : G.2.1 < 5 * n + 5) : tv_Ev G mm_Lw_law 0 [some (.retAddr G.1), none, none, none, none, none, none] [] h (n + 506) (6 * n + 14876) lQ := by
  subst hi
  rw [show n + 506 = n + 505 + 1 from rfl, show 6 * n + 14876 = 6 * n + 14869 + 7 from rfl]
  refine e_Lw_law_0 ?_
  refine e_Lw_law_3 rfl ?_
  refine e_Lw_law_4 (c := n + 9) (z := 6 * n + 7257) (mc' := 496) (ms' := 7612) (Nat.le_of_ble_eq_true rfl) (c_Tc_init rfl) nx (kn ?_)
  rintro h1 ⟨t1, l1⟩
  refine e_Lw_law_7 (Nat.le_of_ble_eq_true rfl) ?_
  rw [show n + 9 = n + 8 + 1 from rfl, show 6 * n + 7257 = 6 * n + 7248 + 9 from rfl]
  refine e_Lw_law_8 ?_
  rw [l1]
  refine e_Lw_law_11 rfl ?_
  refine e_Lw_law_12 (c := n + 1) (z := 6 * n + 1) (mc' := 7) (ms' := 7247) (Nat.le_of_ble_eq_true rfl) (c_Mo_init (ap_eq l1) (ap_len l1)) nx (kn ?_)
  rintro h2 ⟨m2, g2⟩
  have t2 : tcs h2 ([], [], [], []) := by
    obtain ⟨a1, a2, a3, ⟨u, a4⟩, a5, ⟨q, a6⟩, ⟨q7, k7, c7, a7⟩, a8⟩ := t1
    have g0 : gr 497 505 h1 h2 := ⟨g2.1, fun b hb => (g2.2 b hb).trans (ap_lt (by omega))⟩
    exact ⟨(g0.2 0 (by decide)).trans a1, a2.gr g0 (by decide), a3.gr g0 (by decide), ⟨u, a4.gr g0 (by decide)⟩, a5.gr g0 (by decide), ⟨q, a6.gr g0 (by decide)⟩, ⟨q7, k7, c7, a7.gr g0 (by decide)⟩, a8.gr g0 (by decide)⟩
  refine e_Lw_law_15 (Nat.le_of_ble_eq_true rfl) ?_
  refine e_Lw_law_16 ?_
  refine e_Lw_law_17 (c := n) (z := 6 * n) 1 rfl (by decide) ?_
  rw [g2.1]
  refine e_Lw_law_19 (Nat.le_of_ble_eq_true rfl) ?_
  refine e_Lw_law_20 ?_
  refine e_Lw_law_21 (Nat.le_of_ble_eq_true rfl) ?_
  have f3 : ∀ b, b < 505 → (h2 ++ [(102, List.replicate 1 (Value.long 0))])[b]? = h2[b]? := fun b hb => ap_lt (by rw [g2.1]; exact hb)
  have g3 : gr 505 506 h2 (h2 ++ [(102, List.replicate 1 (Value.long 0))]) := ⟨ap_len g2.1, f3⟩
  have t3 : tcs (h2 ++ [(102, List.replicate 1 (Value.long 0))]) ([], [], [], []) := by
    obtain ⟨a1, a2, a3, ⟨u, a4⟩, a5, ⟨q, a6⟩, ⟨q7, k7, c7, a7⟩, a8⟩ := t2
    exact ⟨(f3 0 (by decide)).trans a1, a2.gr g3 (by decide), a3.gr g3 (by decide), ⟨u, a4.gr g3 (by decide)⟩, a5.gr g3 (by decide), ⟨q, a6.gr g3 (by decide)⟩, ⟨q7, k7, c7, a7.gr g3 (by decide)⟩, a8.gr g3 (by decide)⟩
  have m3 : msr (h2 ++ [(102, List.replicate 1 (Value.long 0))]) 0 ([], [], [], []) := by
    obtain ⟨M, ⟨a1, a2⟩, a3⟩ := m2
    exact ⟨M, ⟨(f3 497 (by decide)).trans a1, fun a ha => (f3 _ (by omega)).trans (a2 a ha)⟩, a3⟩
  exact l_law hN n 0 (by omega) (Nat.zero_le _) _ _ none none ⟨t3, ⟨0, m3⟩, okZ_nil, 0, ap_eq g2.1⟩
end
