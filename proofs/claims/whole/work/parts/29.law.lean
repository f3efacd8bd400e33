theorem lg_cmp_self (v : Int64) : lg_cmp v v = 0 := by
  unfold lg_cmp
  rw [if_neg Int64.lt_irrefl, if_pos rfl]
theorem law_feed {p : Program} {l : Launch} {e : Env} {s : State} {m : MethodId} {below : List Frame} {meth : Method} {c : Code} {G : gG} {b L : Nat} {xs : Nat → Int32} {h : gH} {i : Int32} {Inv : gH → Prop} (hw : gLw G s b L xs) (hin : ∀ k : Int32, (1 ≤ k ∧ k ≤ 5) → vp_in (i + k) L) (hst : gC l G 900 MX11_feed [.ref 0, .int (xs ((i + 1)).toNatClampNeg), .int (xs ((i + 2)).toNatClampNeg), .int (xs ((i + 3)).toNatClampNeg), .int (xs ((i + 4)).toNatClampNeg), .int (xs ((i + 5)).toNatClampNeg)] h (rI fun v1 h1 => gC l G 900 MX12_feed [.ref 82, .int (xs ((i + 1)).toNatClampNeg), .int (xs ((i + 2)).toNatClampNeg), .int (xs ((i + 3)).toNatClampNeg), .int (xs ((i + 4)).toNatClampNeg), .int (xs ((i + 5)).toNatClampNeg)] h1 (rI fun v2 h2 => v1 = v2 ∧ Inv h2))) (hk : ∀ h', Inv h' → gl p l e s m below meth c G b 1204 [some (.ref 1000007), some (.ref 0), some (.ref 82), some (.int i)] [] h') : gl p l e s m below meth c G b 188 [some (.ref 1000007), some (.ref 0), some (.ref 82), some (.int i)] [] h := by
  refine go_aload_n (x := 0) dL_law_188 rfl ?_
  refine go_aload_n (x := 1000007) dL_law_189 rfl ?_
  refine go_iload_n (x := i) dL_law_190 rfl ?_
  refine go_iconst (v := 1) dL_law_191 rfl ?_
  refine go_iadd dL_law_192 ?_
  refine go_sld hw dL_law_193 (hin _ (by decide)) ?_
  refine go_aload_n (x := 1000007) dL_law_194 rfl ?_
  refine go_iload_n (x := i) dL_law_195 rfl ?_
  refine go_iconst (v := 2) dL_law_196 rfl ?_
  refine go_iadd dL_law_197 ?_
  refine go_sld hw dL_law_198 (hin _ (by decide)) ?_
  refine go_aload_n (x := 1000007) dL_law_199 rfl ?_
  refine go_iload_n (x := i) dL_law_200 rfl ?_
  refine go_iconst (v := 3) dL_law_201 rfl ?_
  refine go_iadd dL_law_202 ?_
  refine go_sld hw dL_law_203 (hin _ (by decide)) ?_
  refine go_aload_n (x := 1000007) dL_law_204 rfl ?_
  refine go_iload_n (x := i) dL_law_205 rfl ?_
  refine go_iconst (v := 4) dL_law_206 rfl ?_
  refine go_iadd dL_law_207 ?_
  refine go_sld hw dL_law_208 (hin _ (by decide)) ?_
  refine go_aload_n (x := 1000007) dL_law_209 rfl ?_
  refine go_iload_n (x := i) dL_law_210 rfl ?_
  refine go_iconst (v := 5) dL_law_211 rfl ?_
  refine go_iadd dL_law_212 ?_
  refine go_sld hw dL_law_213 (hin _ (by decide)) ?_
  refine glI5 MX11_feed dL_law_214 lL_13 kX11_feed vX11_feed sh0 (by decide) rfl (Nat.le_of_ble_eq_true rfl) hst ?_
  intro v1 h1 hst
  refine go_aload_n (x := 82) dL_law_217 rfl ?_
  refine go_aload_n (x := 1000007) dL_law_218 rfl ?_
  refine go_iload_n (x := i) dL_law_219 rfl ?_
  refine go_iconst (v := 1) dL_law_220 rfl ?_
  refine go_iadd dL_law_221 ?_
  refine go_sld hw dL_law_222 (hin _ (by decide)) ?_
  refine go_aload_n (x := 1000007) dL_law_223 rfl ?_
  refine go_iload_n (x := i) dL_law_224 rfl ?_
  refine go_iconst (v := 2) dL_law_225 rfl ?_
  refine go_iadd dL_law_226 ?_
  refine go_sld hw dL_law_227 (hin _ (by decide)) ?_
  refine go_aload_n (x := 1000007) dL_law_228 rfl ?_
  refine go_iload_n (x := i) dL_law_229 rfl ?_
  refine go_iconst (v := 3) dL_law_230 rfl ?_
  refine go_iadd dL_law_231 ?_
  refine go_sld hw dL_law_232 (hin _ (by decide)) ?_
  refine go_aload_n (x := 1000007) dL_law_233 rfl ?_
  refine go_iload_n (x := i) dL_law_234 rfl ?_
  refine go_iconst (v := 4) dL_law_235 rfl ?_
  refine go_iadd dL_law_236 ?_
  refine go_sld hw dL_law_237 (hin _ (by decide)) ?_
  refine go_aload_n (x := 1000007) dL_law_238 rfl ?_
  refine go_iload_n (x := i) dL_law_239 rfl ?_
  refine go_iconst (v := 5) dL_law_240 rfl ?_
  refine go_iadd dL_law_241 ?_
  refine go_sld hw dL_law_242 (hin _ (by decide)) ?_
  refine glI5 MX12_feed dL_law_243 lL_17 kX12_feed vX12_feed sh82 (by decide) rfl (Nat.le_of_ble_eq_true rfl) hst ?_
  intro v2 h2 hst
  obtain ⟨hst, hI⟩ := hst
  refine go_icmp_eq 1204 dL_law_246 rfl (fun q => ?_) (fun q => absurd hst q)
  exact hk h2 hI
theorem law_end {p : Program} {l : Launch} {e : Env} {s : State} {m : MethodId} {below : List Frame} {meth : Method} {c : Code} {G : gG} {b L : Nat} {xs : Nat → Int32} {h : gH} {i : Int32} {Inv : gH → Prop} (hw : gLw G s b L xs) (hin : ∀ k : Int32, (1 ≤ k ∧ k ≤ 5) → vp_in (i + k) L) (hst : gC l G 900 MX11_end [.ref 0, .int (xs ((i + 1)).toNatClampNeg)] h (rI fun v1 h1 => gC l G 900 MX12_end [.ref 82, .int (xs ((i + 1)).toNatClampNeg)] h1 (rI fun v2 h2 => v1 = v2 ∧ Inv h2))) (hk : ∀ h', Inv h' → gl p l e s m below meth c G b 1204 [some (.ref 1000007), some (.ref 0), some (.ref 82), some (.int i)] [] h') : gl p l e s m below meth c G b 251 [some (.ref 1000007), some (.ref 0), some (.ref 82), some (.int i)] [] h := by
  refine go_aload_n (x := 0) dL_law_251 rfl ?_
  refine go_aload_n (x := 1000007) dL_law_252 rfl ?_
  refine go_iload_n (x := i) dL_law_253 rfl ?_
  refine go_iconst (v := 1) dL_law_254 rfl ?_
  refine go_iadd dL_law_255 ?_
  refine go_sld hw dL_law_256 (hin _ (by decide)) ?_
  refine glI1 MX11_end dL_law_257 lL_18 kX11_end vX11_end sh0 (by decide) rfl (Nat.le_of_ble_eq_true rfl) hst ?_
  intro v1 h1 hst
  refine go_aload_n (x := 82) dL_law_260 rfl ?_
  refine go_aload_n (x := 1000007) dL_law_261 rfl ?_
  refine go_iload_n (x := i) dL_law_262 rfl ?_
  refine go_iconst (v := 1) dL_law_263 rfl ?_
  refine go_iadd dL_law_264 ?_
  refine go_sld hw dL_law_265 (hin _ (by decide)) ?_
  refine glI1 MX12_end dL_law_266 lL_22 kX12_end vX12_end sh82 (by decide) rfl (Nat.le_of_ble_eq_true rfl) hst ?_
  intro v2 h2 hst
  obtain ⟨hst, hI⟩ := hst
  refine go_icmp_eq 1204 dL_law_269 rfl (fun q => ?_) (fun q => absurd hst q)
  exact hk h2 hI
theorem law_lake {p : Program} {l : Launch} {e : Env} {s : State} {m : MethodId} {below : List Frame} {meth : Method} {c : Code} {G : gG} {b L : Nat} {xs : Nat → Int32} {h : gH} {i : Int32} {Inv : gH → Prop} (hw : gLw G s b L xs) (hin : ∀ k : Int32, (1 ≤ k ∧ k ≤ 5) → vp_in (i + k) L) (hst : gC l G 900 MX11_lake [.ref 0] h (rI fun v1 h1 => gC l G 900 MX12_lake [.ref 82] h1 (rI fun v2 h2 => v1 = v2 ∧ Inv h2))) (hk : ∀ h', Inv h' → gl p l e s m below meth c G b 1204 [some (.ref 1000007), some (.ref 0), some (.ref 82), some (.int i)] [] h') : gl p l e s m below meth c G b 274 [some (.ref 1000007), some (.ref 0), some (.ref 82), some (.int i)] [] h := by
  refine go_aload_n (x := 0) dL_law_274 rfl ?_
  refine glI0 MX11_lake dL_law_275 lL_23 kX11_lake vX11_lake sh0 (by decide) rfl (Nat.le_of_ble_eq_true rfl) hst ?_
  intro v1 h1 hst
  refine go_aload_n (x := 82) dL_law_278 rfl ?_
  refine glI0 MX12_lake dL_law_279 lL_27 kX12_lake vX12_lake sh82 (by decide) rfl (Nat.le_of_ble_eq_true rfl) hst ?_
  intro v2 h2 hst
  obtain ⟨hst, hI⟩ := hst
  refine go_icmp_eq 1204 dL_law_282 rfl (fun q => ?_) (fun q => absurd hst q)
  exact hk h2 hI
theorem law_fault {p : Program} {l : Launch} {e : Env} {s : State} {m : MethodId} {below : List Frame} {meth : Method} {c : Code} {G : gG} {b L : Nat} {xs : Nat → Int32} {h : gH} {i : Int32} {Inv : gH → Prop} (hw : gLw G s b L xs) (hin : ∀ k : Int32, (1 ≤ k ∧ k ≤ 5) → vp_in (i + k) L) (hst : gC l G 900 MX11_fault [.ref 0, .int (xs ((i + 1)).toNatClampNeg)] h (rI fun v1 h1 => gC l G 900 MX12_fault [.ref 82, .int (xs ((i + 1)).toNatClampNeg)] h1 (rI fun v2 h2 => v1 = v2 ∧ Inv h2))) (hk : ∀ h', Inv h' → gl p l e s m below meth c G b 1204 [some (.ref 1000007), some (.ref 0), some (.ref 82), some (.int i)] [] h') : gl p l e s m below meth c G b 287 [some (.ref 1000007), some (.ref 0), some (.ref 82), some (.int i)] [] h := by
  refine go_aload_n (x := 0) dL_law_287 rfl ?_
  refine go_aload_n (x := 1000007) dL_law_288 rfl ?_
  refine go_iload_n (x := i) dL_law_289 rfl ?_
  refine go_iconst (v := 1) dL_law_290 rfl ?_
  refine go_iadd dL_law_291 ?_
  refine go_sld hw dL_law_292 (hin _ (by decide)) ?_
  refine glI1 MX11_fault dL_law_293 lL_28 kX11_fault vX11_fault sh0 (by decide) rfl (Nat.le_of_ble_eq_true rfl) hst ?_
  intro v1 h1 hst
  refine go_aload_n (x := 82) dL_law_296 rfl ?_
  refine go_aload_n (x := 1000007) dL_law_297 rfl ?_
  refine go_iload_n (x := i) dL_law_298 rfl ?_
  refine go_iconst (v := 1) dL_law_299 rfl ?_
  refine go_iadd dL_law_300 ?_
  refine go_sld hw dL_law_301 (hin _ (by decide)) ?_
  refine glI1 MX12_fault dL_law_302 lL_32 kX12_fault vX12_fault sh82 (by decide) rfl (Nat.le_of_ble_eq_true rfl) hst ?_
  intro v2 h2 hst
  obtain ⟨hst, hI⟩ := hst
  refine go_icmp_eq 1204 dL_law_305 rfl (fun q => ?_) (fun q => absurd hst q)
  exact hk h2 hI
theorem law_has {p : Program} {l : Launch} {e : Env} {s : State} {m : MethodId} {below : List Frame} {meth : Method} {c : Code} {G : gG} {b L : Nat} {xs : Nat → Int32} {h : gH} {i : Int32} {Inv : gH → Prop} (hw : gLw G s b L xs) (hin : ∀ k : Int32, (1 ≤ k ∧ k ≤ 5) → vp_in (i + k) L) (hst : gC l G 900 MX11_has [.ref 0, .int (xs ((i + 1)).toNatClampNeg)] h (rI fun v1 h1 => gC l G 900 MX12_has [.ref 82, .int (xs ((i + 1)).toNatClampNeg)] h1 (rI fun v2 h2 => v1 = v2 ∧ Inv h2))) (hk : ∀ h', Inv h' → gl p l e s m below meth c G b 1204 [some (.ref 1000007), some (.ref 0), some (.ref 82), some (.int i)] [] h') : gl p l e s m below meth c G b 310 [some (.ref 1000007), some (.ref 0), some (.ref 82), some (.int i)] [] h := by
  refine go_aload_n (x := 0) dL_law_310 rfl ?_
  refine go_aload_n (x := 1000007) dL_law_311 rfl ?_
  refine go_iload_n (x := i) dL_law_312 rfl ?_
  refine go_iconst (v := 1) dL_law_313 rfl ?_
  refine go_iadd dL_law_314 ?_
  refine go_sld hw dL_law_315 (hin _ (by decide)) ?_
  refine glI1 MX11_has dL_law_316 lL_33 kX11_has vX11_has sh0 (by decide) rfl (Nat.le_of_ble_eq_true rfl) hst ?_
  intro v1 h1 hst
  refine go_aload_n (x := 82) dL_law_319 rfl ?_
  refine go_aload_n (x := 1000007) dL_law_320 rfl ?_
  refine go_iload_n (x := i) dL_law_321 rfl ?_
  refine go_iconst (v := 1) dL_law_322 rfl ?_
  refine go_iadd dL_law_323 ?_
  refine go_sld hw dL_law_324 (hin _ (by decide)) ?_
  refine glI1 MX12_has dL_law_325 lL_36 kX12_has vX12_has sh82 (by decide) rfl (Nat.le_of_ble_eq_true rfl) hst ?_
  intro v2 h2 hst
  obtain ⟨hst, hI⟩ := hst
  refine go_icmp_eq 1204 dL_law_328 rfl (fun q => ?_) (fun q => absurd hst q)
  exact hk h2 hI
theorem law_letter {p : Program} {l : Launch} {e : Env} {s : State} {m : MethodId} {below : List Frame} {meth : Method} {c : Code} {G : gG} {b L : Nat} {xs : Nat → Int32} {h : gH} {i : Int32} {Inv : gH → Prop} (hw : gLw G s b L xs) (hin : ∀ k : Int32, (1 ≤ k ∧ k ≤ 5) → vp_in (i + k) L) (hst : gC l G 900 MX11_letter [.ref 0, .int (xs ((i + 1)).toNatClampNeg), .int (xs ((i + 2)).toNatClampNeg), .int (xs ((i + 3)).toNatClampNeg)] h (rI fun v1 h1 => gC l G 900 MX12_letter [.ref 82, .int (xs ((i + 1)).toNatClampNeg), .int (xs ((i + 2)).toNatClampNeg), .int (xs ((i + 3)).toNatClampNeg)] h1 (rI fun v2 h2 => v1 = v2 ∧ Inv h2))) (hk : ∀ h', Inv h' → gl p l e s m below meth c G b 1204 [some (.ref 1000007), some (.ref 0), some (.ref 82), some (.int i)] [] h') : gl p l e s m below meth c G b 333 [some (.ref 1000007), some (.ref 0), some (.ref 82), some (.int i)] [] h := by
  refine go_aload_n (x := 0) dL_law_333 rfl ?_
  refine go_aload_n (x := 1000007) dL_law_334 rfl ?_
  refine go_iload_n (x := i) dL_law_335 rfl ?_
  refine go_iconst (v := 1) dL_law_336 rfl ?_
  refine go_iadd dL_law_337 ?_
  refine go_sld hw dL_law_338 (hin _ (by decide)) ?_
  refine go_aload_n (x := 1000007) dL_law_339 rfl ?_
  refine go_iload_n (x := i) dL_law_340 rfl ?_
  refine go_iconst (v := 2) dL_law_341 rfl ?_
  refine go_iadd dL_law_342 ?_
  refine go_sld hw dL_law_343 (hin _ (by decide)) ?_
  refine go_aload_n (x := 1000007) dL_law_344 rfl ?_
  refine go_iload_n (x := i) dL_law_345 rfl ?_
  refine go_iconst (v := 3) dL_law_346 rfl ?_
  refine go_iadd dL_law_347 ?_
  refine go_sld hw dL_law_348 (hin _ (by decide)) ?_
  refine glI3 MX11_letter dL_law_349 lL_37 kX11_letter vX11_letter sh0 (by decide) rfl (Nat.le_of_ble_eq_true rfl) hst ?_
  intro v1 h1 hst
  refine go_aload_n (x := 82) dL_law_352 rfl ?_
  refine go_aload_n (x := 1000007) dL_law_353 rfl ?_
  refine go_iload_n (x := i) dL_law_354 rfl ?_
  refine go_iconst (v := 1) dL_law_355 rfl ?_
  refine go_iadd dL_law_356 ?_
  refine go_sld hw dL_law_357 (hin _ (by decide)) ?_
  refine go_aload_n (x := 1000007) dL_law_358 rfl ?_
  refine go_iload_n (x := i) dL_law_359 rfl ?_
  refine go_iconst (v := 2) dL_law_360 rfl ?_
  refine go_iadd dL_law_361 ?_
  refine go_sld hw dL_law_362 (hin _ (by decide)) ?_
  refine go_aload_n (x := 1000007) dL_law_363 rfl ?_
  refine go_iload_n (x := i) dL_law_364 rfl ?_
  refine go_iconst (v := 3) dL_law_365 rfl ?_
  refine go_iadd dL_law_366 ?_
  refine go_sld hw dL_law_367 (hin _ (by decide)) ?_
  refine glI3 MX12_letter dL_law_368 lL_41 kX12_letter vX12_letter sh82 (by decide) rfl (Nat.le_of_ble_eq_true rfl) hst ?_
  intro v2 h2 hst
  obtain ⟨hst, hI⟩ := hst
  refine go_icmp_eq 1204 dL_law_371 rfl (fun q => ?_) (fun q => absurd hst q)
  exact hk h2 hI
theorem law_boat {p : Program} {l : Launch} {e : Env} {s : State} {m : MethodId} {below : List Frame} {meth : Method} {c : Code} {G : gG} {b L : Nat} {xs : Nat → Int32} {h : gH} {i : Int32} {Inv : gH → Prop} (hw : gLw G s b L xs) (hin : ∀ k : Int32, (1 ≤ k ∧ k ≤ 5) → vp_in (i + k) L) (hst : gC l G 900 MX11_boat [.ref 0, .int (xs ((i + 1)).toNatClampNeg), .int (xs ((i + 2)).toNatClampNeg)] h (rI fun v1 h1 => gC l G 900 MX12_boat [.ref 82, .int (xs ((i + 1)).toNatClampNeg), .int (xs ((i + 2)).toNatClampNeg)] h1 (rI fun v2 h2 => v1 = v2 ∧ Inv h2))) (hk : ∀ h', Inv h' → gl p l e s m below meth c G b 1204 [some (.ref 1000007), some (.ref 0), some (.ref 82), some (.int i)] [] h') : gl p l e s m below meth c G b 376 [some (.ref 1000007), some (.ref 0), some (.ref 82), some (.int i)] [] h := by
  refine go_aload_n (x := 0) dL_law_376 rfl ?_
  refine go_aload_n (x := 1000007) dL_law_377 rfl ?_
  refine go_iload_n (x := i) dL_law_378 rfl ?_
  refine go_iconst (v := 1) dL_law_379 rfl ?_
  refine go_iadd dL_law_380 ?_
  refine go_sld hw dL_law_381 (hin _ (by decide)) ?_
  refine go_aload_n (x := 1000007) dL_law_382 rfl ?_
  refine go_iload_n (x := i) dL_law_383 rfl ?_
  refine go_iconst (v := 2) dL_law_384 rfl ?_
  refine go_iadd dL_law_385 ?_
  refine go_sld hw dL_law_386 (hin _ (by decide)) ?_
  refine glI2 MX11_boat dL_law_387 lL_42 kX11_boat vX11_boat sh0 (by decide) rfl (Nat.le_of_ble_eq_true rfl) hst ?_
  intro v1 h1 hst
  refine go_aload_n (x := 82) dL_law_390 rfl ?_
  refine go_aload_n (x := 1000007) dL_law_391 rfl ?_
  refine go_iload_n (x := i) dL_law_392 rfl ?_
  refine go_iconst (v := 1) dL_law_393 rfl ?_
  refine go_iadd dL_law_394 ?_
  refine go_sld hw dL_law_395 (hin _ (by decide)) ?_
  refine go_aload_n (x := 1000007) dL_law_396 rfl ?_
  refine go_iload_n (x := i) dL_law_397 rfl ?_
  refine go_iconst (v := 2) dL_law_398 rfl ?_
  refine go_iadd dL_law_399 ?_
  refine go_sld hw dL_law_400 (hin _ (by decide)) ?_
  refine glI2 MX12_boat dL_law_401 lL_46 kX12_boat vX12_boat sh82 (by decide) rfl (Nat.le_of_ble_eq_true rfl) hst ?_
  intro v2 h2 hst
  obtain ⟨hst, hI⟩ := hst
  refine go_icmp_eq 1204 dL_law_404 rfl (fun q => ?_) (fun q => absurd hst q)
  exact hk h2 hI
theorem law_cell {p : Program} {l : Launch} {e : Env} {s : State} {m : MethodId} {below : List Frame} {meth : Method} {c : Code} {G : gG} {b L : Nat} {xs : Nat → Int32} {h : gH} {i : Int32} {Inv : gH → Prop} (hw : gLw G s b L xs) (hin : ∀ k : Int32, (1 ≤ k ∧ k ≤ 5) → vp_in (i + k) L) (hst : gC l G 900 MX11_cell [.ref 0, .int (xs ((i + 1)).toNatClampNeg), .int (xs ((i + 2)).toNatClampNeg)] h (rI fun v1 h1 => gC l G 900 MX12_cell [.ref 82, .int (xs ((i + 1)).toNatClampNeg), .int (xs ((i + 2)).toNatClampNeg)] h1 (rI fun v2 h2 => v1 = v2 ∧ Inv h2))) (hk : ∀ h', Inv h' → gl p l e s m below meth c G b 1204 [some (.ref 1000007), some (.ref 0), some (.ref 82), some (.int i)] [] h') : gl p l e s m below meth c G b 409 [some (.ref 1000007), some (.ref 0), some (.ref 82), some (.int i)] [] h := by
  refine go_aload_n (x := 0) dL_law_409 rfl ?_
  refine go_aload_n (x := 1000007) dL_law_410 rfl ?_
  refine go_iload_n (x := i) dL_law_411 rfl ?_
  refine go_iconst (v := 1) dL_law_412 rfl ?_
  refine go_iadd dL_law_413 ?_
  refine go_sld hw dL_law_414 (hin _ (by decide)) ?_
  refine go_aload_n (x := 1000007) dL_law_415 rfl ?_
  refine go_iload_n (x := i) dL_law_416 rfl ?_
  refine go_iconst (v := 2) dL_law_417 rfl ?_
  refine go_iadd dL_law_418 ?_
  refine go_sld hw dL_law_419 (hin _ (by decide)) ?_
  refine glI2 MX11_cell dL_law_420 lL_47 kX11_cell vX11_cell sh0 (by decide) rfl (Nat.le_of_ble_eq_true rfl) hst ?_
  intro v1 h1 hst
  refine go_aload_n (x := 82) dL_law_423 rfl ?_
  refine go_aload_n (x := 1000007) dL_law_424 rfl ?_
  refine go_iload_n (x := i) dL_law_425 rfl ?_
  refine go_iconst (v := 1) dL_law_426 rfl ?_
  refine go_iadd dL_law_427 ?_
  refine go_sld hw dL_law_428 (hin _ (by decide)) ?_
  refine go_aload_n (x := 1000007) dL_law_429 rfl ?_
  refine go_iload_n (x := i) dL_law_430 rfl ?_
  refine go_iconst (v := 2) dL_law_431 rfl ?_
  refine go_iadd dL_law_432 ?_
  refine go_sld hw dL_law_433 (hin _ (by decide)) ?_
  refine glI2 MX12_cell dL_law_434 lL_50 kX12_cell vX12_cell sh82 (by decide) rfl (Nat.le_of_ble_eq_true rfl) hst ?_
  intro v2 h2 hst
  obtain ⟨hst, hI⟩ := hst
  refine go_icmp_eq 1204 dL_law_437 rfl (fun q => ?_) (fun q => absurd hst q)
  exact hk h2 hI
theorem law_hand {p : Program} {l : Launch} {e : Env} {s : State} {m : MethodId} {below : List Frame} {meth : Method} {c : Code} {G : gG} {b L : Nat} {xs : Nat → Int32} {h : gH} {i : Int32} {Inv : gH → Prop} (hw : gLw G s b L xs) (hin : ∀ k : Int32, (1 ≤ k ∧ k ≤ 5) → vp_in (i + k) L) (hst : gC l G 900 MX11_hand [.ref 0, .int (xs ((i + 1)).toNatClampNeg), .int (xs ((i + 2)).toNatClampNeg)] h (rI fun v1 h1 => gC l G 900 MX12_hand [.ref 82, .int (xs ((i + 1)).toNatClampNeg), .int (xs ((i + 2)).toNatClampNeg)] h1 (rI fun v2 h2 => v1 = v2 ∧ Inv h2))) (hk : ∀ h', Inv h' → gl p l e s m below meth c G b 1204 [some (.ref 1000007), some (.ref 0), some (.ref 82), some (.int i)] [] h') : gl p l e s m below meth c G b 442 [some (.ref 1000007), some (.ref 0), some (.ref 82), some (.int i)] [] h := by
  refine go_aload_n (x := 0) dL_law_442 rfl ?_
  refine go_aload_n (x := 1000007) dL_law_443 rfl ?_
  refine go_iload_n (x := i) dL_law_444 rfl ?_
  refine go_iconst (v := 1) dL_law_445 rfl ?_
  refine go_iadd dL_law_446 ?_
  refine go_sld hw dL_law_447 (hin _ (by decide)) ?_
  refine go_aload_n (x := 1000007) dL_law_448 rfl ?_
  refine go_iload_n (x := i) dL_law_449 rfl ?_
  refine go_iconst (v := 2) dL_law_450 rfl ?_
  refine go_iadd dL_law_451 ?_
  refine go_sld hw dL_law_452 (hin _ (by decide)) ?_
  refine glI2 MX11_hand dL_law_453 lL_51 kX11_hand vX11_hand sh0 (by decide) rfl (Nat.le_of_ble_eq_true rfl) hst ?_
  intro v1 h1 hst
  refine go_aload_n (x := 82) dL_law_456 rfl ?_
  refine go_aload_n (x := 1000007) dL_law_457 rfl ?_
  refine go_iload_n (x := i) dL_law_458 rfl ?_
  refine go_iconst (v := 1) dL_law_459 rfl ?_
  refine go_iadd dL_law_460 ?_
  refine go_sld hw dL_law_461 (hin _ (by decide)) ?_
  refine go_aload_n (x := 1000007) dL_law_462 rfl ?_
  refine go_iload_n (x := i) dL_law_463 rfl ?_
  refine go_iconst (v := 2) dL_law_464 rfl ?_
  refine go_iadd dL_law_465 ?_
  refine go_sld hw dL_law_466 (hin _ (by decide)) ?_
  refine glI2 MX12_hand dL_law_467 lL_54 kX12_hand vX12_hand sh82 (by decide) rfl (Nat.le_of_ble_eq_true rfl) hst ?_
  intro v2 h2 hst
  obtain ⟨hst, hI⟩ := hst
  refine go_icmp_eq 1204 dL_law_470 rfl (fun q => ?_) (fun q => absurd hst q)
  exact hk h2 hI
theorem law_likes {p : Program} {l : Launch} {e : Env} {s : State} {m : MethodId} {below : List Frame} {meth : Method} {c : Code} {G : gG} {b L : Nat} {xs : Nat → Int32} {h : gH} {i : Int32} {Inv : gH → Prop} (hw : gLw G s b L xs) (hin : ∀ k : Int32, (1 ≤ k ∧ k ≤ 5) → vp_in (i + k) L) (hst : gC l G 900 MX11_likes [.ref 0, .int (xs ((i + 1)).toNatClampNeg), .int (xs ((i + 2)).toNatClampNeg)] h (rI fun v1 h1 => gC l G 900 MX12_likes [.ref 82, .int (xs ((i + 1)).toNatClampNeg), .int (xs ((i + 2)).toNatClampNeg)] h1 (rI fun v2 h2 => v1 = v2 ∧ Inv h2))) (hk : ∀ h', Inv h' → gl p l e s m below meth c G b 1204 [some (.ref 1000007), some (.ref 0), some (.ref 82), some (.int i)] [] h') : gl p l e s m below meth c G b 475 [some (.ref 1000007), some (.ref 0), some (.ref 82), some (.int i)] [] h := by
  refine go_aload_n (x := 0) dL_law_475 rfl ?_
  refine go_aload_n (x := 1000007) dL_law_476 rfl ?_
  refine go_iload_n (x := i) dL_law_477 rfl ?_
  refine go_iconst (v := 1) dL_law_478 rfl ?_
  refine go_iadd dL_law_479 ?_
  refine go_sld hw dL_law_480 (hin _ (by decide)) ?_
  refine go_aload_n (x := 1000007) dL_law_481 rfl ?_
  refine go_iload_n (x := i) dL_law_482 rfl ?_
  refine go_iconst (v := 2) dL_law_483 rfl ?_
  refine go_iadd dL_law_484 ?_
  refine go_sld hw dL_law_485 (hin _ (by decide)) ?_
  refine glI2 MX11_likes dL_law_486 lL_55 kX11_likes vX11_likes sh0 (by decide) rfl (Nat.le_of_ble_eq_true rfl) hst ?_
  intro v1 h1 hst
  refine go_aload_n (x := 82) dL_law_489 rfl ?_
  refine go_aload_n (x := 1000007) dL_law_490 rfl ?_
  refine go_iload_n (x := i) dL_law_491 rfl ?_
  refine go_iconst (v := 1) dL_law_492 rfl ?_
  refine go_iadd dL_law_493 ?_
  refine go_sld hw dL_law_494 (hin _ (by decide)) ?_
  refine go_aload_n (x := 1000007) dL_law_495 rfl ?_
  refine go_iload_n (x := i) dL_law_496 rfl ?_
  refine go_iconst (v := 2) dL_law_497 rfl ?_
  refine go_iadd dL_law_498 ?_
  refine go_sld hw dL_law_499 (hin _ (by decide)) ?_
  refine glI2 MX12_likes dL_law_500 lL_58 kX12_likes vX12_likes sh82 (by decide) rfl (Nat.le_of_ble_eq_true rfl) hst ?_
  intro v2 h2 hst
  obtain ⟨hst, hI⟩ := hst
  refine go_icmp_eq 1204 dL_law_503 rfl (fun q => ?_) (fun q => absurd hst q)
  exact hk h2 hI
theorem law_sky {p : Program} {l : Launch} {e : Env} {s : State} {m : MethodId} {below : List Frame} {meth : Method} {c : Code} {G : gG} {b L : Nat} {xs : Nat → Int32} {h : gH} {i : Int32} {Inv : gH → Prop} (hw : gLw G s b L xs) (hin : ∀ k : Int32, (1 ≤ k ∧ k ≤ 5) → vp_in (i + k) L) (hst : gC l G 900 MX11_sky [.ref 0, .int (xs ((i + 1)).toNatClampNeg)] h (rI fun v1 h1 => gC l G 900 MX12_sky [.ref 82, .int (xs ((i + 1)).toNatClampNeg)] h1 (rI fun v2 h2 => v1 = v2 ∧ Inv h2))) (hk : ∀ h', Inv h' → gl p l e s m below meth c G b 1204 [some (.ref 1000007), some (.ref 0), some (.ref 82), some (.int i)] [] h') : gl p l e s m below meth c G b 508 [some (.ref 1000007), some (.ref 0), some (.ref 82), some (.int i)] [] h := by
  refine go_aload_n (x := 0) dL_law_508 rfl ?_
  refine go_aload_n (x := 1000007) dL_law_509 rfl ?_
  refine go_iload_n (x := i) dL_law_510 rfl ?_
  refine go_iconst (v := 1) dL_law_511 rfl ?_
  refine go_iadd dL_law_512 ?_
  refine go_sld hw dL_law_513 (hin _ (by decide)) ?_
  refine glI1 MX11_sky dL_law_514 lL_59 kX11_sky vX11_sky sh0 (by decide) rfl (Nat.le_of_ble_eq_true rfl) hst ?_
  intro v1 h1 hst
  refine go_aload_n (x := 82) dL_law_517 rfl ?_
  refine go_aload_n (x := 1000007) dL_law_518 rfl ?_
  refine go_iload_n (x := i) dL_law_519 rfl ?_
  refine go_iconst (v := 1) dL_law_520 rfl ?_
  refine go_iadd dL_law_521 ?_
  refine go_sld hw dL_law_522 (hin _ (by decide)) ?_
  refine glI1 MX12_sky dL_law_523 lL_62 kX12_sky vX12_sky sh82 (by decide) rfl (Nat.le_of_ble_eq_true rfl) hst ?_
  intro v2 h2 hst
  obtain ⟨hst, hI⟩ := hst
  refine go_icmp_eq 1204 dL_law_526 rfl (fun q => ?_) (fun q => absurd hst q)
  exact hk h2 hI
theorem law_kept {p : Program} {l : Launch} {e : Env} {s : State} {m : MethodId} {below : List Frame} {meth : Method} {c : Code} {G : gG} {b L : Nat} {xs : Nat → Int32} {h : gH} {i : Int32} {Inv : gH → Prop} (hw : gLw G s b L xs) (hin : ∀ k : Int32, (1 ≤ k ∧ k ≤ 5) → vp_in (i + k) L) (hst : gC l G 900 MX11_kept [.ref 0, .int (xs ((i + 1)).toNatClampNeg), .int (xs ((i + 2)).toNatClampNeg)] h (rI fun v1 h1 => gC l G 900 MX12_kept [.ref 82, .int (xs ((i + 1)).toNatClampNeg), .int (xs ((i + 2)).toNatClampNeg)] h1 (rI fun v2 h2 => v1 = v2 ∧ Inv h2))) (hk : ∀ h', Inv h' → gl p l e s m below meth c G b 1204 [some (.ref 1000007), some (.ref 0), some (.ref 82), some (.int i)] [] h') : gl p l e s m below meth c G b 531 [some (.ref 1000007), some (.ref 0), some (.ref 82), some (.int i)] [] h := by
  refine go_aload_n (x := 0) dL_law_531 rfl ?_
  refine go_aload_n (x := 1000007) dL_law_532 rfl ?_
  refine go_iload_n (x := i) dL_law_533 rfl ?_
  refine go_iconst (v := 1) dL_law_534 rfl ?_
  refine go_iadd dL_law_535 ?_
  refine go_sld hw dL_law_536 (hin _ (by decide)) ?_
  refine go_aload_n (x := 1000007) dL_law_537 rfl ?_
  refine go_iload_n (x := i) dL_law_538 rfl ?_
  refine go_iconst (v := 2) dL_law_539 rfl ?_
  refine go_iadd dL_law_540 ?_
  refine go_sld hw dL_law_541 (hin _ (by decide)) ?_
  refine glI2 MX11_kept dL_law_542 lL_63 kX11_kept vX11_kept sh0 (by decide) rfl (Nat.le_of_ble_eq_true rfl) hst ?_
  intro v1 h1 hst
  refine go_aload_n (x := 82) dL_law_545 rfl ?_
  refine go_aload_n (x := 1000007) dL_law_546 rfl ?_
  refine go_iload_n (x := i) dL_law_547 rfl ?_
  refine go_iconst (v := 1) dL_law_548 rfl ?_
  refine go_iadd dL_law_549 ?_
  refine go_sld hw dL_law_550 (hin _ (by decide)) ?_
  refine go_aload_n (x := 1000007) dL_law_551 rfl ?_
  refine go_iload_n (x := i) dL_law_552 rfl ?_
  refine go_iconst (v := 2) dL_law_553 rfl ?_
  refine go_iadd dL_law_554 ?_
  refine go_sld hw dL_law_555 (hin _ (by decide)) ?_
  refine glI2 MX12_kept dL_law_556 lL_66 kX12_kept vX12_kept sh82 (by decide) rfl (Nat.le_of_ble_eq_true rfl) hst ?_
  intro v2 h2 hst
  obtain ⟨hst, hI⟩ := hst
  refine go_icmp_eq 1204 dL_law_559 rfl (fun q => ?_) (fun q => absurd hst q)
  exact hk h2 hI
theorem law_dread {p : Program} {l : Launch} {e : Env} {s : State} {m : MethodId} {below : List Frame} {meth : Method} {c : Code} {G : gG} {b L : Nat} {xs : Nat → Int32} {h : gH} {i : Int32} {Inv : gH → Prop} (hw : gLw G s b L xs) (hin : ∀ k : Int32, (1 ≤ k ∧ k ≤ 5) → vp_in (i + k) L) (hst : gC l G 900 MX11_dread [.ref 0, .int (xs ((i + 1)).toNatClampNeg), .int (xs ((i + 2)).toNatClampNeg), .int (xs ((i + 3)).toNatClampNeg)] h (rI fun v1 h1 => gC l G 900 MX12_dread [.ref 82, .int (xs ((i + 1)).toNatClampNeg), .int (xs ((i + 2)).toNatClampNeg), .int (xs ((i + 3)).toNatClampNeg)] h1 (rI fun v2 h2 => v1 = v2 ∧ Inv h2))) (hk : ∀ h', Inv h' → gl p l e s m below meth c G b 1204 [some (.ref 1000007), some (.ref 0), some (.ref 82), some (.int i)] [] h') : gl p l e s m below meth c G b 564 [some (.ref 1000007), some (.ref 0), some (.ref 82), some (.int i)] [] h := by
  refine go_aload_n (x := 0) dL_law_564 rfl ?_
  refine go_aload_n (x := 1000007) dL_law_565 rfl ?_
  refine go_iload_n (x := i) dL_law_566 rfl ?_
  refine go_iconst (v := 1) dL_law_567 rfl ?_
  refine go_iadd dL_law_568 ?_
  refine go_sld hw dL_law_569 (hin _ (by decide)) ?_
  refine go_aload_n (x := 1000007) dL_law_570 rfl ?_
  refine go_iload_n (x := i) dL_law_571 rfl ?_
  refine go_iconst (v := 2) dL_law_572 rfl ?_
  refine go_iadd dL_law_573 ?_
  refine go_sld hw dL_law_574 (hin _ (by decide)) ?_
  refine go_aload_n (x := 1000007) dL_law_575 rfl ?_
  refine go_iload_n (x := i) dL_law_576 rfl ?_
  refine go_iconst (v := 3) dL_law_577 rfl ?_
  refine go_iadd dL_law_578 ?_
  refine go_sld hw dL_law_579 (hin _ (by decide)) ?_
  refine glI3 MX11_dread dL_law_580 lL_67 kX11_dread vX11_dread sh0 (by decide) rfl (Nat.le_of_ble_eq_true rfl) hst ?_
  intro v1 h1 hst
  refine go_aload_n (x := 82) dL_law_583 rfl ?_
  refine go_aload_n (x := 1000007) dL_law_584 rfl ?_
  refine go_iload_n (x := i) dL_law_585 rfl ?_
  refine go_iconst (v := 1) dL_law_586 rfl ?_
  refine go_iadd dL_law_587 ?_
  refine go_sld hw dL_law_588 (hin _ (by decide)) ?_
  refine go_aload_n (x := 1000007) dL_law_589 rfl ?_
  refine go_iload_n (x := i) dL_law_590 rfl ?_
  refine go_iconst (v := 2) dL_law_591 rfl ?_
  refine go_iadd dL_law_592 ?_
  refine go_sld hw dL_law_593 (hin _ (by decide)) ?_
  refine go_aload_n (x := 1000007) dL_law_594 rfl ?_
  refine go_iload_n (x := i) dL_law_595 rfl ?_
  refine go_iconst (v := 3) dL_law_596 rfl ?_
  refine go_iadd dL_law_597 ?_
  refine go_sld hw dL_law_598 (hin _ (by decide)) ?_
  refine glI3 MX12_dread dL_law_599 lL_70 kX12_dread vX12_dread sh82 (by decide) rfl (Nat.le_of_ble_eq_true rfl) hst ?_
  intro v2 h2 hst
  obtain ⟨hst, hI⟩ := hst
  refine go_icmp_eq 1204 dL_law_602 rfl (fun q => ?_) (fun q => absurd hst q)
  exact hk h2 hI
theorem law_route {p : Program} {l : Launch} {e : Env} {s : State} {m : MethodId} {below : List Frame} {meth : Method} {c : Code} {G : gG} {b L : Nat} {xs : Nat → Int32} {h : gH} {i : Int32} {Inv : gH → Prop} (hw : gLw G s b L xs) (hin : ∀ k : Int32, (1 ≤ k ∧ k ≤ 5) → vp_in (i + k) L) (hst : gC l G 900 MX11_route [.ref 0, .int (xs ((i + 1)).toNatClampNeg), .int (xs ((i + 2)).toNatClampNeg), .int (xs ((i + 3)).toNatClampNeg)] h (rI fun v1 h1 => gC l G 900 MX12_route [.ref 82, .int (xs ((i + 1)).toNatClampNeg), .int (xs ((i + 2)).toNatClampNeg), .int (xs ((i + 3)).toNatClampNeg)] h1 (rI fun v2 h2 => v1 = v2 ∧ Inv h2))) (hk : ∀ h', Inv h' → gl p l e s m below meth c G b 1204 [some (.ref 1000007), some (.ref 0), some (.ref 82), some (.int i)] [] h') : gl p l e s m below meth c G b 607 [some (.ref 1000007), some (.ref 0), some (.ref 82), some (.int i)] [] h := by
  refine go_aload_n (x := 0) dL_law_607 rfl ?_
  refine go_aload_n (x := 1000007) dL_law_608 rfl ?_
  refine go_iload_n (x := i) dL_law_609 rfl ?_
  refine go_iconst (v := 1) dL_law_610 rfl ?_
  refine go_iadd dL_law_611 ?_
  refine go_sld hw dL_law_612 (hin _ (by decide)) ?_
  refine go_aload_n (x := 1000007) dL_law_613 rfl ?_
  refine go_iload_n (x := i) dL_law_614 rfl ?_
  refine go_iconst (v := 2) dL_law_615 rfl ?_
  refine go_iadd dL_law_616 ?_
  refine go_sld hw dL_law_617 (hin _ (by decide)) ?_
  refine go_aload_n (x := 1000007) dL_law_618 rfl ?_
  refine go_iload_n (x := i) dL_law_619 rfl ?_
  refine go_iconst (v := 3) dL_law_620 rfl ?_
  refine go_iadd dL_law_621 ?_
  refine go_sld hw dL_law_622 (hin _ (by decide)) ?_
  refine glI3 MX11_route dL_law_623 lL_71 kX11_route vX11_route sh0 (by decide) rfl (Nat.le_of_ble_eq_true rfl) hst ?_
  intro v1 h1 hst
  refine go_aload_n (x := 82) dL_law_626 rfl ?_
  refine go_aload_n (x := 1000007) dL_law_627 rfl ?_
  refine go_iload_n (x := i) dL_law_628 rfl ?_
  refine go_iconst (v := 1) dL_law_629 rfl ?_
  refine go_iadd dL_law_630 ?_
  refine go_sld hw dL_law_631 (hin _ (by decide)) ?_
  refine go_aload_n (x := 1000007) dL_law_632 rfl ?_
  refine go_iload_n (x := i) dL_law_633 rfl ?_
  refine go_iconst (v := 2) dL_law_634 rfl ?_
  refine go_iadd dL_law_635 ?_
  refine go_sld hw dL_law_636 (hin _ (by decide)) ?_
  refine go_aload_n (x := 1000007) dL_law_637 rfl ?_
  refine go_iload_n (x := i) dL_law_638 rfl ?_
  refine go_iconst (v := 3) dL_law_639 rfl ?_
  refine go_iadd dL_law_640 ?_
  refine go_sld hw dL_law_641 (hin _ (by decide)) ?_
  refine glI3 MX12_route dL_law_642 lL_74 kX12_route vX12_route sh82 (by decide) rfl (Nat.le_of_ble_eq_true rfl) hst ?_
  intro v2 h2 hst
  obtain ⟨hst, hI⟩ := hst
  refine go_icmp_eq 1204 dL_law_645 rfl (fun q => ?_) (fun q => absurd hst q)
  exact hk h2 hI
theorem law_gentle {p : Program} {l : Launch} {e : Env} {s : State} {m : MethodId} {below : List Frame} {meth : Method} {c : Code} {G : gG} {b L : Nat} {xs : Nat → Int32} {h : gH} {i : Int32} {Inv : gH → Prop} (hw : gLw G s b L xs) (hin : ∀ k : Int32, (1 ≤ k ∧ k ≤ 5) → vp_in (i + k) L) (hst : gC l G 900 MX11_gentle [.ref 0, .int (xs ((i + 1)).toNatClampNeg), .int (xs ((i + 2)).toNatClampNeg), .int (xs ((i + 3)).toNatClampNeg)] h (rI fun v1 h1 => gC l G 900 MX12_gentle [.ref 82, .int (xs ((i + 1)).toNatClampNeg), .int (xs ((i + 2)).toNatClampNeg), .int (xs ((i + 3)).toNatClampNeg)] h1 (rI fun v2 h2 => v1 = v2 ∧ Inv h2))) (hk : ∀ h', Inv h' → gl p l e s m below meth c G b 1204 [some (.ref 1000007), some (.ref 0), some (.ref 82), some (.int i)] [] h') : gl p l e s m below meth c G b 650 [some (.ref 1000007), some (.ref 0), some (.ref 82), some (.int i)] [] h := by
  refine go_aload_n (x := 0) dL_law_650 rfl ?_
  refine go_aload_n (x := 1000007) dL_law_651 rfl ?_
  refine go_iload_n (x := i) dL_law_652 rfl ?_
  refine go_iconst (v := 1) dL_law_653 rfl ?_
  refine go_iadd dL_law_654 ?_
  refine go_sld hw dL_law_655 (hin _ (by decide)) ?_
  refine go_aload_n (x := 1000007) dL_law_656 rfl ?_
  refine go_iload_n (x := i) dL_law_657 rfl ?_
  refine go_iconst (v := 2) dL_law_658 rfl ?_
  refine go_iadd dL_law_659 ?_
  refine go_sld hw dL_law_660 (hin _ (by decide)) ?_
  refine go_aload_n (x := 1000007) dL_law_661 rfl ?_
  refine go_iload_n (x := i) dL_law_662 rfl ?_
  refine go_iconst (v := 3) dL_law_663 rfl ?_
  refine go_iadd dL_law_664 ?_
  refine go_sld hw dL_law_665 (hin _ (by decide)) ?_
  refine glI3 MX11_gentle dL_law_666 lL_75 kX11_gentle vX11_gentle sh0 (by decide) rfl (Nat.le_of_ble_eq_true rfl) hst ?_
  intro v1 h1 hst
  refine go_aload_n (x := 82) dL_law_669 rfl ?_
  refine go_aload_n (x := 1000007) dL_law_670 rfl ?_
  refine go_iload_n (x := i) dL_law_671 rfl ?_
  refine go_iconst (v := 1) dL_law_672 rfl ?_
  refine go_iadd dL_law_673 ?_
  refine go_sld hw dL_law_674 (hin _ (by decide)) ?_
  refine go_aload_n (x := 1000007) dL_law_675 rfl ?_
  refine go_iload_n (x := i) dL_law_676 rfl ?_
  refine go_iconst (v := 2) dL_law_677 rfl ?_
  refine go_iadd dL_law_678 ?_
  refine go_sld hw dL_law_679 (hin _ (by decide)) ?_
  refine go_aload_n (x := 1000007) dL_law_680 rfl ?_
  refine go_iload_n (x := i) dL_law_681 rfl ?_
  refine go_iconst (v := 3) dL_law_682 rfl ?_
  refine go_iadd dL_law_683 ?_
  refine go_sld hw dL_law_684 (hin _ (by decide)) ?_
  refine glI3 MX12_gentle dL_law_685 lL_78 kX12_gentle vX12_gentle sh82 (by decide) rfl (Nat.le_of_ble_eq_true rfl) hst ?_
  intro v2 h2 hst
  obtain ⟨hst, hI⟩ := hst
  refine go_icmp_eq 1204 dL_law_688 rfl (fun q => ?_) (fun q => absurd hst q)
  exact hk h2 hI
theorem law_runs {p : Program} {l : Launch} {e : Env} {s : State} {m : MethodId} {below : List Frame} {meth : Method} {c : Code} {G : gG} {b L : Nat} {xs : Nat → Int32} {h : gH} {i : Int32} {Inv : gH → Prop} (hw : gLw G s b L xs) (hin : ∀ k : Int32, (1 ≤ k ∧ k ≤ 5) → vp_in (i + k) L) (hst : gC l G 900 MX11_runs [.ref 0, .int (xs ((i + 1)).toNatClampNeg), .int (xs ((i + 2)).toNatClampNeg)] h (rI fun v1 h1 => gC l G 900 MX12_runs [.ref 82, .int (xs ((i + 1)).toNatClampNeg), .int (xs ((i + 2)).toNatClampNeg)] h1 (rI fun v2 h2 => v1 = v2 ∧ Inv h2))) (hk : ∀ h', Inv h' → gl p l e s m below meth c G b 1204 [some (.ref 1000007), some (.ref 0), some (.ref 82), some (.int i)] [] h') : gl p l e s m below meth c G b 693 [some (.ref 1000007), some (.ref 0), some (.ref 82), some (.int i)] [] h := by
  refine go_aload_n (x := 0) dL_law_693 rfl ?_
  refine go_aload_n (x := 1000007) dL_law_694 rfl ?_
  refine go_iload_n (x := i) dL_law_695 rfl ?_
  refine go_iconst (v := 1) dL_law_696 rfl ?_
  refine go_iadd dL_law_697 ?_
  refine go_sld hw dL_law_698 (hin _ (by decide)) ?_
  refine go_aload_n (x := 1000007) dL_law_699 rfl ?_
  refine go_iload_n (x := i) dL_law_700 rfl ?_
  refine go_iconst (v := 2) dL_law_701 rfl ?_
  refine go_iadd dL_law_702 ?_
  refine go_sld hw dL_law_703 (hin _ (by decide)) ?_
  refine glI2 MX11_runs dL_law_704 lL_79 kX11_runs vX11_runs sh0 (by decide) rfl (Nat.le_of_ble_eq_true rfl) hst ?_
  intro v1 h1 hst
  refine go_aload_n (x := 82) dL_law_707 rfl ?_
  refine go_aload_n (x := 1000007) dL_law_708 rfl ?_
  refine go_iload_n (x := i) dL_law_709 rfl ?_
  refine go_iconst (v := 1) dL_law_710 rfl ?_
  refine go_iadd dL_law_711 ?_
  refine go_sld hw dL_law_712 (hin _ (by decide)) ?_
  refine go_aload_n (x := 1000007) dL_law_713 rfl ?_
  refine go_iload_n (x := i) dL_law_714 rfl ?_
  refine go_iconst (v := 2) dL_law_715 rfl ?_
  refine go_iadd dL_law_716 ?_
  refine go_sld hw dL_law_717 (hin _ (by decide)) ?_
  refine glI2 MX12_runs dL_law_718 lL_82 kX12_runs vX12_runs sh82 (by decide) rfl (Nat.le_of_ble_eq_true rfl) hst ?_
  intro v2 h2 hst
  obtain ⟨hst, hI⟩ := hst
  refine go_icmp_eq 1204 dL_law_721 rfl (fun q => ?_) (fun q => absurd hst q)
  exact hk h2 hI
theorem law_order {p : Program} {l : Launch} {e : Env} {s : State} {m : MethodId} {below : List Frame} {meth : Method} {c : Code} {G : gG} {b L : Nat} {xs : Nat → Int32} {h : gH} {i : Int32} {Inv : gH → Prop} (hw : gLw G s b L xs) (hin : ∀ k : Int32, (1 ≤ k ∧ k ≤ 5) → vp_in (i + k) L) (hst : gC l G 900 MX11_order [.ref 0, .int (xs ((i + 1)).toNatClampNeg), .int (xs ((i + 2)).toNatClampNeg), .int (xs ((i + 3)).toNatClampNeg)] h (rI fun v1 h1 => gC l G 900 MX12_order [.ref 82, .int (xs ((i + 1)).toNatClampNeg), .int (xs ((i + 2)).toNatClampNeg), .int (xs ((i + 3)).toNatClampNeg)] h1 (rI fun v2 h2 => v1 = v2 ∧ Inv h2))) (hk : ∀ h', Inv h' → gl p l e s m below meth c G b 1204 [some (.ref 1000007), some (.ref 0), some (.ref 82), some (.int i)] [] h') : gl p l e s m below meth c G b 726 [some (.ref 1000007), some (.ref 0), some (.ref 82), some (.int i)] [] h := by
  refine go_aload_n (x := 0) dL_law_726 rfl ?_
  refine go_aload_n (x := 1000007) dL_law_727 rfl ?_
  refine go_iload_n (x := i) dL_law_728 rfl ?_
  refine go_iconst (v := 1) dL_law_729 rfl ?_
  refine go_iadd dL_law_730 ?_
  refine go_sld hw dL_law_731 (hin _ (by decide)) ?_
  refine go_aload_n (x := 1000007) dL_law_732 rfl ?_
  refine go_iload_n (x := i) dL_law_733 rfl ?_
  refine go_iconst (v := 2) dL_law_734 rfl ?_
  refine go_iadd dL_law_735 ?_
  refine go_sld hw dL_law_736 (hin _ (by decide)) ?_
  refine go_aload_n (x := 1000007) dL_law_737 rfl ?_
  refine go_iload_n (x := i) dL_law_738 rfl ?_
  refine go_iconst (v := 3) dL_law_739 rfl ?_
  refine go_iadd dL_law_740 ?_
  refine go_sld hw dL_law_741 (hin _ (by decide)) ?_
  refine glI3 MX11_order dL_law_742 lL_83 kX11_order vX11_order sh0 (by decide) rfl (Nat.le_of_ble_eq_true rfl) hst ?_
  intro v1 h1 hst
  refine go_aload_n (x := 82) dL_law_745 rfl ?_
  refine go_aload_n (x := 1000007) dL_law_746 rfl ?_
  refine go_iload_n (x := i) dL_law_747 rfl ?_
  refine go_iconst (v := 1) dL_law_748 rfl ?_
  refine go_iadd dL_law_749 ?_
  refine go_sld hw dL_law_750 (hin _ (by decide)) ?_
  refine go_aload_n (x := 1000007) dL_law_751 rfl ?_
  refine go_iload_n (x := i) dL_law_752 rfl ?_
  refine go_iconst (v := 2) dL_law_753 rfl ?_
  refine go_iadd dL_law_754 ?_
  refine go_sld hw dL_law_755 (hin _ (by decide)) ?_
  refine go_aload_n (x := 1000007) dL_law_756 rfl ?_
  refine go_iload_n (x := i) dL_law_757 rfl ?_
  refine go_iconst (v := 3) dL_law_758 rfl ?_
  refine go_iadd dL_law_759 ?_
  refine go_sld hw dL_law_760 (hin _ (by decide)) ?_
  refine glI3 MX12_order dL_law_761 lL_86 kX12_order vX12_order sh82 (by decide) rfl (Nat.le_of_ble_eq_true rfl) hst ?_
  intro v2 h2 hst
  obtain ⟨hst, hI⟩ := hst
  refine go_icmp_eq 1204 dL_law_764 rfl (fun q => ?_) (fun q => absurd hst q)
  exact hk h2 hI
theorem law_lead {p : Program} {l : Launch} {e : Env} {s : State} {m : MethodId} {below : List Frame} {meth : Method} {c : Code} {G : gG} {b L : Nat} {xs : Nat → Int32} {h : gH} {i : Int32} {Inv : gH → Prop} (hw : gLw G s b L xs) (hin : ∀ k : Int32, (1 ≤ k ∧ k ≤ 5) → vp_in (i + k) L) (hst : gC l G 900 MX11_lead [.ref 0, .int (xs ((i + 1)).toNatClampNeg), .int (xs ((i + 2)).toNatClampNeg), .int (xs ((i + 3)).toNatClampNeg)] h (rI fun v1 h1 => gC l G 900 MX12_lead [.ref 82, .int (xs ((i + 1)).toNatClampNeg), .int (xs ((i + 2)).toNatClampNeg), .int (xs ((i + 3)).toNatClampNeg)] h1 (rI fun v2 h2 => v1 = v2 ∧ Inv h2))) (hk : ∀ h', Inv h' → gl p l e s m below meth c G b 1204 [some (.ref 1000007), some (.ref 0), some (.ref 82), some (.int i)] [] h') : gl p l e s m below meth c G b 769 [some (.ref 1000007), some (.ref 0), some (.ref 82), some (.int i)] [] h := by
  refine go_aload_n (x := 0) dL_law_769 rfl ?_
  refine go_aload_n (x := 1000007) dL_law_770 rfl ?_
  refine go_iload_n (x := i) dL_law_771 rfl ?_
  refine go_iconst (v := 1) dL_law_772 rfl ?_
  refine go_iadd dL_law_773 ?_
  refine go_sld hw dL_law_774 (hin _ (by decide)) ?_
  refine go_aload_n (x := 1000007) dL_law_775 rfl ?_
  refine go_iload_n (x := i) dL_law_776 rfl ?_
  refine go_iconst (v := 2) dL_law_777 rfl ?_
  refine go_iadd dL_law_778 ?_
  refine go_sld hw dL_law_779 (hin _ (by decide)) ?_
  refine go_aload_n (x := 1000007) dL_law_780 rfl ?_
  refine go_iload_n (x := i) dL_law_781 rfl ?_
  refine go_iconst (v := 3) dL_law_782 rfl ?_
  refine go_iadd dL_law_783 ?_
  refine go_sld hw dL_law_784 (hin _ (by decide)) ?_
  refine glI3 MX11_lead dL_law_785 lL_87 kX11_lead vX11_lead sh0 (by decide) rfl (Nat.le_of_ble_eq_true rfl) hst ?_
  intro v1 h1 hst
  refine go_aload_n (x := 82) dL_law_788 rfl ?_
  refine go_aload_n (x := 1000007) dL_law_789 rfl ?_
  refine go_iload_n (x := i) dL_law_790 rfl ?_
  refine go_iconst (v := 1) dL_law_791 rfl ?_
  refine go_iadd dL_law_792 ?_
  refine go_sld hw dL_law_793 (hin _ (by decide)) ?_
  refine go_aload_n (x := 1000007) dL_law_794 rfl ?_
  refine go_iload_n (x := i) dL_law_795 rfl ?_
  refine go_iconst (v := 2) dL_law_796 rfl ?_
  refine go_iadd dL_law_797 ?_
  refine go_sld hw dL_law_798 (hin _ (by decide)) ?_
  refine go_aload_n (x := 1000007) dL_law_799 rfl ?_
  refine go_iload_n (x := i) dL_law_800 rfl ?_
  refine go_iconst (v := 3) dL_law_801 rfl ?_
  refine go_iadd dL_law_802 ?_
  refine go_sld hw dL_law_803 (hin _ (by decide)) ?_
  refine glI3 MX12_lead dL_law_804 lL_90 kX12_lead vX12_lead sh82 (by decide) rfl (Nat.le_of_ble_eq_true rfl) hst ?_
  intro v2 h2 hst
  obtain ⟨hst, hI⟩ := hst
  refine go_icmp_eq 1204 dL_law_807 rfl (fun q => ?_) (fun q => absurd hst q)
  exact hk h2 hI
theorem law_match {p : Program} {l : Launch} {e : Env} {s : State} {m : MethodId} {below : List Frame} {meth : Method} {c : Code} {G : gG} {b L : Nat} {xs : Nat → Int32} {h : gH} {i : Int32} {Inv : gH → Prop} (hw : gLw G s b L xs) (hin : ∀ k : Int32, (1 ≤ k ∧ k ≤ 5) → vp_in (i + k) L) (hst : gC l G 900 MX11_match [.ref 0, .int (xs ((i + 1)).toNatClampNeg)] h (rI fun v1 h1 => gC l G 900 MX12_match [.ref 82, .int (xs ((i + 1)).toNatClampNeg)] h1 (rI fun v2 h2 => v1 = v2 ∧ Inv h2))) (hk : ∀ h', Inv h' → gl p l e s m below meth c G b 1204 [some (.ref 1000007), some (.ref 0), some (.ref 82), some (.int i)] [] h') : gl p l e s m below meth c G b 812 [some (.ref 1000007), some (.ref 0), some (.ref 82), some (.int i)] [] h := by
  refine go_aload_n (x := 0) dL_law_812 rfl ?_
  refine go_aload_n (x := 1000007) dL_law_813 rfl ?_
  refine go_iload_n (x := i) dL_law_814 rfl ?_
  refine go_iconst (v := 1) dL_law_815 rfl ?_
  refine go_iadd dL_law_816 ?_
  refine go_sld hw dL_law_817 (hin _ (by decide)) ?_
  refine glI1 MX11_match dL_law_818 lL_91 kX11_match vX11_match sh0 (by decide) rfl (Nat.le_of_ble_eq_true rfl) hst ?_
  intro v1 h1 hst
  refine go_aload_n (x := 82) dL_law_821 rfl ?_
  refine go_aload_n (x := 1000007) dL_law_822 rfl ?_
  refine go_iload_n (x := i) dL_law_823 rfl ?_
  refine go_iconst (v := 1) dL_law_824 rfl ?_
  refine go_iadd dL_law_825 ?_
  refine go_sld hw dL_law_826 (hin _ (by decide)) ?_
  refine glI1 MX12_match dL_law_827 lL_94 kX12_match vX12_match sh82 (by decide) rfl (Nat.le_of_ble_eq_true rfl) hst ?_
  intro v2 h2 hst
  obtain ⟨hst, hI⟩ := hst
  refine go_icmp_eq 1204 dL_law_830 rfl (fun q => ?_) (fun q => absurd hst q)
  exact hk h2 hI
theorem law_trials {p : Program} {l : Launch} {e : Env} {s : State} {m : MethodId} {below : List Frame} {meth : Method} {c : Code} {G : gG} {b L : Nat} {xs : Nat → Int32} {h : gH} {i : Int32} {Inv : gH → Prop} (hw : gLw G s b L xs) (hin : ∀ k : Int32, (1 ≤ k ∧ k ≤ 5) → vp_in (i + k) L) (hst : gC l G 900 MX11_trials [.ref 0, .int (xs ((i + 1)).toNatClampNeg)] h (rI fun v1 h1 => gC l G 900 MX12_trials [.ref 82, .int (xs ((i + 1)).toNatClampNeg)] h1 (rI fun v2 h2 => v1 = v2 ∧ Inv h2))) (hk : ∀ h', Inv h' → gl p l e s m below meth c G b 1204 [some (.ref 1000007), some (.ref 0), some (.ref 82), some (.int i)] [] h') : gl p l e s m below meth c G b 835 [some (.ref 1000007), some (.ref 0), some (.ref 82), some (.int i)] [] h := by
  refine go_aload_n (x := 0) dL_law_835 rfl ?_
  refine go_aload_n (x := 1000007) dL_law_836 rfl ?_
  refine go_iload_n (x := i) dL_law_837 rfl ?_
  refine go_iconst (v := 1) dL_law_838 rfl ?_
  refine go_iadd dL_law_839 ?_
  refine go_sld hw dL_law_840 (hin _ (by decide)) ?_
  refine glI1 MX11_trials dL_law_841 lL_95 kX11_trials vX11_trials sh0 (by decide) rfl (Nat.le_of_ble_eq_true rfl) hst ?_
  intro v1 h1 hst
  refine go_aload_n (x := 82) dL_law_844 rfl ?_
  refine go_aload_n (x := 1000007) dL_law_845 rfl ?_
  refine go_iload_n (x := i) dL_law_846 rfl ?_
  refine go_iconst (v := 1) dL_law_847 rfl ?_
  refine go_iadd dL_law_848 ?_
  refine go_sld hw dL_law_849 (hin _ (by decide)) ?_
  refine glI1 MX12_trials dL_law_850 lL_98 kX12_trials vX12_trials sh82 (by decide) rfl (Nat.le_of_ble_eq_true rfl) hst ?_
  intro v2 h2 hst
  obtain ⟨hst, hI⟩ := hst
  refine go_icmp_eq 1204 dL_law_853 rfl (fun q => ?_) (fun q => absurd hst q)
  exact hk h2 hI
theorem law_trusts {p : Program} {l : Launch} {e : Env} {s : State} {m : MethodId} {below : List Frame} {meth : Method} {c : Code} {G : gG} {b L : Nat} {xs : Nat → Int32} {h : gH} {i : Int32} {Inv : gH → Prop} (hw : gLw G s b L xs) (hin : ∀ k : Int32, (1 ≤ k ∧ k ≤ 5) → vp_in (i + k) L) (hst : gC l G 900 MX11_trusts [.ref 0, .int (xs ((i + 1)).toNatClampNeg)] h (rI fun v1 h1 => gC l G 900 MX12_trusts [.ref 82, .int (xs ((i + 1)).toNatClampNeg)] h1 (rI fun v2 h2 => v1 = v2 ∧ Inv h2))) (hk : ∀ h', Inv h' → gl p l e s m below meth c G b 1204 [some (.ref 1000007), some (.ref 0), some (.ref 82), some (.int i)] [] h') : gl p l e s m below meth c G b 858 [some (.ref 1000007), some (.ref 0), some (.ref 82), some (.int i)] [] h := by
  refine go_aload_n (x := 0) dL_law_858 rfl ?_
  refine go_aload_n (x := 1000007) dL_law_859 rfl ?_
  refine go_iload_n (x := i) dL_law_860 rfl ?_
  refine go_iconst (v := 1) dL_law_861 rfl ?_
  refine go_iadd dL_law_862 ?_
  refine go_sld hw dL_law_863 (hin _ (by decide)) ?_
  refine glI1 MX11_trusts dL_law_864 lL_99 kX11_trusts vX11_trusts sh0 (by decide) rfl (Nat.le_of_ble_eq_true rfl) hst ?_
  intro v1 h1 hst
  refine go_aload_n (x := 82) dL_law_867 rfl ?_
  refine go_aload_n (x := 1000007) dL_law_868 rfl ?_
  refine go_iload_n (x := i) dL_law_869 rfl ?_
  refine go_iconst (v := 1) dL_law_870 rfl ?_
  refine go_iadd dL_law_871 ?_
  refine go_sld hw dL_law_872 (hin _ (by decide)) ?_
  refine glI1 MX12_trusts dL_law_873 lL_102 kX12_trusts vX12_trusts sh82 (by decide) rfl (Nat.le_of_ble_eq_true rfl) hst ?_
  intro v2 h2 hst
  obtain ⟨hst, hI⟩ := hst
  refine go_icmp_eq 1204 dL_law_876 rfl (fun q => ?_) (fun q => absurd hst q)
  exact hk h2 hI
theorem law_next {p : Program} {l : Launch} {e : Env} {s : State} {m : MethodId} {below : List Frame} {meth : Method} {c : Code} {G : gG} {b L : Nat} {xs : Nat → Int32} {h : gH} {i : Int32} {Inv : gH → Prop} (hw : gLw G s b L xs) (hin : ∀ k : Int32, (1 ≤ k ∧ k ≤ 5) → vp_in (i + k) L) (hst : gC l G 900 MX11_next [.ref 0, .int (xs ((i + 1)).toNatClampNeg)] h (rI fun v1 h1 => gC l G 900 MX12_next [.ref 82, .int (xs ((i + 1)).toNatClampNeg)] h1 (rI fun v2 h2 => v1 = v2 ∧ Inv h2))) (hk : ∀ h', Inv h' → gl p l e s m below meth c G b 1204 [some (.ref 1000007), some (.ref 0), some (.ref 82), some (.int i)] [] h') : gl p l e s m below meth c G b 881 [some (.ref 1000007), some (.ref 0), some (.ref 82), some (.int i)] [] h := by
  refine go_aload_n (x := 0) dL_law_881 rfl ?_
  refine go_aload_n (x := 1000007) dL_law_882 rfl ?_
  refine go_iload_n (x := i) dL_law_883 rfl ?_
  refine go_iconst (v := 1) dL_law_884 rfl ?_
  refine go_iadd dL_law_885 ?_
  refine go_sld hw dL_law_886 (hin _ (by decide)) ?_
  refine glI1 MX11_next dL_law_887 lL_103 kX11_next vX11_next sh0 (by decide) rfl (Nat.le_of_ble_eq_true rfl) hst ?_
  intro v1 h1 hst
  refine go_aload_n (x := 82) dL_law_890 rfl ?_
  refine go_aload_n (x := 1000007) dL_law_891 rfl ?_
  refine go_iload_n (x := i) dL_law_892 rfl ?_
  refine go_iconst (v := 1) dL_law_893 rfl ?_
  refine go_iadd dL_law_894 ?_
  refine go_sld hw dL_law_895 (hin _ (by decide)) ?_
  refine glI1 MX12_next dL_law_896 lL_106 kX12_next vX12_next sh82 (by decide) rfl (Nat.le_of_ble_eq_true rfl) hst ?_
  intro v2 h2 hst
  obtain ⟨hst, hI⟩ := hst
  refine go_icmp_eq 1204 dL_law_899 rfl (fun q => ?_) (fun q => absurd hst q)
  exact hk h2 hI
theorem law_go {p : Program} {l : Launch} {e : Env} {s : State} {m : MethodId} {below : List Frame} {meth : Method} {c : Code} {G : gG} {b L : Nat} {xs : Nat → Int32} {h : gH} {i : Int32} {Inv : gH → Prop} (hw : gLw G s b L xs) (hin : ∀ k : Int32, (1 ≤ k ∧ k ≤ 5) → vp_in (i + k) L) (hst : gC l G 900 MX11_go [.ref 0, .int (xs ((i + 1)).toNatClampNeg), .int (xs ((i + 2)).toNatClampNeg)] h (rI fun v1 h1 => gC l G 900 MX12_go [.ref 82, .int (xs ((i + 1)).toNatClampNeg), .int (xs ((i + 2)).toNatClampNeg)] h1 (rI fun v2 h2 => v1 = v2 ∧ Inv h2))) (hk : ∀ h', Inv h' → gl p l e s m below meth c G b 1204 [some (.ref 1000007), some (.ref 0), some (.ref 82), some (.int i)] [] h') : gl p l e s m below meth c G b 904 [some (.ref 1000007), some (.ref 0), some (.ref 82), some (.int i)] [] h := by
  refine go_aload_n (x := 0) dL_law_904 rfl ?_
  refine go_aload_n (x := 1000007) dL_law_905 rfl ?_
  refine go_iload_n (x := i) dL_law_906 rfl ?_
  refine go_iconst (v := 1) dL_law_907 rfl ?_
  refine go_iadd dL_law_908 ?_
  refine go_sld hw dL_law_909 (hin _ (by decide)) ?_
  refine go_aload_n (x := 1000007) dL_law_910 rfl ?_
  refine go_iload_n (x := i) dL_law_911 rfl ?_
  refine go_iconst (v := 2) dL_law_912 rfl ?_
  refine go_iadd dL_law_913 ?_
  refine go_sld hw dL_law_914 (hin _ (by decide)) ?_
  refine glI2 MX11_go dL_law_915 lL_107 kX11_go vX11_go sh0 (by decide) rfl (Nat.le_of_ble_eq_true rfl) hst ?_
  intro v1 h1 hst
  refine go_aload_n (x := 82) dL_law_918 rfl ?_
  refine go_aload_n (x := 1000007) dL_law_919 rfl ?_
  refine go_iload_n (x := i) dL_law_920 rfl ?_
  refine go_iconst (v := 1) dL_law_921 rfl ?_
  refine go_iadd dL_law_922 ?_
  refine go_sld hw dL_law_923 (hin _ (by decide)) ?_
  refine go_aload_n (x := 1000007) dL_law_924 rfl ?_
  refine go_iload_n (x := i) dL_law_925 rfl ?_
  refine go_iconst (v := 2) dL_law_926 rfl ?_
  refine go_iadd dL_law_927 ?_
  refine go_sld hw dL_law_928 (hin _ (by decide)) ?_
  refine glI2 MX12_go dL_law_929 lL_110 kX12_go vX12_go sh82 (by decide) rfl (Nat.le_of_ble_eq_true rfl) hst ?_
  intro v2 h2 hst
  obtain ⟨hst, hI⟩ := hst
  refine go_icmp_eq 1204 dL_law_932 rfl (fun q => ?_) (fun q => absurd hst q)
  exact hk h2 hI
theorem law_file {p : Program} {l : Launch} {e : Env} {s : State} {m : MethodId} {below : List Frame} {meth : Method} {c : Code} {G : gG} {b L : Nat} {xs : Nat → Int32} {h : gH} {i : Int32} {Inv : gH → Prop} (hw : gLw G s b L xs) (hin : ∀ k : Int32, (1 ≤ k ∧ k ≤ 5) → vp_in (i + k) L) (hst : gC l G 900 MX11_file [.ref 0, .int (xs ((i + 1)).toNatClampNeg)] h (rI fun v1 h1 => gC l G 900 MX12_file [.ref 82, .int (xs ((i + 1)).toNatClampNeg)] h1 (rI fun v2 h2 => v1 = v2 ∧ Inv h2))) (hk : ∀ h', Inv h' → gl p l e s m below meth c G b 1204 [some (.ref 1000007), some (.ref 0), some (.ref 82), some (.int i)] [] h') : gl p l e s m below meth c G b 937 [some (.ref 1000007), some (.ref 0), some (.ref 82), some (.int i)] [] h := by
  refine go_aload_n (x := 0) dL_law_937 rfl ?_
  refine go_aload_n (x := 1000007) dL_law_938 rfl ?_
  refine go_iload_n (x := i) dL_law_939 rfl ?_
  refine go_iconst (v := 1) dL_law_940 rfl ?_
  refine go_iadd dL_law_941 ?_
  refine go_sld hw dL_law_942 (hin _ (by decide)) ?_
  refine glI1 MX11_file dL_law_943 lL_111 kX11_file vX11_file sh0 (by decide) rfl (Nat.le_of_ble_eq_true rfl) hst ?_
  intro v1 h1 hst
  refine go_aload_n (x := 82) dL_law_946 rfl ?_
  refine go_aload_n (x := 1000007) dL_law_947 rfl ?_
  refine go_iload_n (x := i) dL_law_948 rfl ?_
  refine go_iconst (v := 1) dL_law_949 rfl ?_
  refine go_iadd dL_law_950 ?_
  refine go_sld hw dL_law_951 (hin _ (by decide)) ?_
  refine glI1 MX12_file dL_law_952 lL_114 kX12_file vX12_file sh82 (by decide) rfl (Nat.le_of_ble_eq_true rfl) hst ?_
  intro v2 h2 hst
  obtain ⟨hst, hI⟩ := hst
  refine go_icmp_eq 1204 dL_law_955 rfl (fun q => ?_) (fun q => absurd hst q)
  exact hk h2 hI
theorem law_coax {p : Program} {l : Launch} {e : Env} {s : State} {m : MethodId} {below : List Frame} {meth : Method} {c : Code} {G : gG} {b L : Nat} {xs : Nat → Int32} {h : gH} {i : Int32} {Inv : gH → Prop} (hw : gLw G s b L xs) (hin : ∀ k : Int32, (1 ≤ k ∧ k ≤ 5) → vp_in (i + k) L) (hst : gC l G 900 MX11_coax [.ref 0, .int (xs ((i + 1)).toNatClampNeg), .int (xs ((i + 2)).toNatClampNeg)] h (rI fun v1 h1 => gC l G 900 MX12_coax [.ref 82, .int (xs ((i + 1)).toNatClampNeg), .int (xs ((i + 2)).toNatClampNeg)] h1 (rI fun v2 h2 => v1 = v2 ∧ Inv h2))) (hk : ∀ h', Inv h' → gl p l e s m below meth c G b 1204 [some (.ref 1000007), some (.ref 0), some (.ref 82), some (.int i)] [] h') : gl p l e s m below meth c G b 960 [some (.ref 1000007), some (.ref 0), some (.ref 82), some (.int i)] [] h := by
  refine go_aload_n (x := 0) dL_law_960 rfl ?_
  refine go_aload_n (x := 1000007) dL_law_961 rfl ?_
  refine go_iload_n (x := i) dL_law_962 rfl ?_
  refine go_iconst (v := 1) dL_law_963 rfl ?_
  refine go_iadd dL_law_964 ?_
  refine go_sld hw dL_law_965 (hin _ (by decide)) ?_
  refine go_aload_n (x := 1000007) dL_law_966 rfl ?_
  refine go_iload_n (x := i) dL_law_967 rfl ?_
  refine go_iconst (v := 2) dL_law_968 rfl ?_
  refine go_iadd dL_law_969 ?_
  refine go_sld hw dL_law_970 (hin _ (by decide)) ?_
  refine glI2 MX11_coax dL_law_971 lL_115 kX11_coax vX11_coax sh0 (by decide) rfl (Nat.le_of_ble_eq_true rfl) hst ?_
  intro v1 h1 hst
  refine go_aload_n (x := 82) dL_law_974 rfl ?_
  refine go_aload_n (x := 1000007) dL_law_975 rfl ?_
  refine go_iload_n (x := i) dL_law_976 rfl ?_
  refine go_iconst (v := 1) dL_law_977 rfl ?_
  refine go_iadd dL_law_978 ?_
  refine go_sld hw dL_law_979 (hin _ (by decide)) ?_
  refine go_aload_n (x := 1000007) dL_law_980 rfl ?_
  refine go_iload_n (x := i) dL_law_981 rfl ?_
  refine go_iconst (v := 2) dL_law_982 rfl ?_
  refine go_iadd dL_law_983 ?_
  refine go_sld hw dL_law_984 (hin _ (by decide)) ?_
  refine glI2 MX12_coax dL_law_985 lL_118 kX12_coax vX12_coax sh82 (by decide) rfl (Nat.le_of_ble_eq_true rfl) hst ?_
  intro v2 h2 hst
  obtain ⟨hst, hI⟩ := hst
  refine go_icmp_eq 1204 dL_law_988 rfl (fun q => ?_) (fun q => absurd hst q)
  exact hk h2 hI
theorem law_man {p : Program} {l : Launch} {e : Env} {s : State} {m : MethodId} {below : List Frame} {meth : Method} {c : Code} {G : gG} {b L : Nat} {xs : Nat → Int32} {h : gH} {i : Int32} {Inv : gH → Prop} (hw : gLw G s b L xs) (hin : ∀ k : Int32, (1 ≤ k ∧ k ≤ 5) → vp_in (i + k) L) (hst : gC l G 900 MX11_man [.ref 0, .int (xs ((i + 1)).toNatClampNeg), .int (xs ((i + 2)).toNatClampNeg)] h (rI fun v1 h1 => gC l G 900 MX12_man [.ref 82, .int (xs ((i + 1)).toNatClampNeg), .int (xs ((i + 2)).toNatClampNeg)] h1 (rI fun v2 h2 => v1 = v2 ∧ Inv h2))) (hk : ∀ h', Inv h' → gl p l e s m below meth c G b 1204 [some (.ref 1000007), some (.ref 0), some (.ref 82), some (.int i)] [] h') : gl p l e s m below meth c G b 993 [some (.ref 1000007), some (.ref 0), some (.ref 82), some (.int i)] [] h := by
  refine go_aload_n (x := 0) dL_law_993 rfl ?_
  refine go_aload_n (x := 1000007) dL_law_994 rfl ?_
  refine go_iload_n (x := i) dL_law_995 rfl ?_
  refine go_iconst (v := 1) dL_law_996 rfl ?_
  refine go_iadd dL_law_997 ?_
  refine go_sld hw dL_law_998 (hin _ (by decide)) ?_
  refine go_aload_n (x := 1000007) dL_law_999 rfl ?_
  refine go_iload_n (x := i) dL_law_1000 rfl ?_
  refine go_iconst (v := 2) dL_law_1001 rfl ?_
  refine go_iadd dL_law_1002 ?_
  refine go_sld hw dL_law_1003 (hin _ (by decide)) ?_
  refine glI2 MX11_man dL_law_1004 lL_119 kX11_man vX11_man sh0 (by decide) rfl (Nat.le_of_ble_eq_true rfl) hst ?_
  intro v1 h1 hst
  refine go_aload_n (x := 82) dL_law_1007 rfl ?_
  refine go_aload_n (x := 1000007) dL_law_1008 rfl ?_
  refine go_iload_n (x := i) dL_law_1009 rfl ?_
  refine go_iconst (v := 1) dL_law_1010 rfl ?_
  refine go_iadd dL_law_1011 ?_
  refine go_sld hw dL_law_1012 (hin _ (by decide)) ?_
  refine go_aload_n (x := 1000007) dL_law_1013 rfl ?_
  refine go_iload_n (x := i) dL_law_1014 rfl ?_
  refine go_iconst (v := 2) dL_law_1015 rfl ?_
  refine go_iadd dL_law_1016 ?_
  refine go_sld hw dL_law_1017 (hin _ (by decide)) ?_
  refine glI2 MX12_man dL_law_1018 lL_123 kX12_man vX12_man sh82 (by decide) rfl (Nat.le_of_ble_eq_true rfl) hst ?_
  intro v2 h2 hst
  obtain ⟨hst, hI⟩ := hst
  refine go_icmp_eq 1204 dL_law_1021 rfl (fun q => ?_) (fun q => absurd hst q)
  exact hk h2 hI
theorem law_hours {p : Program} {l : Launch} {e : Env} {s : State} {m : MethodId} {below : List Frame} {meth : Method} {c : Code} {G : gG} {b L : Nat} {xs : Nat → Int32} {h : gH} {i : Int32} {Inv : gH → Prop} (hw : gLw G s b L xs) (hin : ∀ k : Int32, (1 ≤ k ∧ k ≤ 5) → vp_in (i + k) L) (hst : gC l G 900 MX11_hours [.ref 0, .int (xs ((i + 1)).toNatClampNeg)] h (rI fun v1 h1 => gC l G 900 MX12_hours [.ref 82, .int (xs ((i + 1)).toNatClampNeg)] h1 (rI fun v2 h2 => v1 = v2 ∧ Inv h2))) (hk : ∀ h', Inv h' → gl p l e s m below meth c G b 1204 [some (.ref 1000007), some (.ref 0), some (.ref 82), some (.int i)] [] h') : gl p l e s m below meth c G b 1026 [some (.ref 1000007), some (.ref 0), some (.ref 82), some (.int i)] [] h := by
  refine go_aload_n (x := 0) dL_law_1026 rfl ?_
  refine go_aload_n (x := 1000007) dL_law_1027 rfl ?_
  refine go_iload_n (x := i) dL_law_1028 rfl ?_
  refine go_iconst (v := 1) dL_law_1029 rfl ?_
  refine go_iadd dL_law_1030 ?_
  refine go_sld hw dL_law_1031 (hin _ (by decide)) ?_
  refine glI1 MX11_hours dL_law_1032 lL_124 kX11_hours vX11_hours sh0 (by decide) rfl (Nat.le_of_ble_eq_true rfl) hst ?_
  intro v1 h1 hst
  refine go_aload_n (x := 82) dL_law_1035 rfl ?_
  refine go_aload_n (x := 1000007) dL_law_1036 rfl ?_
  refine go_iload_n (x := i) dL_law_1037 rfl ?_
  refine go_iconst (v := 1) dL_law_1038 rfl ?_
  refine go_iadd dL_law_1039 ?_
  refine go_sld hw dL_law_1040 (hin _ (by decide)) ?_
  refine glI1 MX12_hours dL_law_1041 lL_127 kX12_hours vX12_hours sh82 (by decide) rfl (Nat.le_of_ble_eq_true rfl) hst ?_
  intro v2 h2 hst
  obtain ⟨hst, hI⟩ := hst
  refine go_icmp_eq 1204 dL_law_1044 rfl (fun q => ?_) (fun q => absurd hst q)
  exact hk h2 hI
theorem law_drift {p : Program} {l : Launch} {e : Env} {s : State} {m : MethodId} {below : List Frame} {meth : Method} {c : Code} {G : gG} {b L : Nat} {xs : Nat → Int32} {h : gH} {i : Int32} {Inv : gH → Prop} (hw : gLw G s b L xs) (hin : ∀ k : Int32, (1 ≤ k ∧ k ≤ 5) → vp_in (i + k) L) (hst : gC l G 900 MX11_drift [.ref 0, .int (xs ((i + 1)).toNatClampNeg)] h (rI fun v1 h1 => gC l G 900 MX12_drift [.ref 82, .int (xs ((i + 1)).toNatClampNeg)] h1 (rI fun v2 h2 => v1 = v2 ∧ Inv h2))) (hk : ∀ h', Inv h' → gl p l e s m below meth c G b 1204 [some (.ref 1000007), some (.ref 0), some (.ref 82), some (.int i)] [] h') : gl p l e s m below meth c G b 1049 [some (.ref 1000007), some (.ref 0), some (.ref 82), some (.int i)] [] h := by
  refine go_aload_n (x := 0) dL_law_1049 rfl ?_
  refine go_aload_n (x := 1000007) dL_law_1050 rfl ?_
  refine go_iload_n (x := i) dL_law_1051 rfl ?_
  refine go_iconst (v := 1) dL_law_1052 rfl ?_
  refine go_iadd dL_law_1053 ?_
  refine go_sld hw dL_law_1054 (hin _ (by decide)) ?_
  refine glI1 MX11_drift dL_law_1055 lL_128 kX11_drift vX11_drift sh0 (by decide) rfl (Nat.le_of_ble_eq_true rfl) hst ?_
  intro v1 h1 hst
  refine go_aload_n (x := 82) dL_law_1058 rfl ?_
  refine go_aload_n (x := 1000007) dL_law_1059 rfl ?_
  refine go_iload_n (x := i) dL_law_1060 rfl ?_
  refine go_iconst (v := 1) dL_law_1061 rfl ?_
  refine go_iadd dL_law_1062 ?_
  refine go_sld hw dL_law_1063 (hin _ (by decide)) ?_
  refine glI1 MX12_drift dL_law_1064 lL_131 kX12_drift vX12_drift sh82 (by decide) rfl (Nat.le_of_ble_eq_true rfl) hst ?_
  intro v2 h2 hst
  obtain ⟨hst, hI⟩ := hst
  refine go_icmp_eq 1204 dL_law_1067 rfl (fun q => ?_) (fun q => absurd hst q)
  exact hk h2 hI
theorem law_undo {p : Program} {l : Launch} {e : Env} {s : State} {m : MethodId} {below : List Frame} {meth : Method} {c : Code} {G : gG} {b L : Nat} {xs : Nat → Int32} {h : gH} {i : Int32} {Inv : gH → Prop} (hw : gLw G s b L xs) (hin : ∀ k : Int32, (1 ≤ k ∧ k ≤ 5) → vp_in (i + k) L) (hst : gC l G 900 MX11_undo [.ref 0] h (rI fun v1 h1 => gC l G 900 MX12_undo [.ref 82] h1 (rI fun v2 h2 => v1 = v2 ∧ Inv h2))) (hk : ∀ h', Inv h' → gl p l e s m below meth c G b 1204 [some (.ref 1000007), some (.ref 0), some (.ref 82), some (.int i)] [] h') : gl p l e s m below meth c G b 1072 [some (.ref 1000007), some (.ref 0), some (.ref 82), some (.int i)] [] h := by
  refine go_aload_n (x := 0) dL_law_1072 rfl ?_
  refine glI0 MX11_undo dL_law_1073 lL_132 kX11_undo vX11_undo sh0 (by decide) rfl (Nat.le_of_ble_eq_true rfl) hst ?_
  intro v1 h1 hst
  refine go_aload_n (x := 82) dL_law_1076 rfl ?_
  refine glI0 MX12_undo dL_law_1077 lL_136 kX12_undo vX12_undo sh82 (by decide) rfl (Nat.le_of_ble_eq_true rfl) hst ?_
  intro v2 h2 hst
  obtain ⟨hst, hI⟩ := hst
  refine go_icmp_eq 1204 dL_law_1080 rfl (fun q => ?_) (fun q => absurd hst q)
  exact hk h2 hI
theorem law_seed {p : Program} {l : Launch} {e : Env} {s : State} {m : MethodId} {below : List Frame} {meth : Method} {c : Code} {G : gG} {b L : Nat} {xs : Nat → Int32} {h : gH} {i : Int32} {Inv : gH → Prop} (hw : gLw G s b L xs) (hin : ∀ k : Int32, (1 ≤ k ∧ k ≤ 5) → vp_in (i + k) L) (hst : gC l G 900 MX11_seed [.ref 0, .int (xs ((i + 1)).toNatClampNeg)] h (rI fun v1 h1 => gC l G 900 MX12_seed [.ref 82, .int (xs ((i + 1)).toNatClampNeg)] h1 (rI fun v2 h2 => v1 = v2 ∧ Inv h2))) (hk : ∀ h', Inv h' → gl p l e s m below meth c G b 1204 [some (.ref 1000007), some (.ref 0), some (.ref 82), some (.int i)] [] h') : gl p l e s m below meth c G b 1085 [some (.ref 1000007), some (.ref 0), some (.ref 82), some (.int i)] [] h := by
  refine go_aload_n (x := 0) dL_law_1085 rfl ?_
  refine go_aload_n (x := 1000007) dL_law_1086 rfl ?_
  refine go_iload_n (x := i) dL_law_1087 rfl ?_
  refine go_iconst (v := 1) dL_law_1088 rfl ?_
  refine go_iadd dL_law_1089 ?_
  refine go_sld hw dL_law_1090 (hin _ (by decide)) ?_
  refine glI1 MX11_seed dL_law_1091 lL_137 kX11_seed vX11_seed sh0 (by decide) rfl (Nat.le_of_ble_eq_true rfl) hst ?_
  intro v1 h1 hst
  refine go_aload_n (x := 82) dL_law_1094 rfl ?_
  refine go_aload_n (x := 1000007) dL_law_1095 rfl ?_
  refine go_iload_n (x := i) dL_law_1096 rfl ?_
  refine go_iconst (v := 1) dL_law_1097 rfl ?_
  refine go_iadd dL_law_1098 ?_
  refine go_sld hw dL_law_1099 (hin _ (by decide)) ?_
  refine glI1 MX12_seed dL_law_1100 lL_140 kX12_seed vX12_seed sh82 (by decide) rfl (Nat.le_of_ble_eq_true rfl) hst ?_
  intro v2 h2 hst
  obtain ⟨hst, hI⟩ := hst
  refine go_icmp_eq 1204 dL_law_1103 rfl (fun q => ?_) (fun q => absurd hst q)
  exact hk h2 hI
theorem law_ask {p : Program} {l : Launch} {e : Env} {s : State} {m : MethodId} {below : List Frame} {meth : Method} {c : Code} {G : gG} {b L : Nat} {xs : Nat → Int32} {h : gH} {i : Int32} {Inv : gH → Prop} (hw : gLw G s b L xs) (hin : ∀ k : Int32, (1 ≤ k ∧ k ≤ 5) → vp_in (i + k) L) (hst : gC l G 900 MX11_ask [.ref 0, .int (xs ((i + 1)).toNatClampNeg)] h (rL fun v1 h1 => gC l G 900 MX12_ask [.ref 82, .int (xs ((i + 1)).toNatClampNeg)] h1 (rL fun v2 h2 => v1 = v2 ∧ Inv h2))) (hk : ∀ h', Inv h' → gl p l e s m below meth c G b 1204 [some (.ref 1000007), some (.ref 0), some (.ref 82), some (.int i)] [] h') : gl p l e s m below meth c G b 1108 [some (.ref 1000007), some (.ref 0), some (.ref 82), some (.int i)] [] h := by
  refine go_aload_n (x := 0) dL_law_1108 rfl ?_
  refine go_aload_n (x := 1000007) dL_law_1109 rfl ?_
  refine go_iload_n (x := i) dL_law_1110 rfl ?_
  refine go_iconst (v := 1) dL_law_1111 rfl ?_
  refine go_iadd dL_law_1112 ?_
  refine go_sld hw dL_law_1113 (hin _ (by decide)) ?_
  refine glL1 MX11_ask dL_law_1114 lL_141 kX11_ask vX11_ask sh0 (by decide) rfl (Nat.le_of_ble_eq_true rfl) hst ?_
  intro v1 h1 hst
  refine go_aload_n (x := 82) dL_law_1117 rfl ?_
  refine go_aload_n (x := 1000007) dL_law_1118 rfl ?_
  refine go_iload_n (x := i) dL_law_1119 rfl ?_
  refine go_iconst (v := 1) dL_law_1120 rfl ?_
  refine go_iadd dL_law_1121 ?_
  refine go_sld hw dL_law_1122 (hin _ (by decide)) ?_
  refine glL1 MX12_ask dL_law_1123 lL_145 kX12_ask vX12_ask sh82 (by decide) rfl (Nat.le_of_ble_eq_true rfl) hst ?_
  intro v2 h2 hst
  obtain ⟨hst, hI⟩ := hst
  refine go_lcmp dL_law_1126 ?_
  rw [hst, show lg_cmp v2 v2 = 0 from lg_cmp_self v2]
  refine go_if_eq 1204 dL_law_1127 rfl (fun q => ?_) (fun q => absurd rfl q)
  exact hk h2 hI
theorem law_image {p : Program} {l : Launch} {e : Env} {s : State} {m : MethodId} {below : List Frame} {meth : Method} {c : Code} {G : gG} {b L : Nat} {xs : Nat → Int32} {h : gH} {i : Int32} {Inv : gH → Prop} (hw : gLw G s b L xs) (hin : ∀ k : Int32, (1 ≤ k ∧ k ≤ 5) → vp_in (i + k) L) (hst : gC l G 900 MX11_image [.ref 0] h (rI fun v1 h1 => gC l G 900 MX12_image [.ref 82] h1 (rI fun v2 h2 => v1 = v2 ∧ Inv h2))) (hk : ∀ h', Inv h' → gl p l e s m below meth c G b 1204 [some (.ref 1000007), some (.ref 0), some (.ref 82), some (.int i)] [] h') : gl p l e s m below meth c G b 1132 [some (.ref 1000007), some (.ref 0), some (.ref 82), some (.int i)] [] h := by
  refine go_aload_n (x := 0) dL_law_1132 rfl ?_
  refine glI0 MX11_image dL_law_1133 lL_146 kX11_image vX11_image sh0 (by decide) rfl (Nat.le_of_ble_eq_true rfl) hst ?_
  intro v1 h1 hst
  refine go_aload_n (x := 82) dL_law_1136 rfl ?_
  refine glI0 MX12_image dL_law_1137 lL_149 kX12_image vX12_image sh82 (by decide) rfl (Nat.le_of_ble_eq_true rfl) hst ?_
  intro v2 h2 hst
  obtain ⟨hst, hI⟩ := hst
  refine go_icmp_eq 1204 dL_law_1140 rfl (fun q => ?_) (fun q => absurd hst q)
  exact hk h2 hI
theorem law_octet {p : Program} {l : Launch} {e : Env} {s : State} {m : MethodId} {below : List Frame} {meth : Method} {c : Code} {G : gG} {b L : Nat} {xs : Nat → Int32} {h : gH} {i : Int32} {Inv : gH → Prop} (hw : gLw G s b L xs) (hin : ∀ k : Int32, (1 ≤ k ∧ k ≤ 5) → vp_in (i + k) L) (hst : gC l G 900 MX11_octet [.ref 0, .int (xs ((i + 1)).toNatClampNeg)] h (rI fun v1 h1 => gC l G 900 MX12_octet [.ref 82, .int (xs ((i + 1)).toNatClampNeg)] h1 (rI fun v2 h2 => v1 = v2 ∧ Inv h2))) (hk : ∀ h', Inv h' → gl p l e s m below meth c G b 1204 [some (.ref 1000007), some (.ref 0), some (.ref 82), some (.int i)] [] h') : gl p l e s m below meth c G b 1145 [some (.ref 1000007), some (.ref 0), some (.ref 82), some (.int i)] [] h := by
  refine go_aload_n (x := 0) dL_law_1145 rfl ?_
  refine go_aload_n (x := 1000007) dL_law_1146 rfl ?_
  refine go_iload_n (x := i) dL_law_1147 rfl ?_
  refine go_iconst (v := 1) dL_law_1148 rfl ?_
  refine go_iadd dL_law_1149 ?_
  refine go_sld hw dL_law_1150 (hin _ (by decide)) ?_
  refine glI1 MX11_octet dL_law_1151 lL_150 kX11_octet vX11_octet sh0 (by decide) rfl (Nat.le_of_ble_eq_true rfl) hst ?_
  intro v1 h1 hst
  refine go_aload_n (x := 82) dL_law_1154 rfl ?_
  refine go_aload_n (x := 1000007) dL_law_1155 rfl ?_
  refine go_iload_n (x := i) dL_law_1156 rfl ?_
  refine go_iconst (v := 1) dL_law_1157 rfl ?_
  refine go_iadd dL_law_1158 ?_
  refine go_sld hw dL_law_1159 (hin _ (by decide)) ?_
  refine glI1 MX12_octet dL_law_1160 lL_153 kX12_octet vX12_octet sh82 (by decide) rfl (Nat.le_of_ble_eq_true rfl) hst ?_
  intro v2 h2 hst
  obtain ⟨hst, hI⟩ := hst
  refine go_icmp_eq 1204 dL_law_1163 rfl (fun q => ?_) (fun q => absurd hst q)
  exact hk h2 hI
theorem law_on {p : Program} {l : Launch} {e : Env} {s : State} {m : MethodId} {below : List Frame} {meth : Method} {c : Code} {G : gG} {b L : Nat} {xs : Nat → Int32} {h : gH} {i : Int32} {Inv : gH → Prop} (hw : gLw G s b L xs) (hin : ∀ k : Int32, (1 ≤ k ∧ k ≤ 5) → vp_in (i + k) L) (hst : gC l G 900 MX11_on [.ref 0] h (rI fun v1 h1 => gC l G 900 MX12_on [.ref 82] h1 (rI fun v2 h2 => v1 = v2 ∧ Inv h2))) (hk : ∀ h', Inv h' → gl p l e s m below meth c G b 1204 [some (.ref 1000007), some (.ref 0), some (.ref 82), some (.int i)] [] h') : gl p l e s m below meth c G b 1168 [some (.ref 1000007), some (.ref 0), some (.ref 82), some (.int i)] [] h := by
  refine go_aload_n (x := 0) dL_law_1168 rfl ?_
  refine glI0 MX11_on dL_law_1169 lL_154 kX11_on vX11_on sh0 (by decide) rfl (Nat.le_of_ble_eq_true rfl) hst ?_
  intro v1 h1 hst
  refine go_aload_n (x := 82) dL_law_1172 rfl ?_
  refine glI0 MX12_on dL_law_1173 lL_157 kX12_on vX12_on sh82 (by decide) rfl (Nat.le_of_ble_eq_true rfl) hst ?_
  intro v2 h2 hst
  obtain ⟨hst, hI⟩ := hst
  refine go_icmp_eq 1204 dL_law_1176 rfl (fun q => ?_) (fun q => absurd hst q)
  exact hk h2 hI
theorem law_status {p : Program} {l : Launch} {e : Env} {s : State} {m : MethodId} {below : List Frame} {meth : Method} {c : Code} {G : gG} {b L : Nat} {xs : Nat → Int32} {h : gH} {i : Int32} {Inv : gH → Prop} (hw : gLw G s b L xs) (hin : ∀ k : Int32, (1 ≤ k ∧ k ≤ 5) → vp_in (i + k) L) (hst : gC l G 900 MX11_status [.ref 0, .int (xs ((i + 1)).toNatClampNeg)] h (rI fun v1 h1 => gC l G 900 MX12_status [.ref 82, .int (xs ((i + 1)).toNatClampNeg)] h1 (rI fun v2 h2 => v1 = v2 ∧ Inv h2))) (hk : ∀ h', Inv h' → gl p l e s m below meth c G b 1204 [some (.ref 1000007), some (.ref 0), some (.ref 82), some (.int i)] [] h') : gl p l e s m below meth c G b 1181 [some (.ref 1000007), some (.ref 0), some (.ref 82), some (.int i)] [] h := by
  refine go_aload_n (x := 0) dL_law_1181 rfl ?_
  refine go_aload_n (x := 1000007) dL_law_1182 rfl ?_
  refine go_iload_n (x := i) dL_law_1183 rfl ?_
  refine go_iconst (v := 1) dL_law_1184 rfl ?_
  refine go_iadd dL_law_1185 ?_
  refine go_sld hw dL_law_1186 (hin _ (by decide)) ?_
  refine glI1 MX11_status dL_law_1187 lL_158 kX11_status vX11_status sh0 (by decide) rfl (Nat.le_of_ble_eq_true rfl) hst ?_
  intro v1 h1 hst
  refine go_aload_n (x := 82) dL_law_1190 rfl ?_
  refine go_aload_n (x := 1000007) dL_law_1191 rfl ?_
  refine go_iload_n (x := i) dL_law_1192 rfl ?_
  refine go_iconst (v := 1) dL_law_1193 rfl ?_
  refine go_iadd dL_law_1194 ?_
  refine go_sld hw dL_law_1195 (hin _ (by decide)) ?_
  refine glI1 MX12_status dL_law_1196 lL_161 kX12_status vX12_status sh82 (by decide) rfl (Nat.le_of_ble_eq_true rfl) hst ?_
  intro v2 h2 hst
  obtain ⟨hst, hI⟩ := hst
  refine go_icmp_eq 1204 dL_law_1199 rfl (fun q => ?_) (fun q => absurd hst q)
  exact hk h2 hI
/-- a call of the one, then the same of the other: equal answers, and the relation holds again; n: how many calls went before -/
def gStepI (l : Launch) (G : gG) (Inv : Nat → gH → Prop) (Mc Mm : gM) (a : Nat) : Prop := ∀ (n : Nat) (h : gH) (av : List Int32), n < 512 → av.length = a → Inv n h → gC l G 900 Mc (.ref 0 :: av.map Value.int) h (rI fun v1 h1 => gC l G 900 Mm (.ref 82 :: av.map Value.int) h1 (rI fun v2 h2 => v1 = v2 ∧ Inv (n + 1) h2))
def gStepL (l : Launch) (G : gG) (Inv : Nat → gH → Prop) (Mc Mm : gM) (a : Nat) : Prop := ∀ (n : Nat) (h : gH) (av : List Int32), n < 512 → av.length = a → Inv n h → gC l G 900 Mc (.ref 0 :: av.map Value.int) h (rL fun v1 h1 => gC l G 900 Mm (.ref 82 :: av.map Value.int) h1 (rL fun v2 h2 => v1 = v2 ∧ Inv (n + 1) h2))
def gSteps (l : Launch) (G : gG) (Inv : Nat → gH → Prop) : Prop := gStepI l G Inv MX11_feed MX12_feed 5 ∧ gStepI l G Inv MX11_end MX12_end 1 ∧ gStepI l G Inv MX11_lake MX12_lake 0 ∧ gStepI l G Inv MX11_fault MX12_fault 1 ∧ gStepI l G Inv MX11_has MX12_has 1 ∧ gStepI l G Inv MX11_letter MX12_letter 3 ∧ gStepI l G Inv MX11_boat MX12_boat 2 ∧ gStepI l G Inv MX11_cell MX12_cell 2 ∧ gStepI l G Inv MX11_hand MX12_hand 2 ∧ gStepI l G Inv MX11_likes MX12_likes 2 ∧ gStepI l G Inv MX11_sky MX12_sky 1 ∧ gStepI l G Inv MX11_kept MX12_kept 2 ∧ gStepI l G Inv MX11_dread MX12_dread 3 ∧ gStepI l G Inv MX11_route MX12_route 3 ∧ gStepI l G Inv MX11_gentle MX12_gentle 3 ∧ gStepI l G Inv MX11_runs MX12_runs 2 ∧ gStepI l G Inv MX11_order MX12_order 3 ∧ gStepI l G Inv MX11_lead MX12_lead 3 ∧ gStepI l G Inv MX11_match MX12_match 1 ∧ gStepI l G Inv MX11_trials MX12_trials 1 ∧ gStepI l G Inv MX11_trusts MX12_trusts 1 ∧ gStepI l G Inv MX11_next MX12_next 1 ∧ gStepI l G Inv MX11_go MX12_go 2 ∧ gStepI l G Inv MX11_file MX12_file 1 ∧ gStepI l G Inv MX11_coax MX12_coax 2 ∧ gStepI l G Inv MX11_man MX12_man 2 ∧ gStepI l G Inv MX11_hours MX12_hours 1 ∧ gStepI l G Inv MX11_drift MX12_drift 1 ∧ gStepI l G Inv MX11_undo MX12_undo 0 ∧ gStepI l G Inv MX11_seed MX12_seed 1 ∧ gStepL l G Inv MX11_ask MX12_ask 1 ∧ gStepI l G Inv MX11_image MX12_image 0 ∧ gStepI l G Inv MX11_octet MX12_octet 1 ∧ gStepI l G Inv MX11_on MX12_on 0 ∧ gStepI l G Inv MX11_status MX12_status 1

theorem law_le {k L : Nat} (hL : L ≤ 3072) (hk : k ≤ L + 6) (q : ¬ nI k > nI L - 6) : k + 6 ≤ L := by
  have h1 : (nI k).toInt = (k : Int) := nI_toInt (by omega)
  have h2 : (nI L - nI 6).toInt = (L : Int) - 6 := pk_sub_toInt (by omega) (by omega)
  have h3 : ¬ nI L - nI 6 < nI k := q
  rw [Int32.lt_iff_toInt_lt, h1, h2] at h3
  omega
theorem law_in {k L : Nat} (hL : L ≤ 3072) (hk : k + 6 ≤ L) : ∀ j : Int32, (1 ≤ j ∧ j ≤ 5) → vp_in (nI k + j) L := by
  intro j hj
  obtain ⟨n, hn, rfl⟩ := nI_of2 (M := 5) (n := 5) rfl (fun h9 => by have := hj.1; rw [Int32.le_iff_toInt_le] at this; rw [Int32.lt_iff_toInt_lt] at h9; simp at this h9; omega) hj.2
  rw [nI_add]
  exact vp_in_nI (by omega) (by omega)
set_option maxRecDepth 20000 in
theorem law_loop {p : Program} {l : Launch} {e : Env} {s : State} {m : MethodId} {below : List Frame} {meth : Method} {c : Code} {G : gG} {b L : Nat} {xs : Nat → Int32} {Inv : Nat → gH → Prop} (hw : gLw G s b L xs) (hL : L ≤ 3072) (hst : gSteps l G Inv) (hmono : ∀ n h, Inv n h → Inv (n + 1) h) : ∀ (N n : Nat), L + 6 - 6 * n ≤ N → 6 * n ≤ L + 6 → ∀ h, Inv n h → gl p l e s m below meth c G b 18 [some (.ref 1000007), some (.ref 0), some (.ref 82), some (.int (nI (6 * n)))] [] h := by
  intro N
  induction N using Nat.strongRecOn with
  | _ N IH =>
    intro n hkN hk h hI
    have ih : ∀ h, Inv (n + 1) h → 6 * n + 6 ≤ L + 6 → gl p l e s m below meth c G b 18 [some (.ref 1000007), some (.ref 0), some (.ref 82), some (.int (nI (6 * n + 6)))] [] h := fun h hI h2 => IH (L + 6 - 6 * (n + 1)) (by omega) (n + 1) (Nat.le_refl _) (by omega) h hI
    clear IH
    generalize hkn : 6 * n = k at hk ih ⊢
    refine go_iload_n (x := nI k) dL_law_18 rfl ?_
    refine go_aload_n (x := 1000007) dL_law_19 rfl ?_
    refine go_slen hw dL_law_20 ?_
    refine go_bipush (v := 6) dL_law_21 rfl ?_
    refine go_isub dL_law_23 ?_
    refine go_icmp_gt 1210 dL_law_24 rfl (fun q => ?_) (fun q => ?_)
    · refine go_iconst (v := 1) dL_law_1210 rfl ?_
      exact go_lret1 hw dL_law_1211
    · have hk6 : k + 6 ≤ L := law_le hL hk q
      have hin : ∀ j : Int32, (1 ≤ j ∧ j ≤ 5) → vp_in (nI k + j) L := law_in hL hk6
      have hnx : ∀ h', Inv (n + 1) h' → gl p l e s m below meth c G b 1204 [some (.ref 1000007), some (.ref 0), some (.ref 82), some (.int (nI k))] [] h' := by
        intro h' hI'
        refine go_iinc (x := nI k) dL_law_1204 rfl ?_
        refine go_goto 18 dL_law_1207 rfl ?_
        have e6 : nI k + Int32.ofInt 6 = nI (k + 6) := nI_add k 6
        show gl p l e s m below meth c G b 18 [some (.ref 1000007), some (.ref 0), some (.ref 82), some (.int (nI k + Int32.ofInt 6))] [] h'
        rw [e6]
        exact ih h' hI' (by omega)
      refine go_aload_n (x := 1000007) dL_law_27 rfl ?_
      refine go_iload_n (x := nI k) dL_law_28 rfl ?_
      refine go_sld hw dL_law_29 (vp_in_nI (by omega) (by omega)) ?_
      refine go_bipush (v := 63) dL_law_30 rfl ?_
      refine go_iand dL_law_32 ?_
      generalize (xs (nI k).toNatClampNeg) &&& (63 : Int32) = z
      by_cases q0 : z = 0
      · refine go_tableIn (off := 155) 188 dL_law_33 (by rw [q0]; decide) (by rw [q0]; decide) (by rw [q0]; rfl) rfl ?_
        exact law_feed hw hin (hst.1 n h [xs (nI k + 1).toNatClampNeg, xs (nI k + 2).toNatClampNeg, xs (nI k + 3).toNatClampNeg, xs (nI k + 4).toNatClampNeg, xs (nI k + 5).toNatClampNeg] (by omega) rfl hI) hnx
      by_cases q1 : z = 1
      · refine go_tableIn (off := 218) 251 dL_law_33 (by rw [q1]; decide) (by rw [q1]; decide) (by rw [q1]; rfl) rfl ?_
        exact law_end hw hin (hst.2.1 n h [xs (nI k + 1).toNatClampNeg] (by omega) rfl hI) hnx
      by_cases q2 : z = 2
      · refine go_tableIn (off := 241) 274 dL_law_33 (by rw [q2]; decide) (by rw [q2]; decide) (by rw [q2]; rfl) rfl ?_
        exact law_lake hw hin (hst.2.2.1 n h [] (by omega) rfl hI) hnx
      by_cases q3 : z = 3
      · refine go_tableIn (off := 254) 287 dL_law_33 (by rw [q3]; decide) (by rw [q3]; decide) (by rw [q3]; rfl) rfl ?_
        exact law_fault hw hin (hst.2.2.2.1 n h [xs (nI k + 1).toNatClampNeg] (by omega) rfl hI) hnx
      by_cases q4 : z = 4
      · refine go_tableIn (off := 277) 310 dL_law_33 (by rw [q4]; decide) (by rw [q4]; decide) (by rw [q4]; rfl) rfl ?_
        exact law_has hw hin (hst.2.2.2.2.1 n h [xs (nI k + 1).toNatClampNeg] (by omega) rfl hI) hnx
      by_cases q5 : z = 5
      · refine go_tableIn (off := 300) 333 dL_law_33 (by rw [q5]; decide) (by rw [q5]; decide) (by rw [q5]; rfl) rfl ?_
        exact law_letter hw hin (hst.2.2.2.2.2.1 n h [xs (nI k + 1).toNatClampNeg, xs (nI k + 2).toNatClampNeg, xs (nI k + 3).toNatClampNeg] (by omega) rfl hI) hnx
      by_cases q6 : z = 6
      · refine go_tableIn (off := 343) 376 dL_law_33 (by rw [q6]; decide) (by rw [q6]; decide) (by rw [q6]; rfl) rfl ?_
        exact law_boat hw hin (hst.2.2.2.2.2.2.1 n h [xs (nI k + 1).toNatClampNeg, xs (nI k + 2).toNatClampNeg] (by omega) rfl hI) hnx
      by_cases q7 : z = 7
      · refine go_tableIn (off := 376) 409 dL_law_33 (by rw [q7]; decide) (by rw [q7]; decide) (by rw [q7]; rfl) rfl ?_
        exact law_cell hw hin (hst.2.2.2.2.2.2.2.1 n h [xs (nI k + 1).toNatClampNeg, xs (nI k + 2).toNatClampNeg] (by omega) rfl hI) hnx
      by_cases q8 : z = 8
      · refine go_tableIn (off := 409) 442 dL_law_33 (by rw [q8]; decide) (by rw [q8]; decide) (by rw [q8]; rfl) rfl ?_
        exact law_hand hw hin (hst.2.2.2.2.2.2.2.2.1 n h [xs (nI k + 1).toNatClampNeg, xs (nI k + 2).toNatClampNeg] (by omega) rfl hI) hnx
      by_cases q9 : z = 9
      · refine go_tableIn (off := 442) 475 dL_law_33 (by rw [q9]; decide) (by rw [q9]; decide) (by rw [q9]; rfl) rfl ?_
        exact law_likes hw hin (hst.2.2.2.2.2.2.2.2.2.1 n h [xs (nI k + 1).toNatClampNeg, xs (nI k + 2).toNatClampNeg] (by omega) rfl hI) hnx
      by_cases q10 : z = 10
      · refine go_tableIn (off := 475) 508 dL_law_33 (by rw [q10]; decide) (by rw [q10]; decide) (by rw [q10]; rfl) rfl ?_
        exact law_sky hw hin (hst.2.2.2.2.2.2.2.2.2.2.1 n h [xs (nI k + 1).toNatClampNeg] (by omega) rfl hI) hnx
      by_cases q11 : z = 11
      · refine go_tableIn (off := 498) 531 dL_law_33 (by rw [q11]; decide) (by rw [q11]; decide) (by rw [q11]; rfl) rfl ?_
        exact law_kept hw hin (hst.2.2.2.2.2.2.2.2.2.2.2.1 n h [xs (nI k + 1).toNatClampNeg, xs (nI k + 2).toNatClampNeg] (by omega) rfl hI) hnx
      by_cases q12 : z = 12
      · refine go_tableIn (off := 531) 564 dL_law_33 (by rw [q12]; decide) (by rw [q12]; decide) (by rw [q12]; rfl) rfl ?_
        exact law_dread hw hin (hst.2.2.2.2.2.2.2.2.2.2.2.2.1 n h [xs (nI k + 1).toNatClampNeg, xs (nI k + 2).toNatClampNeg, xs (nI k + 3).toNatClampNeg] (by omega) rfl hI) hnx
      by_cases q13 : z = 13
      · refine go_tableIn (off := 574) 607 dL_law_33 (by rw [q13]; decide) (by rw [q13]; decide) (by rw [q13]; rfl) rfl ?_
        exact law_route hw hin (hst.2.2.2.2.2.2.2.2.2.2.2.2.2.1 n h [xs (nI k + 1).toNatClampNeg, xs (nI k + 2).toNatClampNeg, xs (nI k + 3).toNatClampNeg] (by omega) rfl hI) hnx
      by_cases q14 : z = 14
      · refine go_tableIn (off := 617) 650 dL_law_33 (by rw [q14]; decide) (by rw [q14]; decide) (by rw [q14]; rfl) rfl ?_
        exact law_gentle hw hin (hst.2.2.2.2.2.2.2.2.2.2.2.2.2.2.1 n h [xs (nI k + 1).toNatClampNeg, xs (nI k + 2).toNatClampNeg, xs (nI k + 3).toNatClampNeg] (by omega) rfl hI) hnx
      by_cases q15 : z = 15
      · refine go_tableIn (off := 660) 693 dL_law_33 (by rw [q15]; decide) (by rw [q15]; decide) (by rw [q15]; rfl) rfl ?_
        exact law_runs hw hin (hst.2.2.2.2.2.2.2.2.2.2.2.2.2.2.2.1 n h [xs (nI k + 1).toNatClampNeg, xs (nI k + 2).toNatClampNeg] (by omega) rfl hI) hnx
      by_cases q16 : z = 16
      · refine go_tableIn (off := 693) 726 dL_law_33 (by rw [q16]; decide) (by rw [q16]; decide) (by rw [q16]; rfl) rfl ?_
        exact law_order hw hin (hst.2.2.2.2.2.2.2.2.2.2.2.2.2.2.2.2.1 n h [xs (nI k + 1).toNatClampNeg, xs (nI k + 2).toNatClampNeg, xs (nI k + 3).toNatClampNeg] (by omega) rfl hI) hnx
      by_cases q17 : z = 17
      · refine go_tableIn (off := 736) 769 dL_law_33 (by rw [q17]; decide) (by rw [q17]; decide) (by rw [q17]; rfl) rfl ?_
        exact law_lead hw hin (hst.2.2.2.2.2.2.2.2.2.2.2.2.2.2.2.2.2.1 n h [xs (nI k + 1).toNatClampNeg, xs (nI k + 2).toNatClampNeg, xs (nI k + 3).toNatClampNeg] (by omega) rfl hI) hnx
      by_cases q18 : z = 18
      · refine go_tableIn (off := 779) 812 dL_law_33 (by rw [q18]; decide) (by rw [q18]; decide) (by rw [q18]; rfl) rfl ?_
        exact law_match hw hin (hst.2.2.2.2.2.2.2.2.2.2.2.2.2.2.2.2.2.2.1 n h [xs (nI k + 1).toNatClampNeg] (by omega) rfl hI) hnx
      by_cases q19 : z = 19
      · refine go_tableIn (off := 802) 835 dL_law_33 (by rw [q19]; decide) (by rw [q19]; decide) (by rw [q19]; rfl) rfl ?_
        exact law_trials hw hin (hst.2.2.2.2.2.2.2.2.2.2.2.2.2.2.2.2.2.2.2.1 n h [xs (nI k + 1).toNatClampNeg] (by omega) rfl hI) hnx
      by_cases q20 : z = 20
      · refine go_tableIn (off := 825) 858 dL_law_33 (by rw [q20]; decide) (by rw [q20]; decide) (by rw [q20]; rfl) rfl ?_
        exact law_trusts hw hin (hst.2.2.2.2.2.2.2.2.2.2.2.2.2.2.2.2.2.2.2.2.1 n h [xs (nI k + 1).toNatClampNeg] (by omega) rfl hI) hnx
      by_cases q21 : z = 21
      · refine go_tableIn (off := 848) 881 dL_law_33 (by rw [q21]; decide) (by rw [q21]; decide) (by rw [q21]; rfl) rfl ?_
        exact law_next hw hin (hst.2.2.2.2.2.2.2.2.2.2.2.2.2.2.2.2.2.2.2.2.2.1 n h [xs (nI k + 1).toNatClampNeg] (by omega) rfl hI) hnx
      by_cases q22 : z = 22
      · refine go_tableIn (off := 871) 904 dL_law_33 (by rw [q22]; decide) (by rw [q22]; decide) (by rw [q22]; rfl) rfl ?_
        exact law_go hw hin (hst.2.2.2.2.2.2.2.2.2.2.2.2.2.2.2.2.2.2.2.2.2.2.1 n h [xs (nI k + 1).toNatClampNeg, xs (nI k + 2).toNatClampNeg] (by omega) rfl hI) hnx
      by_cases q23 : z = 23
      · refine go_tableIn (off := 904) 937 dL_law_33 (by rw [q23]; decide) (by rw [q23]; decide) (by rw [q23]; rfl) rfl ?_
        exact law_file hw hin (hst.2.2.2.2.2.2.2.2.2.2.2.2.2.2.2.2.2.2.2.2.2.2.2.1 n h [xs (nI k + 1).toNatClampNeg] (by omega) rfl hI) hnx
      by_cases q24 : z = 24
      · refine go_tableIn (off := 927) 960 dL_law_33 (by rw [q24]; decide) (by rw [q24]; decide) (by rw [q24]; rfl) rfl ?_
        exact law_coax hw hin (hst.2.2.2.2.2.2.2.2.2.2.2.2.2.2.2.2.2.2.2.2.2.2.2.2.1 n h [xs (nI k + 1).toNatClampNeg, xs (nI k + 2).toNatClampNeg] (by omega) rfl hI) hnx
      by_cases q25 : z = 25
      · refine go_tableIn (off := 960) 993 dL_law_33 (by rw [q25]; decide) (by rw [q25]; decide) (by rw [q25]; rfl) rfl ?_
        exact law_man hw hin (hst.2.2.2.2.2.2.2.2.2.2.2.2.2.2.2.2.2.2.2.2.2.2.2.2.2.1 n h [xs (nI k + 1).toNatClampNeg, xs (nI k + 2).toNatClampNeg] (by omega) rfl hI) hnx
      by_cases q26 : z = 26
      · refine go_tableIn (off := 993) 1026 dL_law_33 (by rw [q26]; decide) (by rw [q26]; decide) (by rw [q26]; rfl) rfl ?_
        exact law_hours hw hin (hst.2.2.2.2.2.2.2.2.2.2.2.2.2.2.2.2.2.2.2.2.2.2.2.2.2.2.1 n h [xs (nI k + 1).toNatClampNeg] (by omega) rfl hI) hnx
      by_cases q27 : z = 27
      · refine go_tableIn (off := 1016) 1049 dL_law_33 (by rw [q27]; decide) (by rw [q27]; decide) (by rw [q27]; rfl) rfl ?_
        exact law_drift hw hin (hst.2.2.2.2.2.2.2.2.2.2.2.2.2.2.2.2.2.2.2.2.2.2.2.2.2.2.2.1 n h [xs (nI k + 1).toNatClampNeg] (by omega) rfl hI) hnx
      by_cases q28 : z = 28
      · refine go_tableIn (off := 1039) 1072 dL_law_33 (by rw [q28]; decide) (by rw [q28]; decide) (by rw [q28]; rfl) rfl ?_
        exact law_undo hw hin (hst.2.2.2.2.2.2.2.2.2.2.2.2.2.2.2.2.2.2.2.2.2.2.2.2.2.2.2.2.1 n h [] (by omega) rfl hI) hnx
      by_cases q29 : z = 29
      · refine go_tableIn (off := 1052) 1085 dL_law_33 (by rw [q29]; decide) (by rw [q29]; decide) (by rw [q29]; rfl) rfl ?_
        exact law_seed hw hin (hst.2.2.2.2.2.2.2.2.2.2.2.2.2.2.2.2.2.2.2.2.2.2.2.2.2.2.2.2.2.1 n h [xs (nI k + 1).toNatClampNeg] (by omega) rfl hI) hnx
      by_cases q30 : z = 30
      · refine go_tableIn (off := 1075) 1108 dL_law_33 (by rw [q30]; decide) (by rw [q30]; decide) (by rw [q30]; rfl) rfl ?_
        exact law_ask hw hin (hst.2.2.2.2.2.2.2.2.2.2.2.2.2.2.2.2.2.2.2.2.2.2.2.2.2.2.2.2.2.2.1 n h [xs (nI k + 1).toNatClampNeg] (by omega) rfl hI) hnx
      by_cases q31 : z = 31
      · refine go_tableIn (off := 1099) 1132 dL_law_33 (by rw [q31]; decide) (by rw [q31]; decide) (by rw [q31]; rfl) rfl ?_
        exact law_image hw hin (hst.2.2.2.2.2.2.2.2.2.2.2.2.2.2.2.2.2.2.2.2.2.2.2.2.2.2.2.2.2.2.2.1 n h [] (by omega) rfl hI) hnx
      by_cases q32 : z = 32
      · refine go_tableIn (off := 1112) 1145 dL_law_33 (by rw [q32]; decide) (by rw [q32]; decide) (by rw [q32]; rfl) rfl ?_
        exact law_octet hw hin (hst.2.2.2.2.2.2.2.2.2.2.2.2.2.2.2.2.2.2.2.2.2.2.2.2.2.2.2.2.2.2.2.2.1 n h [xs (nI k + 1).toNatClampNeg] (by omega) rfl hI) hnx
      by_cases q33 : z = 33
      · refine go_tableIn (off := 1135) 1168 dL_law_33 (by rw [q33]; decide) (by rw [q33]; decide) (by rw [q33]; rfl) rfl ?_
        exact law_on hw hin (hst.2.2.2.2.2.2.2.2.2.2.2.2.2.2.2.2.2.2.2.2.2.2.2.2.2.2.2.2.2.2.2.2.2.1 n h [] (by omega) rfl hI) hnx
      by_cases q34 : z = 34
      · refine go_tableIn (off := 1148) 1181 dL_law_33 (by rw [q34]; decide) (by rw [q34]; decide) (by rw [q34]; rfl) rfl ?_
        exact law_status hw hin (hst.2.2.2.2.2.2.2.2.2.2.2.2.2.2.2.2.2.2.2.2.2.2.2.2.2.2.2.2.2.2.2.2.2.2 n h [xs (nI k + 1).toNatClampNeg] (by omega) rfl hI) hnx
      refine go_tableOut 1204 dL_law_33 ?_ rfl ?_
      · have e0 : ¬ z.toInt = 0 := lv_neT q0 rfl; have e1 : ¬ z.toInt = 1 := lv_neT q1 rfl; have e2 : ¬ z.toInt = 2 := lv_neT q2 rfl; have e3 : ¬ z.toInt = 3 := lv_neT q3 rfl; have e4 : ¬ z.toInt = 4 := lv_neT q4 rfl; have e5 : ¬ z.toInt = 5 := lv_neT q5 rfl; have e6 : ¬ z.toInt = 6 := lv_neT q6 rfl; have e7 : ¬ z.toInt = 7 := lv_neT q7 rfl; have e8 : ¬ z.toInt = 8 := lv_neT q8 rfl; have e9 : ¬ z.toInt = 9 := lv_neT q9 rfl; have e10 : ¬ z.toInt = 10 := lv_neT q10 rfl; have e11 : ¬ z.toInt = 11 := lv_neT q11 rfl; have e12 : ¬ z.toInt = 12 := lv_neT q12 rfl; have e13 : ¬ z.toInt = 13 := lv_neT q13 rfl; have e14 : ¬ z.toInt = 14 := lv_neT q14 rfl; have e15 : ¬ z.toInt = 15 := lv_neT q15 rfl; have e16 : ¬ z.toInt = 16 := lv_neT q16 rfl; have e17 : ¬ z.toInt = 17 := lv_neT q17 rfl; have e18 : ¬ z.toInt = 18 := lv_neT q18 rfl; have e19 : ¬ z.toInt = 19 := lv_neT q19 rfl; have e20 : ¬ z.toInt = 20 := lv_neT q20 rfl; have e21 : ¬ z.toInt = 21 := lv_neT q21 rfl; have e22 : ¬ z.toInt = 22 := lv_neT q22 rfl; have e23 : ¬ z.toInt = 23 := lv_neT q23 rfl; have e24 : ¬ z.toInt = 24 := lv_neT q24 rfl; have e25 : ¬ z.toInt = 25 := lv_neT q25 rfl; have e26 : ¬ z.toInt = 26 := lv_neT q26 rfl; have e27 : ¬ z.toInt = 27 := lv_neT q27 rfl; have e28 : ¬ z.toInt = 28 := lv_neT q28 rfl; have e29 : ¬ z.toInt = 29 := lv_neT q29 rfl; have e30 : ¬ z.toInt = 30 := lv_neT q30 rfl; have e31 : ¬ z.toInt = 31 := lv_neT q31 rfl; have e32 : ¬ z.toInt = 32 := lv_neT q32 rfl; have e33 : ¬ z.toInt = 33 := lv_neT q33 rfl; have e34 : ¬ z.toInt = 34 := lv_neT q34 rfl
        omega
      · exact hnx h (hmono n h hI)
