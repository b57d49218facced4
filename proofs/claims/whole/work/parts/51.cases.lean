/-! the law's cases -/
theorem oNadd (i j : Nat) : Int32.ofNat i + Int32.ofNat j = Int32.ofNat (i + j) := (Int32.ofNat_add i j).symm
theorem oN_big {k : Nat} (h : k < 4000) : (Int32.ofNat k).toInt = k := Int32.toInt_ofNat_of_lt (by omega)
section LX
variable {l : Launch} {b L : Nat} {xs : Nat → Int32} {n pc iN : Nat} {st : List Value} {hC hM : dH}
theorem L_arg (j : Nat) {v0 : Int} (d0 : decode code pc = .ok (.aload_n 0, 1)) (d1 : decode code (pc + 1) = .ok (.iload 4, 2)) (d3 : decode code (pc + 3) = .ok (.iconst v0, 1)) (d4 : decode code (pc + 4) = .ok (.iadd, 1)) (d5 : decode code (pc + 5) = .ok (.iaload, 1)) (hv : Int32.ofInt v0 = Int32.ofNat j) (hL : L ≤ 3072) (hj : iN + j < L) (k : LB l b L xs n (pc + 6) (Int32.ofNat iN) (.int (xs (iN + j)) :: st) hC hM) : LB l b L xs n pc (Int32.ofNat iN) st hC hM := by
  refine L_aload0 d0 ?_
  refine L_iload4 d1 ?_
  refine L_iconst d3 hv ?_
  refine L_iadd d4 ?_
  rw [oNadd]
  refine L_sld d5 ⟨by rw [oN_big (by omega)]; omega, by rw [oN_big (by omega)]; omega⟩ ?_
  have e : dI (Int32.ofNat (iN + j)) = iN + j := by
    show (Int32.ofNat (iN + j)).toInt.toNat = _
    rw [oN_big (by omega)]
    rfl
  rw [e]
  exact k
theorem la_1 : Int32.ofInt 1 = Int32.ofNat 1 := by decide
theorem la_2 : Int32.ofInt 2 = Int32.ofNat 2 := by decide
theorem la_3 : Int32.ofInt 3 = Int32.ofNat 3 := by decide
theorem la_4 : Int32.ofInt 4 = Int32.ofNat 4 := by decide
theorem la_5 : Int32.ofInt 5 = Int32.ofNat 5 := by decide
def lawSeed (a b : Int32) : Int64 := (a.toInt64 <<< ((32 : Int32).toInt64 &&& 63)) ||| (b.toInt64 &&& 4294967295)
theorem lk_84 : Cond.constantLong R_law 84 (4294967295) ∈ lw_tbl := (List.mem_filter.mp (dmT8 162 rfl rfl : Cond.constantLong R_law 84 (4294967295) ∈ dWs)).1
theorem lcl_19 : dCV R_law 19 yX11_feed cX11_feed 7 (some .int) 5 11 := ⟨dmT2 117 rfl rfl, ⟨dmT2 120 rfl rfl, dmT1 1 rfl rfl, ⟨by decide, by decide, by decide +kernel⟩, by decide⟩, ⟨dmT2 118 rfl rfl, dmT2 119 rfl rfl⟩, _, rfl, rfl⟩
theorem lcl_23 : dCV R_law 23 yX12_feed cX12_feed 6 (some .int) 5 12 := ⟨dmT6 170 rfl rfl, ⟨dmT6 173 rfl rfl, dmT1 13 rfl rfl, ⟨by decide, by decide, by decide +kernel⟩, by decide⟩, ⟨dmT6 171 rfl rfl, dmT6 172 rfl rfl⟩, _, rfl, rfl⟩
set_option maxRecDepth 20000 in
theorem lc_feed {r : Int32} {hC2 hM2 : dH} (hL : L ≤ 3072) (hi : iN + 6 ≤ L) (e1 : aC_feed (xs (iN + 1)) (xs (iN + 2)) (xs (iN + 3)) (xs (iN + 4)) (xs (iN + 5)) hC = some (r, hC2)) (e2 : aM_feed (xs (iN + 1)) (xs (iN + 2)) (xs (iN + 3)) (xs (iN + 4)) (xs (iN + 5)) hM = some (r, hM2)) (k : LB l b L xs n 1547 (Int32.ofNat iN) [] hC2 hM2) : LB l b L xs n 216 (Int32.ofNat iN) [] hC hM := by
  refine L_aload1 dL_law_216 ?_
  refine L_arg 1 dL_law_217 dL_law_218 dL_law_220 dL_law_221 dL_law_222 la_1 hL (by omega) ?_
  refine L_arg 2 dL_law_223 dL_law_224 dL_law_226 dL_law_227 dL_law_228 la_2 hL (by omega) ?_
  refine L_arg 3 dL_law_229 dL_law_230 dL_law_232 dL_law_233 dL_law_234 la_3 hL (by omega) ?_
  refine L_arg 4 dL_law_235 dL_law_236 dL_law_238 dL_law_239 dL_law_240 la_4 hL (by omega) ?_
  refine L_arg 5 dL_law_241 dL_law_242 dL_law_244 dL_law_245 dL_law_246 la_5 hL (by omega) ?_
  refine L_callC (st := []) (as := [.int (xs (iN + 1)), .int (xs (iN + 2)), .int (xs (iN + 3)), .int (xs (iN + 4)), .int (xs (iN + 5))]) dL_law_247 lcl_19 (taC_feed (xs (iN + 1)) (xs (iN + 2)) (xs (iN + 3)) (xs (iN + 4)) (xs (iN + 5)) hC) e1 (Nat.le_of_ble_eq_true rfl) rfl rfl rfl (Nat.le_of_ble_eq_true rfl) rfl ?_
  refine L_aload2 dL_law_250 ?_
  refine L_arg 1 dL_law_251 dL_law_252 dL_law_254 dL_law_255 dL_law_256 la_1 hL (by omega) ?_
  refine L_arg 2 dL_law_257 dL_law_258 dL_law_260 dL_law_261 dL_law_262 la_2 hL (by omega) ?_
  refine L_arg 3 dL_law_263 dL_law_264 dL_law_266 dL_law_267 dL_law_268 la_3 hL (by omega) ?_
  refine L_arg 4 dL_law_269 dL_law_270 dL_law_272 dL_law_273 dL_law_274 la_4 hL (by omega) ?_
  refine L_arg 5 dL_law_275 dL_law_276 dL_law_278 dL_law_279 dL_law_280 la_5 hL (by omega) ?_
  refine L_callM (st := [.int r]) (as := [.int (xs (iN + 1)), .int (xs (iN + 2)), .int (xs (iN + 3)), .int (xs (iN + 4)), .int (xs (iN + 5))]) dL_law_281 lcl_23 (taM_feed (xs (iN + 1)) (xs (iN + 2)) (xs (iN + 3)) (xs (iN + 4)) (xs (iN + 5)) hM) e2 (Nat.le_of_ble_eq_true rfl) rfl rfl rfl (Nat.le_of_ble_eq_true rfl) rfl ?_
  exact L_icmp_eq (tgt := 1547) dL_law_284 (by decide) (fun _ => k) (fun q => absurd rfl q)
theorem lcl_24 : dCV R_law 24 yX11_end cX11_end 2 (some .boolean) 1 11 := ⟨dmT2 128 rfl rfl, ⟨dmT2 131 rfl rfl, dmT1 1 rfl rfl, ⟨by decide, by decide, by decide +kernel⟩, by decide⟩, ⟨dmT2 129 rfl rfl, dmT2 130 rfl rfl⟩, _, rfl, rfl⟩
theorem lcl_28 : dCV R_law 28 yX12_end cX12_end 2 (some .boolean) 1 12 := ⟨dmT6 181 rfl rfl, ⟨dmT6 184 rfl rfl, dmT1 13 rfl rfl, ⟨by decide, by decide, by decide +kernel⟩, by decide⟩, ⟨dmT6 182 rfl rfl, dmT6 183 rfl rfl⟩, _, rfl, rfl⟩
set_option maxRecDepth 20000 in
theorem lc_end {r : Int32} {hC2 hM2 : dH} (hL : L ≤ 3072) (hi : iN + 6 ≤ L) (e1 : aC_end (xs (iN + 1)) hC = some (r, hC2)) (e2 : aM_end (xs (iN + 1)) hM = some (r, hM2)) (k : LB l b L xs n 1547 (Int32.ofNat iN) [] hC2 hM2) : LB l b L xs n 289 (Int32.ofNat iN) [] hC hM := by
  refine L_aload1 dL_law_289 ?_
  refine L_arg 1 dL_law_290 dL_law_291 dL_law_293 dL_law_294 dL_law_295 la_1 hL (by omega) ?_
  refine L_callC (st := []) (as := [.int (xs (iN + 1))]) dL_law_296 lcl_24 (taC_end (xs (iN + 1)) hC) e1 (Nat.le_of_ble_eq_true rfl) rfl rfl rfl (Nat.le_of_ble_eq_true rfl) rfl ?_
  refine L_aload2 dL_law_299 ?_
  refine L_arg 1 dL_law_300 dL_law_301 dL_law_303 dL_law_304 dL_law_305 la_1 hL (by omega) ?_
  refine L_callM (st := [.int r]) (as := [.int (xs (iN + 1))]) dL_law_306 lcl_28 (taM_end (xs (iN + 1)) hM) e2 (Nat.le_of_ble_eq_true rfl) rfl rfl rfl (Nat.le_of_ble_eq_true rfl) rfl ?_
  exact L_icmp_eq (tgt := 1547) dL_law_309 (by decide) (fun _ => k) (fun q => absurd rfl q)
theorem lcl_29 : dCV R_law 29 yX11_fault cX11_fault 2 (some .int) 1 11 := ⟨dmT2 132 rfl rfl, ⟨dmT2 135 rfl rfl, dmT1 1 rfl rfl, ⟨by decide, by decide, by decide +kernel⟩, by decide⟩, ⟨dmT2 133 rfl rfl, dmT2 134 rfl rfl⟩, _, rfl, rfl⟩
theorem lcl_33 : dCV R_law 33 yX12_fault cX12_fault 2 (some .int) 1 12 := ⟨dmT6 185 rfl rfl, ⟨dmT6 188 rfl rfl, dmT1 13 rfl rfl, ⟨by decide, by decide, by decide +kernel⟩, by decide⟩, ⟨dmT6 186 rfl rfl, dmT6 187 rfl rfl⟩, _, rfl, rfl⟩
set_option maxRecDepth 20000 in
theorem lc_fault {r : Int32} {hC2 hM2 : dH} (hL : L ≤ 3072) (hi : iN + 6 ≤ L) (e1 : aC_fault (xs (iN + 1)) hC = some (r, hC2)) (e2 : aM_fault (xs (iN + 1)) hM = some (r, hM2)) (k : LB l b L xs n 1547 (Int32.ofNat iN) [] hC2 hM2) : LB l b L xs n 314 (Int32.ofNat iN) [] hC hM := by
  refine L_aload1 dL_law_314 ?_
  refine L_arg 1 dL_law_315 dL_law_316 dL_law_318 dL_law_319 dL_law_320 la_1 hL (by omega) ?_
  refine L_callC (st := []) (as := [.int (xs (iN + 1))]) dL_law_321 lcl_29 (taC_fault (xs (iN + 1)) hC) e1 (Nat.le_of_ble_eq_true rfl) rfl rfl rfl (Nat.le_of_ble_eq_true rfl) rfl ?_
  refine L_aload2 dL_law_324 ?_
  refine L_arg 1 dL_law_325 dL_law_326 dL_law_328 dL_law_329 dL_law_330 la_1 hL (by omega) ?_
  refine L_callM (st := [.int r]) (as := [.int (xs (iN + 1))]) dL_law_331 lcl_33 (taM_fault (xs (iN + 1)) hM) e2 (Nat.le_of_ble_eq_true rfl) rfl rfl rfl (Nat.le_of_ble_eq_true rfl) rfl ?_
  exact L_icmp_eq (tgt := 1547) dL_law_334 (by decide) (fun _ => k) (fun q => absurd rfl q)
theorem lcl_34 : dCV R_law 34 yX11_text cX11_text 3 (some .int) 1 11 := ⟨dmT3 84 rfl rfl, ⟨dmT3 87 rfl rfl, dmT1 1 rfl rfl, ⟨by decide, by decide, by decide +kernel⟩, by decide⟩, ⟨dmT3 85 rfl rfl, dmT3 86 rfl rfl⟩, _, rfl, rfl⟩
theorem lcl_37 : dCV R_law 37 yX12_text cX12_text 4 (some .int) 1 12 := ⟨dmT7 82 rfl rfl, ⟨dmT7 85 rfl rfl, dmT1 13 rfl rfl, ⟨by decide, by decide, by decide +kernel⟩, by decide⟩, ⟨dmT7 83 rfl rfl, dmT7 84 rfl rfl⟩, _, rfl, rfl⟩
set_option maxRecDepth 20000 in
theorem lc_text {r : Int32} {hC2 hM2 : dH} (hL : L ≤ 3072) (hi : iN + 6 ≤ L) (e1 : aC_text (xs (iN + 1)) hC = some (r, hC2)) (e2 : aM_text (xs (iN + 1)) hM = some (r, hM2)) (k : LB l b L xs n 1547 (Int32.ofNat iN) [] hC2 hM2) : LB l b L xs n 339 (Int32.ofNat iN) [] hC hM := by
  refine L_aload1 dL_law_339 ?_
  refine L_arg 1 dL_law_340 dL_law_341 dL_law_343 dL_law_344 dL_law_345 la_1 hL (by omega) ?_
  refine L_callC (st := []) (as := [.int (xs (iN + 1))]) dL_law_346 lcl_34 (taC_text (xs (iN + 1)) hC) e1 (Nat.le_of_ble_eq_true rfl) rfl rfl rfl (Nat.le_of_ble_eq_true rfl) rfl ?_
  refine L_aload2 dL_law_349 ?_
  refine L_arg 1 dL_law_350 dL_law_351 dL_law_353 dL_law_354 dL_law_355 la_1 hL (by omega) ?_
  refine L_callM (st := [.int r]) (as := [.int (xs (iN + 1))]) dL_law_356 lcl_37 (taM_text (xs (iN + 1)) hM) e2 (Nat.le_of_ble_eq_true rfl) rfl rfl rfl (Nat.le_of_ble_eq_true rfl) rfl ?_
  exact L_icmp_eq (tgt := 1547) dL_law_359 (by decide) (fun _ => k) (fun q => absurd rfl q)
theorem lcl_38 : dCV R_law 38 yX11_rule cX11_rule 2 (some .int) 1 11 := ⟨dmT3 120 rfl rfl, ⟨dmT3 123 rfl rfl, dmT1 1 rfl rfl, ⟨by decide, by decide, by decide +kernel⟩, by decide⟩, ⟨dmT3 121 rfl rfl, dmT3 122 rfl rfl⟩, _, rfl, rfl⟩
theorem lcl_41 : dCV R_law 41 yX12_rule cX12_rule 2 (some .int) 1 12 := ⟨dmT7 87 rfl rfl, ⟨dmT7 90 rfl rfl, dmT1 13 rfl rfl, ⟨by decide, by decide, by decide +kernel⟩, by decide⟩, ⟨dmT7 88 rfl rfl, dmT7 89 rfl rfl⟩, _, rfl, rfl⟩
set_option maxRecDepth 20000 in
theorem lc_rule {r : Int32} {hC2 hM2 : dH} (hL : L ≤ 3072) (hi : iN + 6 ≤ L) (e1 : aC_rule (xs (iN + 1)) hC = some (r, hC2)) (e2 : aM_rule (xs (iN + 1)) hM = some (r, hM2)) (k : LB l b L xs n 1547 (Int32.ofNat iN) [] hC2 hM2) : LB l b L xs n 364 (Int32.ofNat iN) [] hC hM := by
  refine L_aload1 dL_law_364 ?_
  refine L_arg 1 dL_law_365 dL_law_366 dL_law_368 dL_law_369 dL_law_370 la_1 hL (by omega) ?_
  refine L_callC (st := []) (as := [.int (xs (iN + 1))]) dL_law_371 lcl_38 (taC_rule (xs (iN + 1)) hC) e1 (Nat.le_of_ble_eq_true rfl) rfl rfl rfl (Nat.le_of_ble_eq_true rfl) rfl ?_
  refine L_aload2 dL_law_374 ?_
  refine L_arg 1 dL_law_375 dL_law_376 dL_law_378 dL_law_379 dL_law_380 la_1 hL (by omega) ?_
  refine L_callM (st := [.int r]) (as := [.int (xs (iN + 1))]) dL_law_381 lcl_41 (taM_rule (xs (iN + 1)) hM) e2 (Nat.le_of_ble_eq_true rfl) rfl rfl rfl (Nat.le_of_ble_eq_true rfl) rfl ?_
  exact L_icmp_eq (tgt := 1547) dL_law_384 (by decide) (fun _ => k) (fun q => absurd rfl q)
theorem lcl_52 : dCV R_law 52 yX11_law cX11_law 2 (some .boolean) 1 11 := ⟨dmT3 128 rfl rfl, ⟨dmT3 131 rfl rfl, dmT1 1 rfl rfl, ⟨by decide, by decide, by decide +kernel⟩, by decide⟩, ⟨dmT3 129 rfl rfl, dmT3 130 rfl rfl⟩, _, rfl, rfl⟩
theorem lcl_55 : dCV R_law 55 yX12_law cX12_law 2 (some .boolean) 1 12 := ⟨dmT7 104 rfl rfl, ⟨dmT7 107 rfl rfl, dmT1 13 rfl rfl, ⟨by decide, by decide, by decide +kernel⟩, by decide⟩, ⟨dmT7 105 rfl rfl, dmT7 106 rfl rfl⟩, _, rfl, rfl⟩
set_option maxRecDepth 20000 in
theorem lc_law {r : Int32} {hC2 hM2 : dH} (hL : L ≤ 3072) (hi : iN + 6 ≤ L) (e1 : aC_law (xs (iN + 1)) hC = some (r, hC2)) (e2 : aM_law (xs (iN + 1)) hM = some (r, hM2)) (k : LB l b L xs n 1547 (Int32.ofNat iN) [] hC2 hM2) : LB l b L xs n 457 (Int32.ofNat iN) [] hC hM := by
  refine L_aload1 dL_law_457 ?_
  refine L_arg 1 dL_law_458 dL_law_459 dL_law_461 dL_law_462 dL_law_463 la_1 hL (by omega) ?_
  refine L_callC (st := []) (as := [.int (xs (iN + 1))]) dL_law_464 lcl_52 (taC_law (xs (iN + 1)) hC) e1 (Nat.le_of_ble_eq_true rfl) rfl rfl rfl (Nat.le_of_ble_eq_true rfl) rfl ?_
  refine L_aload2 dL_law_467 ?_
  refine L_arg 1 dL_law_468 dL_law_469 dL_law_471 dL_law_472 dL_law_473 la_1 hL (by omega) ?_
  refine L_callM (st := [.int r]) (as := [.int (xs (iN + 1))]) dL_law_474 lcl_55 (taM_law (xs (iN + 1)) hM) e2 (Nat.le_of_ble_eq_true rfl) rfl rfl rfl (Nat.le_of_ble_eq_true rfl) rfl ?_
  exact L_icmp_eq (tgt := 1547) dL_law_477 (by decide) (fun _ => k) (fun q => absurd rfl q)
theorem lcl_56 : dCV R_law 56 yX11_gout cX11_gout 2 (some .boolean) 1 11 := ⟨dmT3 132 rfl rfl, ⟨dmT3 135 rfl rfl, dmT1 1 rfl rfl, ⟨by decide, by decide, by decide +kernel⟩, by decide⟩, ⟨dmT3 133 rfl rfl, dmT3 134 rfl rfl⟩, _, rfl, rfl⟩
theorem lcl_59 : dCV R_law 59 yX12_gout cX12_gout 2 (some .boolean) 1 12 := ⟨dmT7 108 rfl rfl, ⟨dmT7 111 rfl rfl, dmT1 13 rfl rfl, ⟨by decide, by decide, by decide +kernel⟩, by decide⟩, ⟨dmT7 109 rfl rfl, dmT7 110 rfl rfl⟩, _, rfl, rfl⟩
set_option maxRecDepth 20000 in
theorem lc_gout {r : Int32} {hC2 hM2 : dH} (hL : L ≤ 3072) (hi : iN + 6 ≤ L) (e1 : aC_gout (xs (iN + 1)) hC = some (r, hC2)) (e2 : aM_gout (xs (iN + 1)) hM = some (r, hM2)) (k : LB l b L xs n 1547 (Int32.ofNat iN) [] hC2 hM2) : LB l b L xs n 482 (Int32.ofNat iN) [] hC hM := by
  refine L_aload1 dL_law_482 ?_
  refine L_arg 1 dL_law_483 dL_law_484 dL_law_486 dL_law_487 dL_law_488 la_1 hL (by omega) ?_
  refine L_callC (st := []) (as := [.int (xs (iN + 1))]) dL_law_489 lcl_56 (taC_gout (xs (iN + 1)) hC) e1 (Nat.le_of_ble_eq_true rfl) rfl rfl rfl (Nat.le_of_ble_eq_true rfl) rfl ?_
  refine L_aload2 dL_law_492 ?_
  refine L_arg 1 dL_law_493 dL_law_494 dL_law_496 dL_law_497 dL_law_498 la_1 hL (by omega) ?_
  refine L_callM (st := [.int r]) (as := [.int (xs (iN + 1))]) dL_law_499 lcl_59 (taM_gout (xs (iN + 1)) hM) e2 (Nat.le_of_ble_eq_true rfl) rfl rfl rfl (Nat.le_of_ble_eq_true rfl) rfl ?_
  exact L_icmp_eq (tgt := 1547) dL_law_502 (by decide) (fun _ => k) (fun q => absurd rfl q)
theorem lcl_60 : dCV R_law 60 yX11_steps cX11_steps 3 (some .int) 2 11 := ⟨dmT3 136 rfl rfl, ⟨dmT3 139 rfl rfl, dmT1 1 rfl rfl, ⟨by decide, by decide, by decide +kernel⟩, by decide⟩, ⟨dmT3 137 rfl rfl, dmT3 138 rfl rfl⟩, _, rfl, rfl⟩
theorem lcl_63 : dCV R_law 63 yX12_steps cX12_steps 3 (some .int) 2 12 := ⟨dmT7 113 rfl rfl, ⟨dmT7 116 rfl rfl, dmT1 13 rfl rfl, ⟨by decide, by decide, by decide +kernel⟩, by decide⟩, ⟨dmT7 114 rfl rfl, dmT7 115 rfl rfl⟩, _, rfl, rfl⟩
set_option maxRecDepth 20000 in
theorem lc_steps {r : Int32} {hC2 hM2 : dH} (hL : L ≤ 3072) (hi : iN + 6 ≤ L) (e1 : aC_steps (xs (iN + 1)) (xs (iN + 2)) hC = some (r, hC2)) (e2 : aM_steps (xs (iN + 1)) (xs (iN + 2)) hM = some (r, hM2)) (k : LB l b L xs n 1547 (Int32.ofNat iN) [] hC2 hM2) : LB l b L xs n 507 (Int32.ofNat iN) [] hC hM := by
  refine L_aload1 dL_law_507 ?_
  refine L_arg 1 dL_law_508 dL_law_509 dL_law_511 dL_law_512 dL_law_513 la_1 hL (by omega) ?_
  refine L_arg 2 dL_law_514 dL_law_515 dL_law_517 dL_law_518 dL_law_519 la_2 hL (by omega) ?_
  refine L_callC (st := []) (as := [.int (xs (iN + 1)), .int (xs (iN + 2))]) dL_law_520 lcl_60 (taC_steps (xs (iN + 1)) (xs (iN + 2)) hC) e1 (Nat.le_of_ble_eq_true rfl) rfl rfl rfl (Nat.le_of_ble_eq_true rfl) rfl ?_
  refine L_aload2 dL_law_523 ?_
  refine L_arg 1 dL_law_524 dL_law_525 dL_law_527 dL_law_528 dL_law_529 la_1 hL (by omega) ?_
  refine L_arg 2 dL_law_530 dL_law_531 dL_law_533 dL_law_534 dL_law_535 la_2 hL (by omega) ?_
  refine L_callM (st := [.int r]) (as := [.int (xs (iN + 1)), .int (xs (iN + 2))]) dL_law_536 lcl_63 (taM_steps (xs (iN + 1)) (xs (iN + 2)) hM) e2 (Nat.le_of_ble_eq_true rfl) rfl rfl rfl (Nat.le_of_ble_eq_true rfl) rfl ?_
  exact L_icmp_eq (tgt := 1547) dL_law_539 (by decide) (fun _ => k) (fun q => absurd rfl q)
theorem lcl_64 : dCV R_law 64 yX11_walk cX11_walk 2 (some .int) 1 11 := ⟨dmT3 146 rfl rfl, ⟨dmT3 149 rfl rfl, dmT1 1 rfl rfl, ⟨by decide, by decide, by decide +kernel⟩, by decide⟩, ⟨dmT3 147 rfl rfl, dmT3 148 rfl rfl⟩, _, rfl, rfl⟩
theorem lcl_67 : dCV R_law 67 yX12_walk cX12_walk 2 (some .int) 1 12 := ⟨dmT7 129 rfl rfl, ⟨dmT7 132 rfl rfl, dmT1 13 rfl rfl, ⟨by decide, by decide, by decide +kernel⟩, by decide⟩, ⟨dmT7 130 rfl rfl, dmT7 131 rfl rfl⟩, _, rfl, rfl⟩
set_option maxRecDepth 20000 in
theorem lc_walk {r : Int32} {hC2 hM2 : dH} (hL : L ≤ 3072) (hi : iN + 6 ≤ L) (e1 : aC_walk (xs (iN + 1)) hC = some (r, hC2)) (e2 : aM_walk (xs (iN + 1)) hM = some (r, hM2)) (k : LB l b L xs n 1547 (Int32.ofNat iN) [] hC2 hM2) : LB l b L xs n 544 (Int32.ofNat iN) [] hC hM := by
  refine L_aload1 dL_law_544 ?_
  refine L_arg 1 dL_law_545 dL_law_546 dL_law_548 dL_law_549 dL_law_550 la_1 hL (by omega) ?_
  refine L_callC (st := []) (as := [.int (xs (iN + 1))]) dL_law_551 lcl_64 (taC_walk (xs (iN + 1)) hC) e1 (Nat.le_of_ble_eq_true rfl) rfl rfl rfl (Nat.le_of_ble_eq_true rfl) rfl ?_
  refine L_aload2 dL_law_554 ?_
  refine L_arg 1 dL_law_555 dL_law_556 dL_law_558 dL_law_559 dL_law_560 la_1 hL (by omega) ?_
  refine L_callM (st := [.int r]) (as := [.int (xs (iN + 1))]) dL_law_561 lcl_67 (taM_walk (xs (iN + 1)) hM) e2 (Nat.le_of_ble_eq_true rfl) rfl rfl rfl (Nat.le_of_ble_eq_true rfl) rfl ?_
  exact L_icmp_eq (tgt := 1547) dL_law_564 (by decide) (fun _ => k) (fun q => absurd rfl q)
theorem lcl_68 : dCV R_law 68 yX11_ledge cX11_ledge 1 (some .int) 0 11 := ⟨dmT4 23 rfl rfl, ⟨dmT4 26 rfl rfl, dmT1 1 rfl rfl, ⟨by decide, by decide, by decide +kernel⟩, by decide⟩, ⟨dmT4 24 rfl rfl, dmT4 25 rfl rfl⟩, _, rfl, rfl⟩
theorem lcl_71 : dCV R_law 71 yX12_ledge cX12_ledge 1 (some .int) 0 12 := ⟨dmT7 160 rfl rfl, ⟨dmT7 163 rfl rfl, dmT1 13 rfl rfl, ⟨by decide, by decide, by decide +kernel⟩, by decide⟩, ⟨dmT7 161 rfl rfl, dmT7 162 rfl rfl⟩, _, rfl, rfl⟩
set_option maxRecDepth 20000 in
theorem lc_ledge {r : Int32} {hC2 hM2 : dH} (hL : L ≤ 3072) (hi : iN + 6 ≤ L) (e1 : aC_ledge hC = some (r, hC2)) (e2 : aM_ledge hM = some (r, hM2)) (k : LB l b L xs n 1547 (Int32.ofNat iN) [] hC2 hM2) : LB l b L xs n 569 (Int32.ofNat iN) [] hC hM := by
  refine L_aload1 dL_law_569 ?_
  refine L_callC (st := []) (as := []) dL_law_570 lcl_68 (taC_ledge hC) e1 (Nat.le_of_ble_eq_true rfl) rfl rfl rfl (Nat.le_of_ble_eq_true rfl) rfl ?_
  refine L_aload2 dL_law_573 ?_
  refine L_callM (st := [.int r]) (as := []) dL_law_574 lcl_71 (taM_ledge hM) e2 (Nat.le_of_ble_eq_true rfl) rfl rfl rfl (Nat.le_of_ble_eq_true rfl) rfl ?_
  exact L_icmp_eq (tgt := 1547) dL_law_577 (by decide) (fun _ => k) (fun q => absurd rfl q)
theorem lcl_72 : dCV R_law 72 yX11_restore cX11_restore 2 (some .int) 1 11 := ⟨dmT4 27 rfl rfl, ⟨dmT4 30 rfl rfl, dmT1 1 rfl rfl, ⟨by decide, by decide, by decide +kernel⟩, by decide⟩, ⟨dmT4 28 rfl rfl, dmT4 29 rfl rfl⟩, _, rfl, rfl⟩
theorem lcl_75 : dCV R_law 75 yX12_restore cX12_restore 2 (some .int) 1 12 := ⟨dmT7 171 rfl rfl, ⟨dmT7 174 rfl rfl, dmT1 13 rfl rfl, ⟨by decide, by decide, by decide +kernel⟩, by decide⟩, ⟨dmT7 172 rfl rfl, dmT7 173 rfl rfl⟩, _, rfl, rfl⟩
set_option maxRecDepth 20000 in
theorem lc_restore {r : Int32} {hC2 hM2 : dH} (hL : L ≤ 3072) (hi : iN + 6 ≤ L) (e1 : aC_restore (xs (iN + 1)) hC = some (r, hC2)) (e2 : aM_restore (xs (iN + 1)) hM = some (r, hM2)) (k : LB l b L xs n 1547 (Int32.ofNat iN) [] hC2 hM2) : LB l b L xs n 582 (Int32.ofNat iN) [] hC hM := by
  refine L_aload1 dL_law_582 ?_
  refine L_arg 1 dL_law_583 dL_law_584 dL_law_586 dL_law_587 dL_law_588 la_1 hL (by omega) ?_
  refine L_callC (st := []) (as := [.int (xs (iN + 1))]) dL_law_589 lcl_72 (taC_restore (xs (iN + 1)) hC) e1 (Nat.le_of_ble_eq_true rfl) rfl rfl rfl (Nat.le_of_ble_eq_true rfl) rfl ?_
  refine L_aload2 dL_law_592 ?_
  refine L_arg 1 dL_law_593 dL_law_594 dL_law_596 dL_law_597 dL_law_598 la_1 hL (by omega) ?_
  refine L_callM (st := [.int r]) (as := [.int (xs (iN + 1))]) dL_law_599 lcl_75 (taM_restore (xs (iN + 1)) hM) e2 (Nat.le_of_ble_eq_true rfl) rfl rfl rfl (Nat.le_of_ble_eq_true rfl) rfl ?_
  exact L_icmp_eq (tgt := 1547) dL_law_602 (by decide) (fun _ => k) (fun q => absurd rfl q)
theorem lcl_76 : dCV R_law 76 yX11_patience cX11_patience 4 (some .int) 2 11 := ⟨dmT4 31 rfl rfl, ⟨dmT4 34 rfl rfl, dmT1 1 rfl rfl, ⟨by decide, by decide, by decide +kernel⟩, by decide⟩, ⟨dmT4 32 rfl rfl, dmT4 33 rfl rfl⟩, _, rfl, rfl⟩
theorem lcl_79 : dCV R_law 79 yX12_patience cX12_patience 4 (some .int) 2 12 := ⟨dmT7 182 rfl rfl, ⟨dmT7 185 rfl rfl, dmT1 13 rfl rfl, ⟨by decide, by decide, by decide +kernel⟩, by decide⟩, ⟨dmT7 183 rfl rfl, dmT7 184 rfl rfl⟩, _, rfl, rfl⟩
set_option maxRecDepth 20000 in
theorem lc_patience {r : Int32} {hC2 hM2 : dH} (hL : L ≤ 3072) (hi : iN + 6 ≤ L) (e1 : aC_patience (xs (iN + 1)) (xs (iN + 2)) hC = some (r, hC2)) (e2 : aM_patience (xs (iN + 1)) (xs (iN + 2)) hM = some (r, hM2)) (k : LB l b L xs n 1547 (Int32.ofNat iN) [] hC2 hM2) : LB l b L xs n 607 (Int32.ofNat iN) [] hC hM := by
  refine L_aload1 dL_law_607 ?_
  refine L_arg 1 dL_law_608 dL_law_609 dL_law_611 dL_law_612 dL_law_613 la_1 hL (by omega) ?_
  refine L_arg 2 dL_law_614 dL_law_615 dL_law_617 dL_law_618 dL_law_619 la_2 hL (by omega) ?_
  refine L_callC (st := []) (as := [.int (xs (iN + 1)), .int (xs (iN + 2))]) dL_law_620 lcl_76 (taC_patience (xs (iN + 1)) (xs (iN + 2)) hC) e1 (Nat.le_of_ble_eq_true rfl) rfl rfl rfl (Nat.le_of_ble_eq_true rfl) rfl ?_
  refine L_aload2 dL_law_623 ?_
  refine L_arg 1 dL_law_624 dL_law_625 dL_law_627 dL_law_628 dL_law_629 la_1 hL (by omega) ?_
  refine L_arg 2 dL_law_630 dL_law_631 dL_law_633 dL_law_634 dL_law_635 la_2 hL (by omega) ?_
  refine L_callM (st := [.int r]) (as := [.int (xs (iN + 1)), .int (xs (iN + 2))]) dL_law_636 lcl_79 (taM_patience (xs (iN + 1)) (xs (iN + 2)) hM) e2 (Nat.le_of_ble_eq_true rfl) rfl rfl rfl (Nat.le_of_ble_eq_true rfl) rfl ?_
  exact L_icmp_eq (tgt := 1547) dL_law_639 (by decide) (fun _ => k) (fun q => absurd rfl q)
theorem lcl_80 : dCV R_law 80 yX11_day cX11_day 1 (some .int) 0 11 := ⟨dmT4 40 rfl rfl, ⟨dmT4 43 rfl rfl, dmT1 1 rfl rfl, ⟨by decide, by decide, by decide +kernel⟩, by decide⟩, ⟨dmT4 41 rfl rfl, dmT4 42 rfl rfl⟩, _, rfl, rfl⟩
theorem lcl_83 : dCV R_law 83 yX12_day cX12_day 1 (some .int) 0 12 := ⟨dmT7 187 rfl rfl, ⟨dmT7 190 rfl rfl, dmT1 13 rfl rfl, ⟨by decide, by decide, by decide +kernel⟩, by decide⟩, ⟨dmT7 188 rfl rfl, dmT7 189 rfl rfl⟩, _, rfl, rfl⟩
set_option maxRecDepth 20000 in
theorem lc_day {r : Int32} {hC2 hM2 : dH} (hL : L ≤ 3072) (hi : iN + 6 ≤ L) (e1 : aC_day hC = some (r, hC2)) (e2 : aM_day hM = some (r, hM2)) (k : LB l b L xs n 1547 (Int32.ofNat iN) [] hC2 hM2) : LB l b L xs n 644 (Int32.ofNat iN) [] hC hM := by
  refine L_aload1 dL_law_644 ?_
  refine L_callC (st := []) (as := []) dL_law_645 lcl_80 (taC_day hC) e1 (Nat.le_of_ble_eq_true rfl) rfl rfl rfl (Nat.le_of_ble_eq_true rfl) rfl ?_
  refine L_aload2 dL_law_648 ?_
  refine L_callM (st := [.int r]) (as := []) dL_law_649 lcl_83 (taM_day hM) e2 (Nat.le_of_ble_eq_true rfl) rfl rfl rfl (Nat.le_of_ble_eq_true rfl) rfl ?_
  exact L_icmp_eq (tgt := 1547) dL_law_652 (by decide) (fun _ => k) (fun q => absurd rfl q)
theorem lcl_86 : dCV R_law 86 yX11_years cX11_years 8 (some .int) 2 11 := ⟨dmT4 44 rfl rfl, ⟨dmT4 47 rfl rfl, dmT1 1 rfl rfl, ⟨by decide, by decide, by decide +kernel⟩, by decide⟩, ⟨dmT4 45 rfl rfl, dmT4 46 rfl rfl⟩, _, rfl, rfl⟩
theorem lcl_90 : dCV R_law 90 yX12_years cX12_years 8 (some .int) 2 12 := ⟨dmT7 199 rfl rfl, ⟨dmT7 202 rfl rfl, dmT1 13 rfl rfl, ⟨by decide, by decide, by decide +kernel⟩, by decide⟩, ⟨dmT7 200 rfl rfl, dmT7 201 rfl rfl⟩, _, rfl, rfl⟩
set_option maxRecDepth 20000 in
theorem lc_years {r : Int32} {hC2 hM2 : dH} (hL : L ≤ 3072) (hi : iN + 6 ≤ L) (e1 : aC_years (xs (iN + 1)) (lawSeed (xs (iN + 2)) (xs (iN + 3))) hC = some (r, hC2)) (e2 : aM_years (xs (iN + 1)) (lawSeed (xs (iN + 2)) (xs (iN + 3))) hM = some (r, hM2)) (k : LB l b L xs n 1547 (Int32.ofNat iN) [] hC2 hM2) : LB l b L xs n 657 (Int32.ofNat iN) [] hC hM := by
  refine L_aload1 dL_law_657 ?_
  refine L_arg 1 dL_law_658 dL_law_659 dL_law_661 dL_law_662 dL_law_663 la_1 hL (by omega) ?_
  refine L_arg 2 dL_law_664 dL_law_665 dL_law_667 dL_law_668 dL_law_669 la_2 hL (by omega) ?_
  refine L_i2l dL_law_670 ?_
  refine L_bipush dL_law_671 bp_32 ?_
  refine L_lshl dL_law_673 ?_
  refine L_arg 3 dL_law_674 dL_law_675 dL_law_677 dL_law_678 dL_law_679 la_3 hL (by omega) ?_
  refine L_i2l dL_law_680 ?_
  refine L_ldc2 dL_law_681 lk_84 ?_
  refine L_land dL_law_684 ?_
  refine L_lor dL_law_685 ?_
  refine L_callC (st := []) (as := [.int (xs (iN + 1)), .long (lawSeed (xs (iN + 2)) (xs (iN + 3)))]) dL_law_686 lcl_86 (taC_years (xs (iN + 1)) (lawSeed (xs (iN + 2)) (xs (iN + 3))) hC) e1 (Nat.le_of_ble_eq_true rfl) rfl rfl rfl (Nat.le_of_ble_eq_true rfl) rfl ?_
  refine L_aload2 dL_law_689 ?_
  refine L_arg 1 dL_law_690 dL_law_691 dL_law_693 dL_law_694 dL_law_695 la_1 hL (by omega) ?_
  refine L_arg 2 dL_law_696 dL_law_697 dL_law_699 dL_law_700 dL_law_701 la_2 hL (by omega) ?_
  refine L_i2l dL_law_702 ?_
  refine L_bipush dL_law_703 bp_32 ?_
  refine L_lshl dL_law_705 ?_
  refine L_arg 3 dL_law_706 dL_law_707 dL_law_709 dL_law_710 dL_law_711 la_3 hL (by omega) ?_
  refine L_i2l dL_law_712 ?_
  refine L_ldc2 dL_law_713 lk_84 ?_
  refine L_land dL_law_716 ?_
  refine L_lor dL_law_717 ?_
  refine L_callM (st := [.int r]) (as := [.int (xs (iN + 1)), .long (lawSeed (xs (iN + 2)) (xs (iN + 3)))]) dL_law_718 lcl_90 (taM_years (xs (iN + 1)) (lawSeed (xs (iN + 2)) (xs (iN + 3))) hM) e2 (Nat.le_of_ble_eq_true rfl) rfl rfl rfl (Nat.le_of_ble_eq_true rfl) rfl ?_
  exact L_icmp_eq (tgt := 1547) dL_law_721 (by decide) (fun _ => k) (fun q => absurd rfl q)
theorem lcl_91 : dCV R_law 91 yX11_undo cX11_undo 1 (some .int) 0 11 := ⟨dmT4 64 rfl rfl, ⟨dmT4 67 rfl rfl, dmT1 1 rfl rfl, ⟨by decide, by decide, by decide +kernel⟩, by decide⟩, ⟨dmT4 65 rfl rfl, dmT4 66 rfl rfl⟩, _, rfl, rfl⟩
theorem lcl_94 : dCV R_law 94 yX12_undo cX12_undo 2 (some .int) 0 12 := ⟨dmT7 210 rfl rfl, ⟨dmT7 213 rfl rfl, dmT1 13 rfl rfl, ⟨by decide, by decide, by decide +kernel⟩, by decide⟩, ⟨dmT7 211 rfl rfl, dmT7 212 rfl rfl⟩, _, rfl, rfl⟩
set_option maxRecDepth 20000 in
theorem lc_undo {r : Int32} {hC2 hM2 : dH} (hL : L ≤ 3072) (hi : iN + 6 ≤ L) (e1 : aC_undo hC = some (r, hC2)) (e2 : aM_undo hM = some (r, hM2)) (k : LB l b L xs n 1547 (Int32.ofNat iN) [] hC2 hM2) : LB l b L xs n 726 (Int32.ofNat iN) [] hC hM := by
  refine L_aload1 dL_law_726 ?_
  refine L_callC (st := []) (as := []) dL_law_727 lcl_91 (taC_undo hC) e1 (Nat.le_of_ble_eq_true rfl) rfl rfl rfl (Nat.le_of_ble_eq_true rfl) rfl ?_
  refine L_aload2 dL_law_730 ?_
  refine L_callM (st := [.int r]) (as := []) dL_law_731 lcl_94 (taM_undo hM) e2 (Nat.le_of_ble_eq_true rfl) rfl rfl rfl (Nat.le_of_ble_eq_true rfl) rfl ?_
  exact L_icmp_eq (tgt := 1547) dL_law_734 (by decide) (fun _ => k) (fun q => absurd rfl q)
theorem lcl_95 : dCV R_law 95 yX11_log cX11_log 3 (some .int) 2 11 := ⟨dmT4 76 rfl rfl, ⟨dmT4 79 rfl rfl, dmT1 1 rfl rfl, ⟨by decide, by decide, by decide +kernel⟩, by decide⟩, ⟨dmT4 77 rfl rfl, dmT4 78 rfl rfl⟩, _, rfl, rfl⟩
theorem lcl_98 : dCV R_law 98 yX12_log cX12_log 3 (some .int) 2 12 := ⟨dmT7 214 rfl rfl, ⟨dmT7 217 rfl rfl, dmT1 13 rfl rfl, ⟨by decide, by decide, by decide +kernel⟩, by decide⟩, ⟨dmT7 215 rfl rfl, dmT7 216 rfl rfl⟩, _, rfl, rfl⟩
set_option maxRecDepth 20000 in
theorem lc_log {r : Int32} {hC2 hM2 : dH} (hL : L ≤ 3072) (hi : iN + 6 ≤ L) (e1 : aC_log (xs (iN + 1)) (xs (iN + 2)) hC = some (r, hC2)) (e2 : aM_log (xs (iN + 1)) (xs (iN + 2)) hM = some (r, hM2)) (k : LB l b L xs n 1547 (Int32.ofNat iN) [] hC2 hM2) : LB l b L xs n 739 (Int32.ofNat iN) [] hC hM := by
  refine L_aload1 dL_law_739 ?_
  refine L_arg 1 dL_law_740 dL_law_741 dL_law_743 dL_law_744 dL_law_745 la_1 hL (by omega) ?_
  refine L_arg 2 dL_law_746 dL_law_747 dL_law_749 dL_law_750 dL_law_751 la_2 hL (by omega) ?_
  refine L_callC (st := []) (as := [.int (xs (iN + 1)), .int (xs (iN + 2))]) dL_law_752 lcl_95 (taC_log (xs (iN + 1)) (xs (iN + 2)) hC) e1 (Nat.le_of_ble_eq_true rfl) rfl rfl rfl (Nat.le_of_ble_eq_true rfl) rfl ?_
  refine L_aload2 dL_law_755 ?_
  refine L_arg 1 dL_law_756 dL_law_757 dL_law_759 dL_law_760 dL_law_761 la_1 hL (by omega) ?_
  refine L_arg 2 dL_law_762 dL_law_763 dL_law_765 dL_law_766 dL_law_767 la_2 hL (by omega) ?_
  refine L_callM (st := [.int r]) (as := [.int (xs (iN + 1)), .int (xs (iN + 2))]) dL_law_768 lcl_98 (taM_log (xs (iN + 1)) (xs (iN + 2)) hM) e2 (Nat.le_of_ble_eq_true rfl) rfl rfl rfl (Nat.le_of_ble_eq_true rfl) rfl ?_
  exact L_icmp_eq (tgt := 1547) dL_law_771 (by decide) (fun _ => k) (fun q => absurd rfl q)
theorem lcl_99 : dCV R_law 99 yX11_step cX11_step 4 (some .int) 3 11 := ⟨dmT4 89 rfl rfl, ⟨dmT4 92 rfl rfl, dmT1 1 rfl rfl, ⟨by decide, by decide, by decide +kernel⟩, by decide⟩, ⟨dmT4 90 rfl rfl, dmT4 91 rfl rfl⟩, _, rfl, rfl⟩
theorem lcl_103 : dCV R_law 103 yX12_step cX12_step 4 (some .int) 3 12 := ⟨dmT7 218 rfl rfl, ⟨dmT7 221 rfl rfl, dmT1 13 rfl rfl, ⟨by decide, by decide, by decide +kernel⟩, by decide⟩, ⟨dmT7 219 rfl rfl, dmT7 220 rfl rfl⟩, _, rfl, rfl⟩
set_option maxRecDepth 20000 in
theorem lc_step {r : Int32} {hC2 hM2 : dH} (hL : L ≤ 3072) (hi : iN + 6 ≤ L) (e1 : aC_step (xs (iN + 1)) (xs (iN + 2)) (xs (iN + 3)) hC = some (r, hC2)) (e2 : aM_step (xs (iN + 1)) (xs (iN + 2)) (xs (iN + 3)) hM = some (r, hM2)) (k : LB l b L xs n 1547 (Int32.ofNat iN) [] hC2 hM2) : LB l b L xs n 776 (Int32.ofNat iN) [] hC hM := by
  refine L_aload1 dL_law_776 ?_
  refine L_arg 1 dL_law_777 dL_law_778 dL_law_780 dL_law_781 dL_law_782 la_1 hL (by omega) ?_
  refine L_arg 2 dL_law_783 dL_law_784 dL_law_786 dL_law_787 dL_law_788 la_2 hL (by omega) ?_
  refine L_arg 3 dL_law_789 dL_law_790 dL_law_792 dL_law_793 dL_law_794 la_3 hL (by omega) ?_
  refine L_callC (st := []) (as := [.int (xs (iN + 1)), .int (xs (iN + 2)), .int (xs (iN + 3))]) dL_law_795 lcl_99 (taC_step (xs (iN + 1)) (xs (iN + 2)) (xs (iN + 3)) hC) e1 (Nat.le_of_ble_eq_true rfl) rfl rfl rfl (Nat.le_of_ble_eq_true rfl) rfl ?_
  refine L_aload2 dL_law_798 ?_
  refine L_arg 1 dL_law_799 dL_law_800 dL_law_802 dL_law_803 dL_law_804 la_1 hL (by omega) ?_
  refine L_arg 2 dL_law_805 dL_law_806 dL_law_808 dL_law_809 dL_law_810 la_2 hL (by omega) ?_
  refine L_arg 3 dL_law_811 dL_law_812 dL_law_814 dL_law_815 dL_law_816 la_3 hL (by omega) ?_
  refine L_callM (st := [.int r]) (as := [.int (xs (iN + 1)), .int (xs (iN + 2)), .int (xs (iN + 3))]) dL_law_817 lcl_103 (taM_step (xs (iN + 1)) (xs (iN + 2)) (xs (iN + 3)) hM) e2 (Nat.le_of_ble_eq_true rfl) rfl rfl rfl (Nat.le_of_ble_eq_true rfl) rfl ?_
  exact L_icmp_eq (tgt := 1547) dL_law_820 (by decide) (fun _ => k) (fun q => absurd rfl q)
theorem lcl_104 : dCV R_law 104 yX11_run cX11_run 5 (some .int) 2 11 := ⟨dmT4 111 rfl rfl, ⟨dmT4 114 rfl rfl, dmT1 1 rfl rfl, ⟨by decide, by decide, by decide +kernel⟩, by decide⟩, ⟨dmT4 112 rfl rfl, dmT4 113 rfl rfl⟩, _, rfl, rfl⟩
theorem lcl_107 : dCV R_law 107 yX12_run cX12_run 4 (some .int) 2 12 := ⟨dmT7 227 rfl rfl, ⟨dmT7 230 rfl rfl, dmT1 13 rfl rfl, ⟨by decide, by decide, by decide +kernel⟩, by decide⟩, ⟨dmT7 228 rfl rfl, dmT7 229 rfl rfl⟩, _, rfl, rfl⟩
set_option maxRecDepth 20000 in
theorem lc_run {r : Int32} {hC2 hM2 : dH} (hL : L ≤ 3072) (hi : iN + 6 ≤ L) (e1 : aC_run (xs (iN + 1)) (xs (iN + 2)) hC = some (r, hC2)) (e2 : aM_run (xs (iN + 1)) (xs (iN + 2)) hM = some (r, hM2)) (k : LB l b L xs n 1547 (Int32.ofNat iN) [] hC2 hM2) : LB l b L xs n 825 (Int32.ofNat iN) [] hC hM := by
  refine L_aload1 dL_law_825 ?_
  refine L_arg 1 dL_law_826 dL_law_827 dL_law_829 dL_law_830 dL_law_831 la_1 hL (by omega) ?_
  refine L_arg 2 dL_law_832 dL_law_833 dL_law_835 dL_law_836 dL_law_837 la_2 hL (by omega) ?_
  refine L_callC (st := []) (as := [.int (xs (iN + 1)), .int (xs (iN + 2))]) dL_law_838 lcl_104 (taC_run (xs (iN + 1)) (xs (iN + 2)) hC) e1 (Nat.le_of_ble_eq_true rfl) rfl rfl rfl (Nat.le_of_ble_eq_true rfl) rfl ?_
  refine L_aload2 dL_law_841 ?_
  refine L_arg 1 dL_law_842 dL_law_843 dL_law_845 dL_law_846 dL_law_847 la_1 hL (by omega) ?_
  refine L_arg 2 dL_law_848 dL_law_849 dL_law_851 dL_law_852 dL_law_853 la_2 hL (by omega) ?_
  refine L_callM (st := [.int r]) (as := [.int (xs (iN + 1)), .int (xs (iN + 2))]) dL_law_854 lcl_107 (taM_run (xs (iN + 1)) (xs (iN + 2)) hM) e2 (Nat.le_of_ble_eq_true rfl) rfl rfl rfl (Nat.le_of_ble_eq_true rfl) rfl ?_
  exact L_icmp_eq (tgt := 1547) dL_law_857 (by decide) (fun _ => k) (fun q => absurd rfl q)
theorem lcl_108 : dCV R_law 108 yX11_perform cX11_perform 4 (some .int) 1 11 := ⟨dmT4 125 rfl rfl, ⟨dmT4 128 rfl rfl, dmT1 1 rfl rfl, ⟨by decide, by decide, by decide +kernel⟩, by decide⟩, ⟨dmT4 126 rfl rfl, dmT4 127 rfl rfl⟩, _, rfl, rfl⟩
theorem lcl_111 : dCV R_law 111 yX12_perform cX12_perform 3 (some .int) 1 12 := ⟨dmT8 2 rfl rfl, ⟨dmT8 5 rfl rfl, dmT1 13 rfl rfl, ⟨by decide, by decide, by decide +kernel⟩, by decide⟩, ⟨dmT8 3 rfl rfl, dmT8 4 rfl rfl⟩, _, rfl, rfl⟩
set_option maxRecDepth 20000 in
theorem lc_perform {r : Int32} {hC2 hM2 : dH} (hL : L ≤ 3072) (hi : iN + 6 ≤ L) (e1 : aC_perform (xs (iN + 1)) hC = some (r, hC2)) (e2 : aM_perform (xs (iN + 1)) hM = some (r, hM2)) (k : LB l b L xs n 1547 (Int32.ofNat iN) [] hC2 hM2) : LB l b L xs n 862 (Int32.ofNat iN) [] hC hM := by
  refine L_aload1 dL_law_862 ?_
  refine L_arg 1 dL_law_863 dL_law_864 dL_law_866 dL_law_867 dL_law_868 la_1 hL (by omega) ?_
  refine L_callC (st := []) (as := [.int (xs (iN + 1))]) dL_law_869 lcl_108 (taC_perform (xs (iN + 1)) hC) e1 (Nat.le_of_ble_eq_true rfl) rfl rfl rfl (Nat.le_of_ble_eq_true rfl) rfl ?_
  refine L_aload2 dL_law_872 ?_
  refine L_arg 1 dL_law_873 dL_law_874 dL_law_876 dL_law_877 dL_law_878 la_1 hL (by omega) ?_
  refine L_callM (st := [.int r]) (as := [.int (xs (iN + 1))]) dL_law_879 lcl_111 (taM_perform (xs (iN + 1)) hM) e2 (Nat.le_of_ble_eq_true rfl) rfl rfl rfl (Nat.le_of_ble_eq_true rfl) rfl ?_
  exact L_icmp_eq (tgt := 1547) dL_law_882 (by decide) (fun _ => k) (fun q => absurd rfl q)
theorem lcl_112 : dCV R_law 112 yX11_troubles cX11_troubles 2 (some .int) 1 11 := ⟨dmT4 129 rfl rfl, ⟨dmT4 132 rfl rfl, dmT1 1 rfl rfl, ⟨by decide, by decide, by decide +kernel⟩, by decide⟩, ⟨dmT4 130 rfl rfl, dmT4 131 rfl rfl⟩, _, rfl, rfl⟩
theorem lcl_115 : dCV R_law 115 yX12_troubles cX12_troubles 2 (some .int) 1 12 := ⟨dmT8 6 rfl rfl, ⟨dmT8 9 rfl rfl, dmT1 13 rfl rfl, ⟨by decide, by decide, by decide +kernel⟩, by decide⟩, ⟨dmT8 7 rfl rfl, dmT8 8 rfl rfl⟩, _, rfl, rfl⟩
set_option maxRecDepth 20000 in
theorem lc_troubles {r : Int32} {hC2 hM2 : dH} (hL : L ≤ 3072) (hi : iN + 6 ≤ L) (e1 : aC_troubles (xs (iN + 1)) hC = some (r, hC2)) (e2 : aM_troubles (xs (iN + 1)) hM = some (r, hM2)) (k : LB l b L xs n 1547 (Int32.ofNat iN) [] hC2 hM2) : LB l b L xs n 887 (Int32.ofNat iN) [] hC hM := by
  refine L_aload1 dL_law_887 ?_
  refine L_arg 1 dL_law_888 dL_law_889 dL_law_891 dL_law_892 dL_law_893 la_1 hL (by omega) ?_
  refine L_callC (st := []) (as := [.int (xs (iN + 1))]) dL_law_894 lcl_112 (taC_troubles (xs (iN + 1)) hC) e1 (Nat.le_of_ble_eq_true rfl) rfl rfl rfl (Nat.le_of_ble_eq_true rfl) rfl ?_
  refine L_aload2 dL_law_897 ?_
  refine L_arg 1 dL_law_898 dL_law_899 dL_law_901 dL_law_902 dL_law_903 la_1 hL (by omega) ?_
  refine L_callM (st := [.int r]) (as := [.int (xs (iN + 1))]) dL_law_904 lcl_115 (taM_troubles (xs (iN + 1)) hM) e2 (Nat.le_of_ble_eq_true rfl) rfl rfl rfl (Nat.le_of_ble_eq_true rfl) rfl ?_
  exact L_icmp_eq (tgt := 1547) dL_law_907 (by decide) (fun _ => k) (fun q => absurd rfl q)
theorem lcl_116 : dCV R_law 116 yX11_sees cX11_sees 2 (some .int) 1 11 := ⟨dmT4 137 rfl rfl, ⟨dmT4 140 rfl rfl, dmT1 1 rfl rfl, ⟨by decide, by decide, by decide +kernel⟩, by decide⟩, ⟨dmT4 138 rfl rfl, dmT4 139 rfl rfl⟩, _, rfl, rfl⟩
theorem lcl_119 : dCV R_law 119 yX12_sees cX12_sees 2 (some .int) 1 12 := ⟨dmT8 10 rfl rfl, ⟨dmT8 13 rfl rfl, dmT1 13 rfl rfl, ⟨by decide, by decide, by decide +kernel⟩, by decide⟩, ⟨dmT8 11 rfl rfl, dmT8 12 rfl rfl⟩, _, rfl, rfl⟩
set_option maxRecDepth 20000 in
theorem lc_sees {r : Int32} {hC2 hM2 : dH} (hL : L ≤ 3072) (hi : iN + 6 ≤ L) (e1 : aC_sees (xs (iN + 1)) hC = some (r, hC2)) (e2 : aM_sees (xs (iN + 1)) hM = some (r, hM2)) (k : LB l b L xs n 1547 (Int32.ofNat iN) [] hC2 hM2) : LB l b L xs n 912 (Int32.ofNat iN) [] hC hM := by
  refine L_aload1 dL_law_912 ?_
  refine L_arg 1 dL_law_913 dL_law_914 dL_law_916 dL_law_917 dL_law_918 la_1 hL (by omega) ?_
  refine L_callC (st := []) (as := [.int (xs (iN + 1))]) dL_law_919 lcl_116 (taC_sees (xs (iN + 1)) hC) e1 (Nat.le_of_ble_eq_true rfl) rfl rfl rfl (Nat.le_of_ble_eq_true rfl) rfl ?_
  refine L_aload2 dL_law_922 ?_
  refine L_arg 1 dL_law_923 dL_law_924 dL_law_926 dL_law_927 dL_law_928 la_1 hL (by omega) ?_
  refine L_callM (st := [.int r]) (as := [.int (xs (iN + 1))]) dL_law_929 lcl_119 (taM_sees (xs (iN + 1)) hM) e2 (Nat.le_of_ble_eq_true rfl) rfl rfl rfl (Nat.le_of_ble_eq_true rfl) rfl ?_
  exact L_icmp_eq (tgt := 1547) dL_law_932 (by decide) (fun _ => k) (fun q => absurd rfl q)
theorem lcl_120 : dCV R_law 120 yX11_least cX11_least 3 (some .int) 2 11 := ⟨dmT4 188 rfl rfl, ⟨dmT4 191 rfl rfl, dmT1 1 rfl rfl, ⟨by decide, by decide, by decide +kernel⟩, by decide⟩, ⟨dmT4 189 rfl rfl, dmT4 190 rfl rfl⟩, _, rfl, rfl⟩
theorem lcl_123 : dCV R_law 123 yX12_least cX12_least 3 (some .int) 2 12 := ⟨dmT8 26 rfl rfl, ⟨dmT8 29 rfl rfl, dmT1 13 rfl rfl, ⟨by decide, by decide, by decide +kernel⟩, by decide⟩, ⟨dmT8 27 rfl rfl, dmT8 28 rfl rfl⟩, _, rfl, rfl⟩
set_option maxRecDepth 20000 in
theorem lc_least {r : Int32} {hC2 hM2 : dH} (hL : L ≤ 3072) (hi : iN + 6 ≤ L) (e1 : aC_least (xs (iN + 1)) (xs (iN + 2)) hC = some (r, hC2)) (e2 : aM_least (xs (iN + 1)) (xs (iN + 2)) hM = some (r, hM2)) (k : LB l b L xs n 1547 (Int32.ofNat iN) [] hC2 hM2) : LB l b L xs n 937 (Int32.ofNat iN) [] hC hM := by
  refine L_aload1 dL_law_937 ?_
  refine L_arg 1 dL_law_938 dL_law_939 dL_law_941 dL_law_942 dL_law_943 la_1 hL (by omega) ?_
  refine L_arg 2 dL_law_944 dL_law_945 dL_law_947 dL_law_948 dL_law_949 la_2 hL (by omega) ?_
  refine L_callC (st := []) (as := [.int (xs (iN + 1)), .int (xs (iN + 2))]) dL_law_950 lcl_120 (taC_least (xs (iN + 1)) (xs (iN + 2)) hC) e1 (Nat.le_of_ble_eq_true rfl) rfl rfl rfl (Nat.le_of_ble_eq_true rfl) rfl ?_
  refine L_aload2 dL_law_953 ?_
  refine L_arg 1 dL_law_954 dL_law_955 dL_law_957 dL_law_958 dL_law_959 la_1 hL (by omega) ?_
  refine L_arg 2 dL_law_960 dL_law_961 dL_law_963 dL_law_964 dL_law_965 la_2 hL (by omega) ?_
  refine L_callM (st := [.int r]) (as := [.int (xs (iN + 1)), .int (xs (iN + 2))]) dL_law_966 lcl_123 (taM_least (xs (iN + 1)) (xs (iN + 2)) hM) e2 (Nat.le_of_ble_eq_true rfl) rfl rfl rfl (Nat.le_of_ble_eq_true rfl) rfl ?_
  exact L_icmp_eq (tgt := 1547) dL_law_969 (by decide) (fun _ => k) (fun q => absurd rfl q)
theorem lcl_124 : dCV R_law 124 yX11_manners cX11_manners 4 (some .int) 1 11 := ⟨dmT4 204 rfl rfl, ⟨dmT4 207 rfl rfl, dmT1 1 rfl rfl, ⟨by decide, by decide, by decide +kernel⟩, by decide⟩, ⟨dmT4 205 rfl rfl, dmT4 206 rfl rfl⟩, _, rfl, rfl⟩
theorem lcl_127 : dCV R_law 127 yX12_manners cX12_manners 5 (some .int) 1 12 := ⟨dmT8 38 rfl rfl, ⟨dmT8 41 rfl rfl, dmT1 13 rfl rfl, ⟨by decide, by decide, by decide +kernel⟩, by decide⟩, ⟨dmT8 39 rfl rfl, dmT8 40 rfl rfl⟩, _, rfl, rfl⟩
set_option maxRecDepth 20000 in
theorem lc_manners {r : Int32} {hC2 hM2 : dH} (hL : L ≤ 3072) (hi : iN + 6 ≤ L) (e1 : aC_manners (xs (iN + 1)) hC = some (r, hC2)) (e2 : aM_manners (xs (iN + 1)) hM = some (r, hM2)) (k : LB l b L xs n 1547 (Int32.ofNat iN) [] hC2 hM2) : LB l b L xs n 974 (Int32.ofNat iN) [] hC hM := by
  refine L_aload1 dL_law_974 ?_
  refine L_arg 1 dL_law_975 dL_law_976 dL_law_978 dL_law_979 dL_law_980 la_1 hL (by omega) ?_
  refine L_callC (st := []) (as := [.int (xs (iN + 1))]) dL_law_981 lcl_124 (taC_manners (xs (iN + 1)) hC) e1 (Nat.le_of_ble_eq_true rfl) rfl rfl rfl (Nat.le_of_ble_eq_true rfl) rfl ?_
  refine L_aload2 dL_law_984 ?_
  refine L_arg 1 dL_law_985 dL_law_986 dL_law_988 dL_law_989 dL_law_990 la_1 hL (by omega) ?_
  refine L_callM (st := [.int r]) (as := [.int (xs (iN + 1))]) dL_law_991 lcl_127 (taM_manners (xs (iN + 1)) hM) e2 (Nat.le_of_ble_eq_true rfl) rfl rfl rfl (Nat.le_of_ble_eq_true rfl) rfl ?_
  exact L_icmp_eq (tgt := 1547) dL_law_994 (by decide) (fun _ => k) (fun q => absurd rfl q)
theorem lcl_128 : dCV R_law 128 yX11_noted cX11_noted 4 (some .int) 3 11 := ⟨dmT4 213 rfl rfl, ⟨dmT4 216 rfl rfl, dmT1 1 rfl rfl, ⟨by decide, by decide, by decide +kernel⟩, by decide⟩, ⟨dmT4 214 rfl rfl, dmT4 215 rfl rfl⟩, _, rfl, rfl⟩
theorem lcl_132 : dCV R_law 132 yX12_noted cX12_noted 4 (some .int) 3 12 := ⟨dmT8 42 rfl rfl, ⟨dmT8 45 rfl rfl, dmT1 13 rfl rfl, ⟨by decide, by decide, by decide +kernel⟩, by decide⟩, ⟨dmT8 43 rfl rfl, dmT8 44 rfl rfl⟩, _, rfl, rfl⟩
set_option maxRecDepth 20000 in
theorem lc_noted_t {r : Int32} {hC2 hM2 : dH} (hL : L ≤ 3072) (hi : iN + 6 ≤ L) (hz : ¬ xs (iN + 3) = 0) (e1 : aC_noted (xs (iN + 1)) (xs (iN + 2)) true hC = some (r, hC2)) (e2 : aM_noted (xs (iN + 1)) (xs (iN + 2)) true hM = some (r, hM2)) (k : LB l b L xs n 1547 (Int32.ofNat iN) [] hC2 hM2) : LB l b L xs n 999 (Int32.ofNat iN) [] hC hM := by
  refine L_aload1 dL_law_999 ?_
  refine L_arg 1 dL_law_1000 dL_law_1001 dL_law_1003 dL_law_1004 dL_law_1005 la_1 hL (by omega) ?_
  refine L_arg 2 dL_law_1006 dL_law_1007 dL_law_1009 dL_law_1010 dL_law_1011 la_2 hL (by omega) ?_
  refine L_arg 3 dL_law_1012 dL_law_1013 dL_law_1015 dL_law_1016 dL_law_1017 la_3 hL (by omega) ?_
  refine L_if_eq (tgt := 1025) dL_law_1018 (by decide) (fun q => absurd q hz) (fun _ => ?_)
  refine L_iconst dL_law_1021 ic_1 ?_
  refine L_goto (tgt := 1026) dL_law_1022 (by decide) ?_
  refine L_callC (st := []) (as := [.int (xs (iN + 1)), .int (xs (iN + 2)), .int (bi true)]) dL_law_1026 lcl_128 (taC_noted (xs (iN + 1)) (xs (iN + 2)) true hC) e1 (Nat.le_of_ble_eq_true rfl) rfl rfl rfl (Nat.le_of_ble_eq_true rfl) rfl ?_
  refine L_aload2 dL_law_1029 ?_
  refine L_arg 1 dL_law_1030 dL_law_1031 dL_law_1033 dL_law_1034 dL_law_1035 la_1 hL (by omega) ?_
  refine L_arg 2 dL_law_1036 dL_law_1037 dL_law_1039 dL_law_1040 dL_law_1041 la_2 hL (by omega) ?_
  refine L_arg 3 dL_law_1042 dL_law_1043 dL_law_1045 dL_law_1046 dL_law_1047 la_3 hL (by omega) ?_
  refine L_if_eq (tgt := 1055) dL_law_1048 (by decide) (fun q => absurd q hz) (fun _ => ?_)
  refine L_iconst dL_law_1051 ic_1 ?_
  refine L_goto (tgt := 1056) dL_law_1052 (by decide) ?_
  refine L_callM (st := [.int r]) (as := [.int (xs (iN + 1)), .int (xs (iN + 2)), .int (bi true)]) dL_law_1056 lcl_132 (taM_noted (xs (iN + 1)) (xs (iN + 2)) true hM) e2 (Nat.le_of_ble_eq_true rfl) rfl rfl rfl (Nat.le_of_ble_eq_true rfl) rfl ?_
  exact L_icmp_eq (tgt := 1547) dL_law_1059 (by decide) (fun _ => k) (fun q => absurd rfl q)
set_option maxRecDepth 20000 in
theorem lc_noted_f {r : Int32} {hC2 hM2 : dH} (hL : L ≤ 3072) (hi : iN + 6 ≤ L) (hz : xs (iN + 3) = 0) (e1 : aC_noted (xs (iN + 1)) (xs (iN + 2)) false hC = some (r, hC2)) (e2 : aM_noted (xs (iN + 1)) (xs (iN + 2)) false hM = some (r, hM2)) (k : LB l b L xs n 1547 (Int32.ofNat iN) [] hC2 hM2) : LB l b L xs n 999 (Int32.ofNat iN) [] hC hM := by
  refine L_aload1 dL_law_999 ?_
  refine L_arg 1 dL_law_1000 dL_law_1001 dL_law_1003 dL_law_1004 dL_law_1005 la_1 hL (by omega) ?_
  refine L_arg 2 dL_law_1006 dL_law_1007 dL_law_1009 dL_law_1010 dL_law_1011 la_2 hL (by omega) ?_
  refine L_arg 3 dL_law_1012 dL_law_1013 dL_law_1015 dL_law_1016 dL_law_1017 la_3 hL (by omega) ?_
  refine L_if_eq (tgt := 1025) dL_law_1018 (by decide) (fun _ => ?_) (fun q => absurd hz q)
  refine L_iconst dL_law_1025 ic_0 ?_
  refine L_callC (st := []) (as := [.int (xs (iN + 1)), .int (xs (iN + 2)), .int (bi false)]) dL_law_1026 lcl_128 (taC_noted (xs (iN + 1)) (xs (iN + 2)) false hC) e1 (Nat.le_of_ble_eq_true rfl) rfl rfl rfl (Nat.le_of_ble_eq_true rfl) rfl ?_
  refine L_aload2 dL_law_1029 ?_
  refine L_arg 1 dL_law_1030 dL_law_1031 dL_law_1033 dL_law_1034 dL_law_1035 la_1 hL (by omega) ?_
  refine L_arg 2 dL_law_1036 dL_law_1037 dL_law_1039 dL_law_1040 dL_law_1041 la_2 hL (by omega) ?_
  refine L_arg 3 dL_law_1042 dL_law_1043 dL_law_1045 dL_law_1046 dL_law_1047 la_3 hL (by omega) ?_
  refine L_if_eq (tgt := 1055) dL_law_1048 (by decide) (fun _ => ?_) (fun q => absurd hz q)
  refine L_iconst dL_law_1055 ic_0 ?_
  refine L_callM (st := [.int r]) (as := [.int (xs (iN + 1)), .int (xs (iN + 2)), .int (bi false)]) dL_law_1056 lcl_132 (taM_noted (xs (iN + 1)) (xs (iN + 2)) false hM) e2 (Nat.le_of_ble_eq_true rfl) rfl rfl rfl (Nat.le_of_ble_eq_true rfl) rfl ?_
  exact L_icmp_eq (tgt := 1547) dL_law_1059 (by decide) (fun _ => k) (fun q => absurd rfl q)
theorem lcl_133 : dCV R_law 133 yX11_ways cX11_ways 3 (some .int) 2 11 := ⟨dmT4 221 rfl rfl, ⟨dmT4 224 rfl rfl, dmT1 1 rfl rfl, ⟨by decide, by decide, by decide +kernel⟩, by decide⟩, ⟨dmT4 222 rfl rfl, dmT4 223 rfl rfl⟩, _, rfl, rfl⟩
theorem lcl_136 : dCV R_law 136 yX12_ways cX12_ways 3 (some .int) 2 12 := ⟨dmT8 46 rfl rfl, ⟨dmT8 49 rfl rfl, dmT1 13 rfl rfl, ⟨by decide, by decide, by decide +kernel⟩, by decide⟩, ⟨dmT8 47 rfl rfl, dmT8 48 rfl rfl⟩, _, rfl, rfl⟩
set_option maxRecDepth 20000 in
theorem lc_ways {r : Int32} {hC2 hM2 : dH} (hL : L ≤ 3072) (hi : iN + 6 ≤ L) (e1 : aC_ways (xs (iN + 1)) (xs (iN + 2)) hC = some (r, hC2)) (e2 : aM_ways (xs (iN + 1)) (xs (iN + 2)) hM = some (r, hM2)) (k : LB l b L xs n 1547 (Int32.ofNat iN) [] hC2 hM2) : LB l b L xs n 1064 (Int32.ofNat iN) [] hC hM := by
  refine L_aload1 dL_law_1064 ?_
  refine L_arg 1 dL_law_1065 dL_law_1066 dL_law_1068 dL_law_1069 dL_law_1070 la_1 hL (by omega) ?_
  refine L_arg 2 dL_law_1071 dL_law_1072 dL_law_1074 dL_law_1075 dL_law_1076 la_2 hL (by omega) ?_
  refine L_callC (st := []) (as := [.int (xs (iN + 1)), .int (xs (iN + 2))]) dL_law_1077 lcl_133 (taC_ways (xs (iN + 1)) (xs (iN + 2)) hC) e1 (Nat.le_of_ble_eq_true rfl) rfl rfl rfl (Nat.le_of_ble_eq_true rfl) rfl ?_
  refine L_aload2 dL_law_1080 ?_
  refine L_arg 1 dL_law_1081 dL_law_1082 dL_law_1084 dL_law_1085 dL_law_1086 la_1 hL (by omega) ?_
  refine L_arg 2 dL_law_1087 dL_law_1088 dL_law_1090 dL_law_1091 dL_law_1092 la_2 hL (by omega) ?_
  refine L_callM (st := [.int r]) (as := [.int (xs (iN + 1)), .int (xs (iN + 2))]) dL_law_1093 lcl_136 (taM_ways (xs (iN + 1)) (xs (iN + 2)) hM) e2 (Nat.le_of_ble_eq_true rfl) rfl rfl rfl (Nat.le_of_ble_eq_true rfl) rfl ?_
  exact L_icmp_eq (tgt := 1547) dL_law_1096 (by decide) (fun _ => k) (fun q => absurd rfl q)
theorem lcl_137 : dCV R_law 137 yX11_ask cX11_ask 3 (some .int) 2 11 := ⟨dmT5 12 rfl rfl, ⟨dmT5 15 rfl rfl, dmT1 1 rfl rfl, ⟨by decide, by decide, by decide +kernel⟩, by decide⟩, ⟨dmT5 13 rfl rfl, dmT5 14 rfl rfl⟩, _, rfl, rfl⟩
theorem lcl_140 : dCV R_law 140 yX12_ask cX12_ask 5 (some .int) 2 12 := ⟨dmT8 62 rfl rfl, ⟨dmT8 65 rfl rfl, dmT1 13 rfl rfl, ⟨by decide, by decide, by decide +kernel⟩, by decide⟩, ⟨dmT8 63 rfl rfl, dmT8 64 rfl rfl⟩, _, rfl, rfl⟩
set_option maxRecDepth 20000 in
theorem lc_ask {r : Int32} {hC2 hM2 : dH} (hL : L ≤ 3072) (hi : iN + 6 ≤ L) (e1 : aC_ask (xs (iN + 1)) (xs (iN + 2)) hC = some (r, hC2)) (e2 : aM_ask (xs (iN + 1)) (xs (iN + 2)) hM = some (r, hM2)) (k : LB l b L xs n 1547 (Int32.ofNat iN) [] hC2 hM2) : LB l b L xs n 1101 (Int32.ofNat iN) [] hC hM := by
  refine L_aload1 dL_law_1101 ?_
  refine L_arg 1 dL_law_1102 dL_law_1103 dL_law_1105 dL_law_1106 dL_law_1107 la_1 hL (by omega) ?_
  refine L_arg 2 dL_law_1108 dL_law_1109 dL_law_1111 dL_law_1112 dL_law_1113 la_2 hL (by omega) ?_
  refine L_callC (st := []) (as := [.int (xs (iN + 1)), .int (xs (iN + 2))]) dL_law_1114 lcl_137 (taC_ask (xs (iN + 1)) (xs (iN + 2)) hC) e1 (Nat.le_of_ble_eq_true rfl) rfl rfl rfl (Nat.le_of_ble_eq_true rfl) rfl ?_
  refine L_aload2 dL_law_1117 ?_
  refine L_arg 1 dL_law_1118 dL_law_1119 dL_law_1121 dL_law_1122 dL_law_1123 la_1 hL (by omega) ?_
  refine L_arg 2 dL_law_1124 dL_law_1125 dL_law_1127 dL_law_1128 dL_law_1129 la_2 hL (by omega) ?_
  refine L_callM (st := [.int r]) (as := [.int (xs (iN + 1)), .int (xs (iN + 2))]) dL_law_1130 lcl_140 (taM_ask (xs (iN + 1)) (xs (iN + 2)) hM) e2 (Nat.le_of_ble_eq_true rfl) rfl rfl rfl (Nat.le_of_ble_eq_true rfl) rfl ?_
  exact L_icmp_eq (tgt := 1547) dL_law_1133 (by decide) (fun _ => k) (fun q => absurd rfl q)
theorem lcl_141 : dCV R_law 141 yX11_always cX11_always 2 (some .int) 1 11 := ⟨dmT5 21 rfl rfl, ⟨dmT5 24 rfl rfl, dmT1 1 rfl rfl, ⟨by decide, by decide, by decide +kernel⟩, by decide⟩, ⟨dmT5 22 rfl rfl, dmT5 23 rfl rfl⟩, _, rfl, rfl⟩
theorem lcl_144 : dCV R_law 144 yX12_always cX12_always 2 (some .int) 1 12 := ⟨dmT8 66 rfl rfl, ⟨dmT8 69 rfl rfl, dmT1 13 rfl rfl, ⟨by decide, by decide, by decide +kernel⟩, by decide⟩, ⟨dmT8 67 rfl rfl, dmT8 68 rfl rfl⟩, _, rfl, rfl⟩
set_option maxRecDepth 20000 in
theorem lc_always {r : Int32} {hC2 hM2 : dH} (hL : L ≤ 3072) (hi : iN + 6 ≤ L) (e1 : aC_always (xs (iN + 1)) hC = some (r, hC2)) (e2 : aM_always (xs (iN + 1)) hM = some (r, hM2)) (k : LB l b L xs n 1547 (Int32.ofNat iN) [] hC2 hM2) : LB l b L xs n 1138 (Int32.ofNat iN) [] hC hM := by
  refine L_aload1 dL_law_1138 ?_
  refine L_arg 1 dL_law_1139 dL_law_1140 dL_law_1142 dL_law_1143 dL_law_1144 la_1 hL (by omega) ?_
  refine L_callC (st := []) (as := [.int (xs (iN + 1))]) dL_law_1145 lcl_141 (taC_always (xs (iN + 1)) hC) e1 (Nat.le_of_ble_eq_true rfl) rfl rfl rfl (Nat.le_of_ble_eq_true rfl) rfl ?_
  refine L_aload2 dL_law_1148 ?_
  refine L_arg 1 dL_law_1149 dL_law_1150 dL_law_1152 dL_law_1153 dL_law_1154 la_1 hL (by omega) ?_
  refine L_callM (st := [.int r]) (as := [.int (xs (iN + 1))]) dL_law_1155 lcl_144 (taM_always (xs (iN + 1)) hM) e2 (Nat.le_of_ble_eq_true rfl) rfl rfl rfl (Nat.le_of_ble_eq_true rfl) rfl ?_
  exact L_icmp_eq (tgt := 1547) dL_law_1158 (by decide) (fun _ => k) (fun q => absurd rfl q)
theorem lcl_145 : dCV R_law 145 yX11_round cX11_round 2 (some .int) 1 11 := ⟨dmT5 25 rfl rfl, ⟨dmT5 28 rfl rfl, dmT1 1 rfl rfl, ⟨by decide, by decide, by decide +kernel⟩, by decide⟩, ⟨dmT5 26 rfl rfl, dmT5 27 rfl rfl⟩, _, rfl, rfl⟩
theorem lcl_148 : dCV R_law 148 yX12_round cX12_round 2 (some .int) 1 12 := ⟨dmT8 70 rfl rfl, ⟨dmT8 73 rfl rfl, dmT1 13 rfl rfl, ⟨by decide, by decide, by decide +kernel⟩, by decide⟩, ⟨dmT8 71 rfl rfl, dmT8 72 rfl rfl⟩, _, rfl, rfl⟩
set_option maxRecDepth 20000 in
theorem lc_round {r : Int32} {hC2 hM2 : dH} (hL : L ≤ 3072) (hi : iN + 6 ≤ L) (e1 : aC_round (xs (iN + 1)) hC = some (r, hC2)) (e2 : aM_round (xs (iN + 1)) hM = some (r, hM2)) (k : LB l b L xs n 1547 (Int32.ofNat iN) [] hC2 hM2) : LB l b L xs n 1163 (Int32.ofNat iN) [] hC hM := by
  refine L_aload1 dL_law_1163 ?_
  refine L_arg 1 dL_law_1164 dL_law_1165 dL_law_1167 dL_law_1168 dL_law_1169 la_1 hL (by omega) ?_
  refine L_callC (st := []) (as := [.int (xs (iN + 1))]) dL_law_1170 lcl_145 (taC_round (xs (iN + 1)) hC) e1 (Nat.le_of_ble_eq_true rfl) rfl rfl rfl (Nat.le_of_ble_eq_true rfl) rfl ?_
  refine L_aload2 dL_law_1173 ?_
  refine L_arg 1 dL_law_1174 dL_law_1175 dL_law_1177 dL_law_1178 dL_law_1179 la_1 hL (by omega) ?_
  refine L_callM (st := [.int r]) (as := [.int (xs (iN + 1))]) dL_law_1180 lcl_148 (taM_round (xs (iN + 1)) hM) e2 (Nat.le_of_ble_eq_true rfl) rfl rfl rfl (Nat.le_of_ble_eq_true rfl) rfl ?_
  exact L_icmp_eq (tgt := 1547) dL_law_1183 (by decide) (fun _ => k) (fun q => absurd rfl q)
theorem lcl_149 : dCV R_law 149 yX11_meets cX11_meets 3 (some .int) 2 11 := ⟨dmT5 33 rfl rfl, ⟨dmT5 36 rfl rfl, dmT1 1 rfl rfl, ⟨by decide, by decide, by decide +kernel⟩, by decide⟩, ⟨dmT5 34 rfl rfl, dmT5 35 rfl rfl⟩, _, rfl, rfl⟩
theorem lcl_152 : dCV R_law 152 yX12_meets cX12_meets 7 (some .int) 2 12 := ⟨dmT8 78 rfl rfl, ⟨dmT8 81 rfl rfl, dmT1 13 rfl rfl, ⟨by decide, by decide, by decide +kernel⟩, by decide⟩, ⟨dmT8 79 rfl rfl, dmT8 80 rfl rfl⟩, _, rfl, rfl⟩
set_option maxRecDepth 20000 in
theorem lc_meets {r : Int32} {hC2 hM2 : dH} (hL : L ≤ 3072) (hi : iN + 6 ≤ L) (e1 : aC_meets (xs (iN + 1)) (xs (iN + 2)) hC = some (r, hC2)) (e2 : aM_meets (xs (iN + 1)) (xs (iN + 2)) hM = some (r, hM2)) (k : LB l b L xs n 1547 (Int32.ofNat iN) [] hC2 hM2) : LB l b L xs n 1188 (Int32.ofNat iN) [] hC hM := by
  refine L_aload1 dL_law_1188 ?_
  refine L_arg 1 dL_law_1189 dL_law_1190 dL_law_1192 dL_law_1193 dL_law_1194 la_1 hL (by omega) ?_
  refine L_arg 2 dL_law_1195 dL_law_1196 dL_law_1198 dL_law_1199 dL_law_1200 la_2 hL (by omega) ?_
  refine L_callC (st := []) (as := [.int (xs (iN + 1)), .int (xs (iN + 2))]) dL_law_1201 lcl_149 (taC_meets (xs (iN + 1)) (xs (iN + 2)) hC) e1 (Nat.le_of_ble_eq_true rfl) rfl rfl rfl (Nat.le_of_ble_eq_true rfl) rfl ?_
  refine L_aload2 dL_law_1204 ?_
  refine L_arg 1 dL_law_1205 dL_law_1206 dL_law_1208 dL_law_1209 dL_law_1210 la_1 hL (by omega) ?_
  refine L_arg 2 dL_law_1211 dL_law_1212 dL_law_1214 dL_law_1215 dL_law_1216 la_2 hL (by omega) ?_
  refine L_callM (st := [.int r]) (as := [.int (xs (iN + 1)), .int (xs (iN + 2))]) dL_law_1217 lcl_152 (taM_meets (xs (iN + 1)) (xs (iN + 2)) hM) e2 (Nat.le_of_ble_eq_true rfl) rfl rfl rfl (Nat.le_of_ble_eq_true rfl) rfl ?_
  exact L_icmp_eq (tgt := 1547) dL_law_1220 (by decide) (fun _ => k) (fun q => absurd rfl q)
theorem lcl_153 : dCV R_law 153 yX11_game cX11_game 6 (some .int) 5 11 := ⟨dmT5 67 rfl rfl, ⟨dmT5 70 rfl rfl, dmT1 1 rfl rfl, ⟨by decide, by decide, by decide +kernel⟩, by decide⟩, ⟨dmT5 68 rfl rfl, dmT5 69 rfl rfl⟩, _, rfl, rfl⟩
theorem lcl_156 : dCV R_law 156 yX12_game cX12_game 6 (some .int) 5 12 := ⟨dmT8 87 rfl rfl, ⟨dmT8 90 rfl rfl, dmT1 13 rfl rfl, ⟨by decide, by decide, by decide +kernel⟩, by decide⟩, ⟨dmT8 88 rfl rfl, dmT8 89 rfl rfl⟩, _, rfl, rfl⟩
set_option maxRecDepth 20000 in
theorem lc_game {r : Int32} {hC2 hM2 : dH} (hL : L ≤ 3072) (hi : iN + 6 ≤ L) (e1 : aC_game (xs (iN + 1)) (xs (iN + 2)) (xs (iN + 3)) (xs (iN + 4)) (xs (iN + 5)) hC = some (r, hC2)) (e2 : aM_game (xs (iN + 1)) (xs (iN + 2)) (xs (iN + 3)) (xs (iN + 4)) (xs (iN + 5)) hM = some (r, hM2)) (k : LB l b L xs n 1547 (Int32.ofNat iN) [] hC2 hM2) : LB l b L xs n 1225 (Int32.ofNat iN) [] hC hM := by
  refine L_aload1 dL_law_1225 ?_
  refine L_arg 1 dL_law_1226 dL_law_1227 dL_law_1229 dL_law_1230 dL_law_1231 la_1 hL (by omega) ?_
  refine L_arg 2 dL_law_1232 dL_law_1233 dL_law_1235 dL_law_1236 dL_law_1237 la_2 hL (by omega) ?_
  refine L_arg 3 dL_law_1238 dL_law_1239 dL_law_1241 dL_law_1242 dL_law_1243 la_3 hL (by omega) ?_
  refine L_arg 4 dL_law_1244 dL_law_1245 dL_law_1247 dL_law_1248 dL_law_1249 la_4 hL (by omega) ?_
  refine L_arg 5 dL_law_1250 dL_law_1251 dL_law_1253 dL_law_1254 dL_law_1255 la_5 hL (by omega) ?_
  refine L_callC (st := []) (as := [.int (xs (iN + 1)), .int (xs (iN + 2)), .int (xs (iN + 3)), .int (xs (iN + 4)), .int (xs (iN + 5))]) dL_law_1256 lcl_153 (taC_game (xs (iN + 1)) (xs (iN + 2)) (xs (iN + 3)) (xs (iN + 4)) (xs (iN + 5)) hC) e1 (Nat.le_of_ble_eq_true rfl) rfl rfl rfl (Nat.le_of_ble_eq_true rfl) rfl ?_
  refine L_aload2 dL_law_1259 ?_
  refine L_arg 1 dL_law_1260 dL_law_1261 dL_law_1263 dL_law_1264 dL_law_1265 la_1 hL (by omega) ?_
  refine L_arg 2 dL_law_1266 dL_law_1267 dL_law_1269 dL_law_1270 dL_law_1271 la_2 hL (by omega) ?_
  refine L_arg 3 dL_law_1272 dL_law_1273 dL_law_1275 dL_law_1276 dL_law_1277 la_3 hL (by omega) ?_
  refine L_arg 4 dL_law_1278 dL_law_1279 dL_law_1281 dL_law_1282 dL_law_1283 la_4 hL (by omega) ?_
  refine L_arg 5 dL_law_1284 dL_law_1285 dL_law_1287 dL_law_1288 dL_law_1289 la_5 hL (by omega) ?_
  refine L_callM (st := [.int r]) (as := [.int (xs (iN + 1)), .int (xs (iN + 2)), .int (xs (iN + 3)), .int (xs (iN + 4)), .int (xs (iN + 5))]) dL_law_1290 lcl_156 (taM_game (xs (iN + 1)) (xs (iN + 2)) (xs (iN + 3)) (xs (iN + 4)) (xs (iN + 5)) hM) e2 (Nat.le_of_ble_eq_true rfl) rfl rfl rfl (Nat.le_of_ble_eq_true rfl) rfl ?_
  exact L_icmp_eq (tgt := 1547) dL_law_1293 (by decide) (fun _ => k) (fun q => absurd rfl q)
theorem lcl_157 : dCV R_law 157 yX11_rests cX11_rests 7 (some .int) 3 11 := ⟨dmT5 87 rfl rfl, ⟨dmT5 90 rfl rfl, dmT1 1 rfl rfl, ⟨by decide, by decide, by decide +kernel⟩, by decide⟩, ⟨dmT5 88 rfl rfl, dmT5 89 rfl rfl⟩, _, rfl, rfl⟩
theorem lcl_160 : dCV R_law 160 yX12_rests cX12_rests 9 (some .int) 3 12 := ⟨dmT8 104 rfl rfl, ⟨dmT8 107 rfl rfl, dmT1 13 rfl rfl, ⟨by decide, by decide, by decide +kernel⟩, by decide⟩, ⟨dmT8 105 rfl rfl, dmT8 106 rfl rfl⟩, _, rfl, rfl⟩
set_option maxRecDepth 20000 in
theorem lc_rests {r : Int32} {hC2 hM2 : dH} (hL : L ≤ 3072) (hi : iN + 6 ≤ L) (e1 : aC_rests (xs (iN + 1)) (xs (iN + 2)) (xs (iN + 3)) hC = some (r, hC2)) (e2 : aM_rests (xs (iN + 1)) (xs (iN + 2)) (xs (iN + 3)) hM = some (r, hM2)) (k : LB l b L xs n 1547 (Int32.ofNat iN) [] hC2 hM2) : LB l b L xs n 1298 (Int32.ofNat iN) [] hC hM := by
  refine L_aload1 dL_law_1298 ?_
  refine L_arg 1 dL_law_1299 dL_law_1300 dL_law_1302 dL_law_1303 dL_law_1304 la_1 hL (by omega) ?_
  refine L_arg 2 dL_law_1305 dL_law_1306 dL_law_1308 dL_law_1309 dL_law_1310 la_2 hL (by omega) ?_
  refine L_arg 3 dL_law_1311 dL_law_1312 dL_law_1314 dL_law_1315 dL_law_1316 la_3 hL (by omega) ?_
  refine L_callC (st := []) (as := [.int (xs (iN + 1)), .int (xs (iN + 2)), .int (xs (iN + 3))]) dL_law_1317 lcl_157 (taC_rests (xs (iN + 1)) (xs (iN + 2)) (xs (iN + 3)) hC) e1 (Nat.le_of_ble_eq_true rfl) rfl rfl rfl (Nat.le_of_ble_eq_true rfl) rfl ?_
  refine L_aload2 dL_law_1320 ?_
  refine L_arg 1 dL_law_1321 dL_law_1322 dL_law_1324 dL_law_1325 dL_law_1326 la_1 hL (by omega) ?_
  refine L_arg 2 dL_law_1327 dL_law_1328 dL_law_1330 dL_law_1331 dL_law_1332 la_2 hL (by omega) ?_
  refine L_arg 3 dL_law_1333 dL_law_1334 dL_law_1336 dL_law_1337 dL_law_1338 la_3 hL (by omega) ?_
  refine L_callM (st := [.int r]) (as := [.int (xs (iN + 1)), .int (xs (iN + 2)), .int (xs (iN + 3))]) dL_law_1339 lcl_160 (taM_rests (xs (iN + 1)) (xs (iN + 2)) (xs (iN + 3)) hM) e2 (Nat.le_of_ble_eq_true rfl) rfl rfl rfl (Nat.le_of_ble_eq_true rfl) rfl ?_
  exact L_icmp_eq (tgt := 1547) dL_law_1342 (by decide) (fun _ => k) (fun q => absurd rfl q)
theorem lcl_161 : dCV R_law 161 yX11_odds cX11_odds 4 (some .int) 3 11 := ⟨dmT5 53 rfl rfl, ⟨dmT5 56 rfl rfl, dmT1 1 rfl rfl, ⟨by decide, by decide, by decide +kernel⟩, by decide⟩, ⟨dmT5 54 rfl rfl, dmT5 55 rfl rfl⟩, _, rfl, rfl⟩
theorem lcl_164 : dCV R_law 164 yX12_odds cX12_odds 4 (some .int) 3 12 := ⟨dmT8 108 rfl rfl, ⟨dmT8 111 rfl rfl, dmT1 13 rfl rfl, ⟨by decide, by decide, by decide +kernel⟩, by decide⟩, ⟨dmT8 109 rfl rfl, dmT8 110 rfl rfl⟩, _, rfl, rfl⟩
set_option maxRecDepth 20000 in
theorem lc_odds {r : Int32} {hC2 hM2 : dH} (hL : L ≤ 3072) (hi : iN + 6 ≤ L) (e1 : aC_odds (xs (iN + 1)) (xs (iN + 2)) (xs (iN + 3)) hC = some (r, hC2)) (e2 : aM_odds (xs (iN + 1)) (xs (iN + 2)) (xs (iN + 3)) hM = some (r, hM2)) (k : LB l b L xs n 1547 (Int32.ofNat iN) [] hC2 hM2) : LB l b L xs n 1347 (Int32.ofNat iN) [] hC hM := by
  refine L_aload1 dL_law_1347 ?_
  refine L_arg 1 dL_law_1348 dL_law_1349 dL_law_1351 dL_law_1352 dL_law_1353 la_1 hL (by omega) ?_
  refine L_arg 2 dL_law_1354 dL_law_1355 dL_law_1357 dL_law_1358 dL_law_1359 la_2 hL (by omega) ?_
  refine L_arg 3 dL_law_1360 dL_law_1361 dL_law_1363 dL_law_1364 dL_law_1365 la_3 hL (by omega) ?_
  refine L_callC (st := []) (as := [.int (xs (iN + 1)), .int (xs (iN + 2)), .int (xs (iN + 3))]) dL_law_1366 lcl_161 (taC_odds (xs (iN + 1)) (xs (iN + 2)) (xs (iN + 3)) hC) e1 (Nat.le_of_ble_eq_true rfl) rfl rfl rfl (Nat.le_of_ble_eq_true rfl) rfl ?_
  refine L_aload2 dL_law_1369 ?_
  refine L_arg 1 dL_law_1370 dL_law_1371 dL_law_1373 dL_law_1374 dL_law_1375 la_1 hL (by omega) ?_
  refine L_arg 2 dL_law_1376 dL_law_1377 dL_law_1379 dL_law_1380 dL_law_1381 la_2 hL (by omega) ?_
  refine L_arg 3 dL_law_1382 dL_law_1383 dL_law_1385 dL_law_1386 dL_law_1387 la_3 hL (by omega) ?_
  refine L_callM (st := [.int r]) (as := [.int (xs (iN + 1)), .int (xs (iN + 2)), .int (xs (iN + 3))]) dL_law_1388 lcl_164 (taM_odds (xs (iN + 1)) (xs (iN + 2)) (xs (iN + 3)) hM) e2 (Nat.le_of_ble_eq_true rfl) rfl rfl rfl (Nat.le_of_ble_eq_true rfl) rfl ?_
  exact L_icmp_eq (tgt := 1547) dL_law_1391 (by decide) (fun _ => k) (fun q => absurd rfl q)
theorem lcl_165 : dCV R_law 165 yX11_cost cX11_cost 2 (some .int) 1 11 := ⟨dmT5 95 rfl rfl, ⟨dmT5 98 rfl rfl, dmT1 1 rfl rfl, ⟨by decide, by decide, by decide +kernel⟩, by decide⟩, ⟨dmT5 96 rfl rfl, dmT5 97 rfl rfl⟩, _, rfl, rfl⟩
theorem lcl_168 : dCV R_law 168 yX12_cost cX12_cost 2 (some .int) 1 12 := ⟨dmT8 118 rfl rfl, ⟨dmT8 121 rfl rfl, dmT1 13 rfl rfl, ⟨by decide, by decide, by decide +kernel⟩, by decide⟩, ⟨dmT8 119 rfl rfl, dmT8 120 rfl rfl⟩, _, rfl, rfl⟩
set_option maxRecDepth 20000 in
theorem lc_cost {r : Int32} {hC2 hM2 : dH} (hL : L ≤ 3072) (hi : iN + 6 ≤ L) (e1 : aC_cost (xs (iN + 1)) hC = some (r, hC2)) (e2 : aM_cost (xs (iN + 1)) hM = some (r, hM2)) (k : LB l b L xs n 1547 (Int32.ofNat iN) [] hC2 hM2) : LB l b L xs n 1396 (Int32.ofNat iN) [] hC hM := by
  refine L_aload1 dL_law_1396 ?_
  refine L_arg 1 dL_law_1397 dL_law_1398 dL_law_1400 dL_law_1401 dL_law_1402 la_1 hL (by omega) ?_
  refine L_callC (st := []) (as := [.int (xs (iN + 1))]) dL_law_1403 lcl_165 (taC_cost (xs (iN + 1)) hC) e1 (Nat.le_of_ble_eq_true rfl) rfl rfl rfl (Nat.le_of_ble_eq_true rfl) rfl ?_
  refine L_aload2 dL_law_1406 ?_
  refine L_arg 1 dL_law_1407 dL_law_1408 dL_law_1410 dL_law_1411 dL_law_1412 la_1 hL (by omega) ?_
  refine L_callM (st := [.int r]) (as := [.int (xs (iN + 1))]) dL_law_1413 lcl_168 (taM_cost (xs (iN + 1)) hM) e2 (Nat.le_of_ble_eq_true rfl) rfl rfl rfl (Nat.le_of_ble_eq_true rfl) rfl ?_
  exact L_icmp_eq (tgt := 1547) dL_law_1416 (by decide) (fun _ => k) (fun q => absurd rfl q)
theorem lcl_169 : dCV R_law 169 yX11_all cX11_all 2 (some .int) 1 11 := ⟨dmT5 99 rfl rfl, ⟨dmT5 102 rfl rfl, dmT1 1 rfl rfl, ⟨by decide, by decide, by decide +kernel⟩, by decide⟩, ⟨dmT5 100 rfl rfl, dmT5 101 rfl rfl⟩, _, rfl, rfl⟩
theorem lcl_172 : dCV R_law 172 yX12_all cX12_all 2 (some .int) 1 12 := ⟨dmT8 122 rfl rfl, ⟨dmT8 125 rfl rfl, dmT1 13 rfl rfl, ⟨by decide, by decide, by decide +kernel⟩, by decide⟩, ⟨dmT8 123 rfl rfl, dmT8 124 rfl rfl⟩, _, rfl, rfl⟩
set_option maxRecDepth 20000 in
theorem lc_all {r : Int32} {hC2 hM2 : dH} (hL : L ≤ 3072) (hi : iN + 6 ≤ L) (e1 : aC_all (xs (iN + 1)) hC = some (r, hC2)) (e2 : aM_all (xs (iN + 1)) hM = some (r, hM2)) (k : LB l b L xs n 1547 (Int32.ofNat iN) [] hC2 hM2) : LB l b L xs n 1421 (Int32.ofNat iN) [] hC hM := by
  refine L_aload1 dL_law_1421 ?_
  refine L_arg 1 dL_law_1422 dL_law_1423 dL_law_1425 dL_law_1426 dL_law_1427 la_1 hL (by omega) ?_
  refine L_callC (st := []) (as := [.int (xs (iN + 1))]) dL_law_1428 lcl_169 (taC_all (xs (iN + 1)) hC) e1 (Nat.le_of_ble_eq_true rfl) rfl rfl rfl (Nat.le_of_ble_eq_true rfl) rfl ?_
  refine L_aload2 dL_law_1431 ?_
  refine L_arg 1 dL_law_1432 dL_law_1433 dL_law_1435 dL_law_1436 dL_law_1437 la_1 hL (by omega) ?_
  refine L_callM (st := [.int r]) (as := [.int (xs (iN + 1))]) dL_law_1438 lcl_172 (taM_all (xs (iN + 1)) hM) e2 (Nat.le_of_ble_eq_true rfl) rfl rfl rfl (Nat.le_of_ble_eq_true rfl) rfl ?_
  exact L_icmp_eq (tgt := 1547) dL_law_1441 (by decide) (fun _ => k) (fun q => absurd rfl q)
theorem lcl_173 : dCV R_law 173 yX11_kinds cX11_kinds 2 (some .int) 1 11 := ⟨dmT5 128 rfl rfl, ⟨dmT5 131 rfl rfl, dmT1 1 rfl rfl, ⟨by decide, by decide, by decide +kernel⟩, by decide⟩, ⟨dmT5 129 rfl rfl, dmT5 130 rfl rfl⟩, _, rfl, rfl⟩
theorem lcl_176 : dCV R_law 176 yX12_kinds cX12_kinds 4 (some .int) 1 12 := ⟨dmT8 142 rfl rfl, ⟨dmT8 145 rfl rfl, dmT1 13 rfl rfl, ⟨by decide, by decide, by decide +kernel⟩, by decide⟩, ⟨dmT8 143 rfl rfl, dmT8 144 rfl rfl⟩, _, rfl, rfl⟩
set_option maxRecDepth 20000 in
theorem lc_kinds {r : Int32} {hC2 hM2 : dH} (hL : L ≤ 3072) (hi : iN + 6 ≤ L) (e1 : aC_kinds (xs (iN + 1)) hC = some (r, hC2)) (e2 : aM_kinds (xs (iN + 1)) hM = some (r, hM2)) (k : LB l b L xs n 1547 (Int32.ofNat iN) [] hC2 hM2) : LB l b L xs n 1446 (Int32.ofNat iN) [] hC hM := by
  refine L_aload1 dL_law_1446 ?_
  refine L_arg 1 dL_law_1447 dL_law_1448 dL_law_1450 dL_law_1451 dL_law_1452 la_1 hL (by omega) ?_
  refine L_callC (st := []) (as := [.int (xs (iN + 1))]) dL_law_1453 lcl_173 (taC_kinds (xs (iN + 1)) hC) e1 (Nat.le_of_ble_eq_true rfl) rfl rfl rfl (Nat.le_of_ble_eq_true rfl) rfl ?_
  refine L_aload2 dL_law_1456 ?_
  refine L_arg 1 dL_law_1457 dL_law_1458 dL_law_1460 dL_law_1461 dL_law_1462 la_1 hL (by omega) ?_
  refine L_callM (st := [.int r]) (as := [.int (xs (iN + 1))]) dL_law_1463 lcl_176 (taM_kinds (xs (iN + 1)) hM) e2 (Nat.le_of_ble_eq_true rfl) rfl rfl rfl (Nat.le_of_ble_eq_true rfl) rfl ?_
  exact L_icmp_eq (tgt := 1547) dL_law_1466 (by decide) (fun _ => k) (fun q => absurd rfl q)
theorem lcl_177 : dCV R_law 177 yX11_calm cX11_calm 3 (some .int) 1 11 := ⟨dmT5 136 rfl rfl, ⟨dmT5 139 rfl rfl, dmT1 1 rfl rfl, ⟨by decide, by decide, by decide +kernel⟩, by decide⟩, ⟨dmT5 137 rfl rfl, dmT5 138 rfl rfl⟩, _, rfl, rfl⟩
theorem lcl_180 : dCV R_law 180 yX12_calm cX12_calm 3 (some .int) 1 12 := ⟨dmT8 146 rfl rfl, ⟨dmT8 149 rfl rfl, dmT1 13 rfl rfl, ⟨by decide, by decide, by decide +kernel⟩, by decide⟩, ⟨dmT8 147 rfl rfl, dmT8 148 rfl rfl⟩, _, rfl, rfl⟩
set_option maxRecDepth 20000 in
theorem lc_calm {r : Int32} {hC2 hM2 : dH} (hL : L ≤ 3072) (hi : iN + 6 ≤ L) (e1 : aC_calm (xs (iN + 1)) hC = some (r, hC2)) (e2 : aM_calm (xs (iN + 1)) hM = some (r, hM2)) (k : LB l b L xs n 1547 (Int32.ofNat iN) [] hC2 hM2) : LB l b L xs n 1471 (Int32.ofNat iN) [] hC hM := by
  refine L_aload1 dL_law_1471 ?_
  refine L_arg 1 dL_law_1472 dL_law_1473 dL_law_1475 dL_law_1476 dL_law_1477 la_1 hL (by omega) ?_
  refine L_callC (st := []) (as := [.int (xs (iN + 1))]) dL_law_1478 lcl_177 (taC_calm (xs (iN + 1)) hC) e1 (Nat.le_of_ble_eq_true rfl) rfl rfl rfl (Nat.le_of_ble_eq_true rfl) rfl ?_
  refine L_aload2 dL_law_1481 ?_
  refine L_arg 1 dL_law_1482 dL_law_1483 dL_law_1485 dL_law_1486 dL_law_1487 la_1 hL (by omega) ?_
  refine L_callM (st := [.int r]) (as := [.int (xs (iN + 1))]) dL_law_1488 lcl_180 (taM_calm (xs (iN + 1)) hM) e2 (Nat.le_of_ble_eq_true rfl) rfl rfl rfl (Nat.le_of_ble_eq_true rfl) rfl ?_
  exact L_icmp_eq (tgt := 1547) dL_law_1491 (by decide) (fun _ => k) (fun q => absurd rfl q)
theorem lcl_181 : dCV R_law 181 yX11_image cX11_image 1 (some .int) 0 11 := ⟨dmT5 140 rfl rfl, ⟨dmT5 143 rfl rfl, dmT1 1 rfl rfl, ⟨by decide, by decide, by decide +kernel⟩, by decide⟩, ⟨dmT5 141 rfl rfl, dmT5 142 rfl rfl⟩, _, rfl, rfl⟩
theorem lcl_184 : dCV R_law 184 yX12_image cX12_image 2 (some .int) 0 12 := ⟨dmT8 150 rfl rfl, ⟨dmT8 153 rfl rfl, dmT1 13 rfl rfl, ⟨by decide, by decide, by decide +kernel⟩, by decide⟩, ⟨dmT8 151 rfl rfl, dmT8 152 rfl rfl⟩, _, rfl, rfl⟩
set_option maxRecDepth 20000 in
theorem lc_image {r : Int32} {hC2 hM2 : dH} (hL : L ≤ 3072) (hi : iN + 6 ≤ L) (e1 : aC_image hC = some (r, hC2)) (e2 : aM_image hM = some (r, hM2)) (k : LB l b L xs n 1547 (Int32.ofNat iN) [] hC2 hM2) : LB l b L xs n 1496 (Int32.ofNat iN) [] hC hM := by
  refine L_aload1 dL_law_1496 ?_
  refine L_callC (st := []) (as := []) dL_law_1497 lcl_181 (taC_image hC) e1 (Nat.le_of_ble_eq_true rfl) rfl rfl rfl (Nat.le_of_ble_eq_true rfl) rfl ?_
  refine L_aload2 dL_law_1500 ?_
  refine L_callM (st := [.int r]) (as := []) dL_law_1501 lcl_184 (taM_image hM) e2 (Nat.le_of_ble_eq_true rfl) rfl rfl rfl (Nat.le_of_ble_eq_true rfl) rfl ?_
  exact L_icmp_eq (tgt := 1547) dL_law_1504 (by decide) (fun _ => k) (fun q => absurd rfl q)
theorem lcl_185 : dCV R_law 185 yX11_back cX11_back 1 (some .int) 0 11 := ⟨dmT5 150 rfl rfl, ⟨dmT5 153 rfl rfl, dmT1 1 rfl rfl, ⟨by decide, by decide, by decide +kernel⟩, by decide⟩, ⟨dmT5 151 rfl rfl, dmT5 152 rfl rfl⟩, _, rfl, rfl⟩
theorem lcl_188 : dCV R_law 188 yX12_back cX12_back 2 (some .int) 0 12 := ⟨dmT8 154 rfl rfl, ⟨dmT8 157 rfl rfl, dmT1 13 rfl rfl, ⟨by decide, by decide, by decide +kernel⟩, by decide⟩, ⟨dmT8 155 rfl rfl, dmT8 156 rfl rfl⟩, _, rfl, rfl⟩
set_option maxRecDepth 20000 in
theorem lc_back {r : Int32} {hC2 hM2 : dH} (hL : L ≤ 3072) (hi : iN + 6 ≤ L) (e1 : aC_back hC = some (r, hC2)) (e2 : aM_back hM = some (r, hM2)) (k : LB l b L xs n 1547 (Int32.ofNat iN) [] hC2 hM2) : LB l b L xs n 1509 (Int32.ofNat iN) [] hC hM := by
  refine L_aload1 dL_law_1509 ?_
  refine L_callC (st := []) (as := []) dL_law_1510 lcl_185 (taC_back hC) e1 (Nat.le_of_ble_eq_true rfl) rfl rfl rfl (Nat.le_of_ble_eq_true rfl) rfl ?_
  refine L_aload2 dL_law_1513 ?_
  refine L_callM (st := [.int r]) (as := []) dL_law_1514 lcl_188 (taM_back hM) e2 (Nat.le_of_ble_eq_true rfl) rfl rfl rfl (Nat.le_of_ble_eq_true rfl) rfl ?_
  exact L_icmp_eq (tgt := 1547) dL_law_1517 (by decide) (fun _ => k) (fun q => absurd rfl q)
theorem lcl_189 : dCV R_law 189 yX11_count cX11_count 2 (some .int) 1 11 := ⟨dmT5 154 rfl rfl, ⟨dmT5 157 rfl rfl, dmT1 1 rfl rfl, ⟨by decide, by decide, by decide +kernel⟩, by decide⟩, ⟨dmT5 155 rfl rfl, dmT5 156 rfl rfl⟩, _, rfl, rfl⟩
theorem lcl_192 : dCV R_law 192 yX12_count cX12_count 2 (some .int) 1 12 := ⟨dmT8 158 rfl rfl, ⟨dmT8 161 rfl rfl, dmT1 13 rfl rfl, ⟨by decide, by decide, by decide +kernel⟩, by decide⟩, ⟨dmT8 159 rfl rfl, dmT8 160 rfl rfl⟩, _, rfl, rfl⟩
set_option maxRecDepth 20000 in
theorem lc_count {r : Int32} {hC2 hM2 : dH} (hL : L ≤ 3072) (hi : iN + 6 ≤ L) (e1 : aC_count (xs (iN + 1)) hC = some (r, hC2)) (e2 : aM_count (xs (iN + 1)) hM = some (r, hM2)) (k : LB l b L xs n 1547 (Int32.ofNat iN) [] hC2 hM2) : LB l b L xs n 1522 (Int32.ofNat iN) [] hC hM := by
  refine L_aload1 dL_law_1522 ?_
  refine L_arg 1 dL_law_1523 dL_law_1524 dL_law_1526 dL_law_1527 dL_law_1528 la_1 hL (by omega) ?_
  refine L_callC (st := []) (as := [.int (xs (iN + 1))]) dL_law_1529 lcl_189 (taC_count (xs (iN + 1)) hC) e1 (Nat.le_of_ble_eq_true rfl) rfl rfl rfl (Nat.le_of_ble_eq_true rfl) rfl ?_
  refine L_aload2 dL_law_1532 ?_
  refine L_arg 1 dL_law_1533 dL_law_1534 dL_law_1536 dL_law_1537 dL_law_1538 la_1 hL (by omega) ?_
  refine L_callM (st := [.int r]) (as := [.int (xs (iN + 1))]) dL_law_1539 lcl_192 (taM_count (xs (iN + 1)) hM) e2 (Nat.le_of_ble_eq_true rfl) rfl rfl rfl (Nat.le_of_ble_eq_true rfl) rfl ?_
  exact L_icmp_eq (tgt := 1547) dL_law_1542 (by decide) (fun _ => k) (fun q => absurd rfl q)
end LX
