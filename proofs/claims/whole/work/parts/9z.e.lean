/-! the law's case of spot -/
section LSP
variable {l : Launch} {b L : Nat} {xs : Nat → Int32} {n pc : Nat} {i : Int32} {hC hM : dH} {Po : (Nat → Int64) → Prop}
theorem L_good : GoodIn dWs (va_wsS R_law 42 yL_spot (.codeWith yL_spot cL_spot 5 (some .int) [(0, 10, 13, 13)] :: dWs)) := by
  intro w hw
  rcases List.mem_cons.mp hw with rfl | hw
  · exact dWs_good _ tw_42
  rcases List.mem_cons.mp hw with rfl | hw
  · exact dWs_good _ tw_st
  rcases List.mem_cons.mp hw with rfl | hw
  · exact dWs_good _ tw_law
  rcases List.mem_cons.mp hw with rfl | hw
  · exact dWs_good _ tw_cw
  · exact dWs_good _ hw
set_option maxRecDepth 20000 in
theorem L_spot (hlr : l.stackTraces = false) {x1 x2 r : Int32} (hn : n + 1 ≤ 600) (hd : decode code pc = .ok (.invokestatic 42, 3)) (hcase : ∀ ov : Nat → Int64, ∃ ov' : Nat → Int64, sCase x1 x2 hC r ov ov' ∧ Po ov')
    (k : LE l b L xs (n + 1) [] Po (pc + 3) i [.int r] hC hM) : LB l b L xs n pc i [.ref 3, .int x2, .int x1, .ref 1] hC hM := by
  intro p e s m below meth c GC GM qo ov H locs lsA cells slots C0 Wd hl hcl hsl
  have hts := lw_ts C0
  obtain ⟨W1, W2, W3, W4, W5, W6, W7⟩ := id Wd
  have hZ := dZq_0 C0
  obtain ⟨ov', hcs, hPo⟩ := hcase ov
  have hqo : qo < H.size := (Array.getElem?_eq_some_iff.mp W4.1).1
  have hAo : ∀ q, dAo GC H.size qo q → s.heap.size ≤ q := by
    rintro q ((⟨k, hk, rfl⟩ | hq) | rfl)
    · exact W1.2.2.2.1 k hk
    · exact Nat.le_trans W1.2.2.2.2.1.1 hq
    · exact W4.2
  have hrun := vx_runSX (e := e) (As := [.ref (GC.2.2 0), .int x1, .int x2, .ref qo]) (rest := []) (g := F0 m pc lsA [.ref qo, .int x2, .int x1, .ref (GC.2.2 0)]) (R := room_1) (cells := cells) (slots := slots) (locs := locs) (below := below) (meth := meth) (H := H) (cc := code) (nL := 7) (index := 42) (own := R_law) ⟨C0.1, C0.2.1, C0.2.2.2.1, C0.2.2.2.2.1, hts⟩ (t_Lspot hlr hcs GC H.size qo)
    (vx_cwSW (hh := [(0, 10, 13, 13)]) 4 hts L_good rfl rfl rfl ⟨by decide, by decide, by decide +kernel⟩ ⟨by decide, by decide⟩)
    ⟨fun a U g mk hp => ⟨hp.1, dPU_blind g mk a hp.2.1, hp.2.2.1, hp.2.2.2⟩, fun U hU hW => ⟨rfl, dPU_pre W1 hZ hAo hU hW, by rw [hU]; exact W4.1, W6⟩⟩ rfl rfl hl.1 rfl (Nat.le_of_ble_eq_true rfl) hd ⟨by show cells + 1 ≤ 601024; omega, by show slots + 6 ≤ 7293034; omega⟩
  obtain ⟨S1, S2, S3, S4, S5, S6, S7, S8, S9⟩ := W1
  obtain ⟨M1, M2, M3, M4, M5, M6, M7, M8, M9⟩ := W2
  intro U hU XX
  rcases hrun U hU XX with ⟨v, st₀, t, U', LL, h0, X', hL, e1, e2, ⟨hvv, hP, hO, ⟨hz1, hk⟩⟩, stp⟩ | ⟨q, st₀, t, U', LL, E, ce, h0, X', hL, e1, e2, hF, _⟩
  · rw [h0] at hz1 hk
    have hv2 : v = some (.int r) := by cases hvv; rfl
    have hk1 : ∀ q : Nat, q < H.size → ¬ dAo GC H.size qo q → U'.heap[q]? = H[q]? := fun q g1 g2 => by rw [e1]; exact hk q g1 g2
    have hSS : va_S (fun q : Nat => s.heap.size ≤ q) s.heap U'.heap (locs ++ LL) := ⟨Nat.le_trans S5.1 (by rw [e1]; exact hz1), fun q g1 g2 => by rw [hk1 q (Nat.lt_of_lt_of_le g1 S5.1) (fun w => g2 (hAo q w))]; exact S5.2.1 q g1 g2, fun q hq => by
        rcases List.mem_append.mp hq with w | w
        · exact S5.2.2 q w
        · exact hAo _ (hL q w)⟩
    have Wd2 : LWd GC GM qo s hC hM ov' U'.heap (locs ++ LL) := by
      refine ⟨⟨S1, by rw [e1]; exact hP, S3, S4, hSS, S6, S7, S8, S9⟩, ⟨M1, ?_, M3, M4, hSS, M6, M7, M8, M9⟩, W3, ⟨by rw [e1]; exact hO, W4.2⟩, W5, W6, W7⟩
      refine dP_kept M2 hk1 (fun j hj => ?_)
      have hlt : GM.2.2 j < H.size := (M2 j _ (dW_get (List.getElem?_eq_getElem hj))).lt
      rintro ((⟨k, hk, e9⟩ | g3) | g3)
      · exact W5 k j hk hj e9.symm
      · omega
      · exact W7 j hj g3
    obtain ⟨t2, a1, b1⟩ := k p e s m below meth c GC GM qo ov' U'.heap (locs ++ LL) lsA (cells + 1) (slots + 6) C0 Wd2 hl hPo (by omega) (by omega) U' rfl X'
    refine ⟨t2, stp t2 ?_, b1⟩
    rw [hv2]
    exact a1
  · exact hF.elim
end LSP
theorem lg_same (x : Int64) : lg_cmp x x = 0 := by
  unfold lg_cmp
  simp
set_option maxRecDepth 20000 in
theorem lc_spot {l : Launch} {b L : Nat} {xs : Nat → Int32} (hl : l.stackTraces = false) : lc_spotP l b L xs := by
  intro n iN hC hM hM2 v hL hi hn e2 hcase k
  obtain ⟨r, Po, hc1, hthr, hfin⟩ : ∃ (r : Int32) (Po : (Nat → Int64) → Prop), (∀ ov : Nat → Int64, ∃ ov' : Nat → Int64, sCase (xs (iN + 1)) (xs (iN + 2)) hC r ov ov' ∧ Po ov') ∧ hM2.1 0 0 = r ∧ (r = 0 → ∀ ov, Po ov → ov 0 = v.toInt64) := by
    rcases hcase with ⟨h1, h2, h3⟩ | ⟨h1, h3⟩
    · exact ⟨0, fun ov => ov 0 = v.toInt64, fun ov => ⟨_, Or.inl ⟨h1, v, h2, rfl, rfl⟩, by simp [vp_updL]⟩, h3, fun _ ov h => h⟩
    · exact ⟨1, fun _ => True, fun ov => ⟨ov, Or.inr ⟨h1, rfl, rfl⟩, trivial⟩, h3, fun z => absurd z (by decide)⟩
  refine L_aload1 dL_law_389 ?_
  refine L_arg 1 dL_law_390 dL_law_391 dL_law_393 dL_law_394 dL_law_395 la_1 hL (by omega) ?_
  refine L_arg 2 dL_law_396 dL_law_397 dL_law_399 dL_law_400 dL_law_401 la_2 hL (by omega) ?_
  refine L_aload3 dL_law_402 ?_
  refine L_spot hl (by omega) dL_law_403 hc1 ?_
  refine E_istore5 dL_law_406 ?_
  refine E_aload2 dL_law_408 ?_
  refine E_arg 1 dL_law_409 dL_law_410 dL_law_412 dL_law_413 dL_law_414 la_1 hL (by omega) ?_
  refine E_arg 2 dL_law_415 dL_law_416 dL_law_418 dL_law_419 dL_law_420 la_2 hL (by omega) ?_
  refine E_callM (st := []) (as := [.int (xs (iN + 1)), .int (xs (iN + 2))]) dL_law_421 lcl_47 (t_X12_spot (xs (iN + 1)) (xs (iN + 2)) hM) e2 (Nat.le_of_ble_eq_true rfl) rfl rfl rfl (Nat.le_of_ble_eq_true rfl) rfl ?_
  refine E_istore6 dL_law_424 ?_
  refine E_aload2 dL_law_426 ?_
  refine E_callM (st := []) (as := []) dL_law_427 lcl_48 (t_X12_thrown hM2) rfl (Nat.le_of_ble_eq_true rfl) rfl rfl rfl (Nat.le_of_ble_eq_true rfl) rfl ?_
  refine E_iload5 dL_law_430 ?_
  refine E_icmp_eq (tgt := 437) dL_law_432 (by decide) (fun _ => ?_) (fun q => absurd hthr q)
  refine E_iload5 dL_law_437 ?_
  have fin : LE l b L xs (n + 1) [(5, .int r), (6, .int v)] Po 454 (Int32.ofNat iN) [] hC hM2 := E_goto (tgt := 1547) dL_law_454 (by decide) (E_of k)
  refine E_if_ne (tgt := 454) dL_law_439 (by decide) (fun _ => fin) (fun q => ?_)
  refine E_aload3 dL_law_442 ?_
  refine E_iconst dL_law_443 ic_0 ?_
  refine E_lald dL_law_444 (hfin q) ?_
  refine E_iload6 dL_law_445 ?_
  refine E_i2l dL_law_447 ?_
  refine E_lcmp dL_law_448 ?_
  exact E_if_eq (tgt := 454) dL_law_449 (by decide) (fun _ => fin) (fun q => absurd (lg_same _) q)
