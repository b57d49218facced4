/-! the law's loop: one step of each call, and the loop out of them -/
def dAg (P : dH → dH → Prop) (oC oM : Option (Int32 × dH)) : Prop := ∃ (r : Int32) (hC2 hM2 : dH), oC = some (r, hC2) ∧ oM = some (r, hM2) ∧ P hC2 hM2
/-- a step of the loop: from its head for the call at iN to its head for the next -/
def spotOK (x1 x2 : Int32) (h : dH) : Prop := f_X1_isPlace 3 x1 h = true ∧ 0 ≤ x2 ∧ x2 ≤ 6
def st_feed (Rel : Nat → dH → dH → Prop) : Prop := ∀ (n : Nat) (hC hM : dH), n < 512 → Rel n hC hM → ∀ (x1 : Int32) (x2 : Int32) (x3 : Int32) (x4 : Int32) (x5 : Int32), dAg (Rel (n + 1)) (aC_feed x1 x2 x3 x4 x5 hC) (aM_feed x1 x2 x3 x4 x5 hM)
def st_end (Rel : Nat → dH → dH → Prop) : Prop := ∀ (n : Nat) (hC hM : dH), n < 512 → Rel n hC hM → ∀ (x1 : Int32), dAg (Rel (n + 1)) (aC_end x1 hC) (aM_end x1 hM)
def st_fault (Rel : Nat → dH → dH → Prop) : Prop := ∀ (n : Nat) (hC hM : dH), n < 512 → Rel n hC hM → ∀ (x1 : Int32), dAg (Rel (n + 1)) (aC_fault x1 hC) (aM_fault x1 hM)
def st_text (Rel : Nat → dH → dH → Prop) : Prop := ∀ (n : Nat) (hC hM : dH), n < 512 → Rel n hC hM → ∀ (x1 : Int32), dAg (Rel (n + 1)) (aC_text x1 hC) (aM_text x1 hM)
def st_rule (Rel : Nat → dH → dH → Prop) : Prop := ∀ (n : Nat) (hC hM : dH), n < 512 → Rel n hC hM → ∀ (x1 : Int32), dAg (Rel (n + 1)) (aC_rule x1 hC) (aM_rule x1 hM)
def st_law (Rel : Nat → dH → dH → Prop) : Prop := ∀ (n : Nat) (hC hM : dH), n < 512 → Rel n hC hM → ∀ (x1 : Int32), dAg (Rel (n + 1)) (aC_law x1 hC) (aM_law x1 hM)
def st_gout (Rel : Nat → dH → dH → Prop) : Prop := ∀ (n : Nat) (hC hM : dH), n < 512 → Rel n hC hM → ∀ (x1 : Int32), dAg (Rel (n + 1)) (aC_gout x1 hC) (aM_gout x1 hM)
def st_steps (Rel : Nat → dH → dH → Prop) : Prop := ∀ (n : Nat) (hC hM : dH), n < 512 → Rel n hC hM → ∀ (x1 : Int32) (x2 : Int32), dAg (Rel (n + 1)) (aC_steps x1 x2 hC) (aM_steps x1 x2 hM)
def st_walk (Rel : Nat → dH → dH → Prop) : Prop := ∀ (n : Nat) (hC hM : dH), n < 512 → Rel n hC hM → ∀ (x1 : Int32), dAg (Rel (n + 1)) (aC_walk x1 hC) (aM_walk x1 hM)
def st_ledge (Rel : Nat → dH → dH → Prop) : Prop := ∀ (n : Nat) (hC hM : dH), n < 512 → Rel n hC hM → dAg (Rel (n + 1)) (aC_ledge hC) (aM_ledge hM)
def st_restore (Rel : Nat → dH → dH → Prop) : Prop := ∀ (n : Nat) (hC hM : dH), n < 512 → Rel n hC hM → ∀ (x1 : Int32), dAg (Rel (n + 1)) (aC_restore x1 hC) (aM_restore x1 hM)
def st_patience (Rel : Nat → dH → dH → Prop) : Prop := ∀ (n : Nat) (hC hM : dH), n < 512 → Rel n hC hM → ∀ (x1 : Int32) (x2 : Int32), dAg (Rel (n + 1)) (aC_patience x1 x2 hC) (aM_patience x1 x2 hM)
def st_day (Rel : Nat → dH → dH → Prop) : Prop := ∀ (n : Nat) (hC hM : dH), n < 512 → Rel n hC hM → dAg (Rel (n + 1)) (aC_day hC) (aM_day hM)
def st_years (Rel : Nat → dH → dH → Prop) : Prop := ∀ (n : Nat) (hC hM : dH), n < 512 → Rel n hC hM → ∀ (x1 : Int32) (x2 : Int64), dAg (Rel (n + 1)) (aC_years x1 x2 hC) (aM_years x1 x2 hM)
def st_undo (Rel : Nat → dH → dH → Prop) : Prop := ∀ (n : Nat) (hC hM : dH), n < 512 → Rel n hC hM → dAg (Rel (n + 1)) (aC_undo hC) (aM_undo hM)
def st_log (Rel : Nat → dH → dH → Prop) : Prop := ∀ (n : Nat) (hC hM : dH), n < 512 → Rel n hC hM → ∀ (x1 : Int32) (x2 : Int32), dAg (Rel (n + 1)) (aC_log x1 x2 hC) (aM_log x1 x2 hM)
def st_step (Rel : Nat → dH → dH → Prop) : Prop := ∀ (n : Nat) (hC hM : dH), n < 512 → Rel n hC hM → ∀ (x1 : Int32) (x2 : Int32) (x3 : Int32), dAg (Rel (n + 1)) (aC_step x1 x2 x3 hC) (aM_step x1 x2 x3 hM)
def st_run (Rel : Nat → dH → dH → Prop) : Prop := ∀ (n : Nat) (hC hM : dH), n < 512 → Rel n hC hM → ∀ (x1 : Int32) (x2 : Int32), dAg (Rel (n + 1)) (aC_run x1 x2 hC) (aM_run x1 x2 hM)
def st_perform (Rel : Nat → dH → dH → Prop) : Prop := ∀ (n : Nat) (hC hM : dH), n < 512 → Rel n hC hM → ∀ (x1 : Int32), dAg (Rel (n + 1)) (aC_perform x1 hC) (aM_perform x1 hM)
def st_troubles (Rel : Nat → dH → dH → Prop) : Prop := ∀ (n : Nat) (hC hM : dH), n < 512 → Rel n hC hM → ∀ (x1 : Int32), dAg (Rel (n + 1)) (aC_troubles x1 hC) (aM_troubles x1 hM)
def st_sees (Rel : Nat → dH → dH → Prop) : Prop := ∀ (n : Nat) (hC hM : dH), n < 512 → Rel n hC hM → ∀ (x1 : Int32), dAg (Rel (n + 1)) (aC_sees x1 hC) (aM_sees x1 hM)
def st_least (Rel : Nat → dH → dH → Prop) : Prop := ∀ (n : Nat) (hC hM : dH), n < 512 → Rel n hC hM → ∀ (x1 : Int32) (x2 : Int32), dAg (Rel (n + 1)) (aC_least x1 x2 hC) (aM_least x1 x2 hM)
def st_manners (Rel : Nat → dH → dH → Prop) : Prop := ∀ (n : Nat) (hC hM : dH), n < 512 → Rel n hC hM → ∀ (x1 : Int32), dAg (Rel (n + 1)) (aC_manners x1 hC) (aM_manners x1 hM)
def st_noted (Rel : Nat → dH → dH → Prop) : Prop := ∀ (n : Nat) (hC hM : dH), n < 512 → Rel n hC hM → ∀ (x1 : Int32) (x2 : Int32) (x3 : Bool), dAg (Rel (n + 1)) (aC_noted x1 x2 x3 hC) (aM_noted x1 x2 x3 hM)
def st_ways (Rel : Nat → dH → dH → Prop) : Prop := ∀ (n : Nat) (hC hM : dH), n < 512 → Rel n hC hM → ∀ (x1 : Int32) (x2 : Int32), dAg (Rel (n + 1)) (aC_ways x1 x2 hC) (aM_ways x1 x2 hM)
def st_ask (Rel : Nat → dH → dH → Prop) : Prop := ∀ (n : Nat) (hC hM : dH), n < 512 → Rel n hC hM → ∀ (x1 : Int32) (x2 : Int32), dAg (Rel (n + 1)) (aC_ask x1 x2 hC) (aM_ask x1 x2 hM)
def st_always (Rel : Nat → dH → dH → Prop) : Prop := ∀ (n : Nat) (hC hM : dH), n < 512 → Rel n hC hM → ∀ (x1 : Int32), dAg (Rel (n + 1)) (aC_always x1 hC) (aM_always x1 hM)
def st_round (Rel : Nat → dH → dH → Prop) : Prop := ∀ (n : Nat) (hC hM : dH), n < 512 → Rel n hC hM → ∀ (x1 : Int32), dAg (Rel (n + 1)) (aC_round x1 hC) (aM_round x1 hM)
def st_meets (Rel : Nat → dH → dH → Prop) : Prop := ∀ (n : Nat) (hC hM : dH), n < 512 → Rel n hC hM → ∀ (x1 : Int32) (x2 : Int32), dAg (Rel (n + 1)) (aC_meets x1 x2 hC) (aM_meets x1 x2 hM)
def st_game (Rel : Nat → dH → dH → Prop) : Prop := ∀ (n : Nat) (hC hM : dH), n < 512 → Rel n hC hM → ∀ (x1 : Int32) (x2 : Int32) (x3 : Int32) (x4 : Int32) (x5 : Int32), dAg (Rel (n + 1)) (aC_game x1 x2 x3 x4 x5 hC) (aM_game x1 x2 x3 x4 x5 hM)
def st_rests (Rel : Nat → dH → dH → Prop) : Prop := ∀ (n : Nat) (hC hM : dH), n < 512 → Rel n hC hM → ∀ (x1 : Int32) (x2 : Int32) (x3 : Int32), dAg (Rel (n + 1)) (aC_rests x1 x2 x3 hC) (aM_rests x1 x2 x3 hM)
def st_odds (Rel : Nat → dH → dH → Prop) : Prop := ∀ (n : Nat) (hC hM : dH), n < 512 → Rel n hC hM → ∀ (x1 : Int32) (x2 : Int32) (x3 : Int32), dAg (Rel (n + 1)) (aC_odds x1 x2 x3 hC) (aM_odds x1 x2 x3 hM)
def st_cost (Rel : Nat → dH → dH → Prop) : Prop := ∀ (n : Nat) (hC hM : dH), n < 512 → Rel n hC hM → ∀ (x1 : Int32), dAg (Rel (n + 1)) (aC_cost x1 hC) (aM_cost x1 hM)
def st_all (Rel : Nat → dH → dH → Prop) : Prop := ∀ (n : Nat) (hC hM : dH), n < 512 → Rel n hC hM → ∀ (x1 : Int32), dAg (Rel (n + 1)) (aC_all x1 hC) (aM_all x1 hM)
def st_kinds (Rel : Nat → dH → dH → Prop) : Prop := ∀ (n : Nat) (hC hM : dH), n < 512 → Rel n hC hM → ∀ (x1 : Int32), dAg (Rel (n + 1)) (aC_kinds x1 hC) (aM_kinds x1 hM)
def st_calm (Rel : Nat → dH → dH → Prop) : Prop := ∀ (n : Nat) (hC hM : dH), n < 512 → Rel n hC hM → ∀ (x1 : Int32), dAg (Rel (n + 1)) (aC_calm x1 hC) (aM_calm x1 hM)
def st_image (Rel : Nat → dH → dH → Prop) : Prop := ∀ (n : Nat) (hC hM : dH), n < 512 → Rel n hC hM → dAg (Rel (n + 1)) (aC_image hC) (aM_image hM)
def st_back (Rel : Nat → dH → dH → Prop) : Prop := ∀ (n : Nat) (hC hM : dH), n < 512 → Rel n hC hM → dAg (Rel (n + 1)) (aC_back hC) (aM_back hM)
def st_count (Rel : Nat → dH → dH → Prop) : Prop := ∀ (n : Nat) (hC hM : dH), n < 512 → Rel n hC hM → ∀ (x1 : Int32), dAg (Rel (n + 1)) (aC_count x1 hC) (aM_count x1 hM)
/-- the call of spot: an answer, or a throw -/
def st_spot (Rel : Nat → dH → dH → Prop) : Prop := ∀ (n : Nat) (hC hM : dH), n < 512 → Rel n hC hM → ∀ (x1 x2 : Int32), (∃ (v : Int32) (hM2 : dH), spotOK x1 x2 hC ∧ f_X11_spot x1 x2 hC = some v ∧ f_X12_spot x1 x2 hM = some (v, hM2) ∧ hM2.1 0 0 = 0 ∧ Rel (n + 1) hC hM2) ∨ (∃ (v : Int32) (hM2 : dH), ¬ spotOK x1 x2 hC ∧ f_X12_spot x1 x2 hM = some (v, hM2) ∧ hM2.1 0 0 = 1 ∧ Rel (n + 1) hC hM2)
def st_skip (Rel : Nat → dH → dH → Prop) : Prop := ∀ (n : Nat) (hC hM : dH), n < 512 → Rel n hC hM → Rel (n + 1) hC hM
def steps_ok (Rel : Nat → dH → dH → Prop) : Prop := st_skip Rel ∧ st_spot Rel ∧ st_feed Rel ∧ st_end Rel ∧ st_fault Rel ∧ st_text Rel ∧ st_rule Rel ∧ st_law Rel ∧ st_gout Rel ∧ st_steps Rel ∧ st_walk Rel ∧ st_ledge Rel ∧ st_restore Rel ∧ st_patience Rel ∧ st_day Rel ∧ st_years Rel ∧ st_undo Rel ∧ st_log Rel ∧ st_step Rel ∧ st_run Rel ∧ st_perform Rel ∧ st_troubles Rel ∧ st_sees Rel ∧ st_least Rel ∧ st_manners Rel ∧ st_noted Rel ∧ st_ways Rel ∧ st_ask Rel ∧ st_always Rel ∧ st_round Rel ∧ st_meets Rel ∧ st_game Rel ∧ st_rests Rel ∧ st_odds Rel ∧ st_cost Rel ∧ st_all Rel ∧ st_kinds Rel ∧ st_calm Rel ∧ st_image Rel ∧ st_back Rel ∧ st_count Rel
/-- what is left of the call of spot: from its case to the loop's end -/
def lc_spotP (l : Launch) (b L : Nat) (xs : Nat → Int32) : Prop := ∀ (n iN : Nat) (hC hM hM2 : dH) (v : Int32), L ≤ 3072 → iN + 6 ≤ L → n < 512 → f_X12_spot (xs (iN + 1)) (xs (iN + 2)) hM = some (v, hM2) →
  ((spotOK (xs (iN + 1)) (xs (iN + 2)) hC ∧ f_X11_spot (xs (iN + 1)) (xs (iN + 2)) hC = some v ∧ hM2.1 0 0 = 0) ∨ (¬ spotOK (xs (iN + 1)) (xs (iN + 2)) hC ∧ hM2.1 0 0 = 1)) → LB l b L xs (n + 1) 1547 (Int32.ofNat iN) [] hC hM2 → LB l b L xs n 389 (Int32.ofNat iN) [] hC hM
theorem and63 (x : Int32) : 0 ≤ (x &&& 63).toInt ∧ (x &&& 63).toInt < 64 := by
  have h : (x &&& 63).toBitVec = x.toBitVec &&& 63#32 := rfl
  have h2 : (x.toBitVec &&& 63#32).toNat ≤ 63 := by
    rw [BitVec.toNat_and]
    exact Nat.and_le_right
  have h3 : (x &&& 63).toInt = ((x.toBitVec &&& 63#32).toNat : Int) := by
    show (x &&& 63).toBitVec.toInt = _
    rw [h, BitVec.toInt_eq_toNat_of_lt (by omega)]
  omega
set_option maxRecDepth 100000 in
set_option maxHeartbeats 4000000 in
theorem law_loop {l : Launch} {b L : Nat} {xs : Nat → Int32} (Rel : Nat → dH → dH → Prop) (hS : steps_ok Rel) (hL : L ≤ 3072) (hspot : lc_spotP l b L xs) : ∀ (f n : Nat) (hC hM : dH), 6 * n ≤ L + 5 → L + 6 ≤ 6 * n + 6 * f → Rel n hC hM → LB l b L xs n 23 (Int32.ofNat (6 * n)) [] hC hM := by
  obtain ⟨s_skip, s_spot, s_feed, s_end, s_fault, s_text, s_rule, s_law, s_gout, s_steps, s_walk, s_ledge, s_restore, s_patience, s_day, s_years, s_undo, s_log, s_step, s_run, s_perform, s_troubles, s_sees, s_least, s_manners, s_noted, s_ways, s_ask, s_always, s_round, s_meets, s_game, s_rests, s_odds, s_cost, s_all, s_kinds, s_calm, s_image, s_back, s_count⟩ := hS
  intro f
  induction f with
  | zero => intro n hC hM h1 h2; exact absurd h2 (by omega)
  | succ f ih =>
    intro n hC hM h1 h2 hR
    refine L_iload4 dL_law_23 ?_
    refine L_aload0 dL_law_25 ?_
    refine L_slen dL_law_26 ?_
    refine L_bipush dL_law_27 bp_6 ?_
    refine L_isub dL_law_29 ?_
    have e6 : (Int32.ofNat L - 6).toInt = (L : Int) - 6 := by
      rw [Int32.toInt_sub, oN_big (by omega), show (6 : Int32).toInt = 6 by decide]
      rw [Int.bmod_eq_of_le (by omega) (by omega)]
    refine L_icmp_gt (tgt := 1553) dL_law_30 (by decide) (fun q => ?_) (fun q => ?_)
    · refine L_iconst dL_law_1553 ic_1 ?_
      exact L_end dL_law_1554
    · have hi : 6 * n + 6 ≤ L := by
        have q2 : ¬ (Int32.ofNat L - 6).toInt < (Int32.ofNat (6 * n)).toInt := fun z => q (Int32.lt_iff_toInt_lt.mpr z)
        rw [e6, oN_big (by omega)] at q2
        omega
      have hn : n < 512 := by omega
      have next : ∀ (hC2 hM2 : dH), Rel (n + 1) hC2 hM2 → LB l b L xs (n + 1) 1547 (Int32.ofNat (6 * n)) [] hC2 hM2 := by
        intro hC2 hM2 hR2
        refine L_iinc (v := Int32.ofNat (6 * (n + 1))) dL_law_1547 (by rw [show (6 * (n + 1)) = 6 * n + 6 by omega, ← oNadd]; rfl) ?_
        refine L_goto (tgt := 23) dL_law_1550 (by decide) ?_
        exact ih (n + 1) hC2 hM2 (by omega) (by omega) hR2
      have next0 : ∀ (hC2 hM2 : dH), Rel (n + 1) hC2 hM2 → LB l b L xs n 1547 (Int32.ofNat (6 * n)) [] hC2 hM2 := fun hC2 hM2 hR2 => LB_more (Nat.le_succ n) (by omega) (next hC2 hM2 hR2)
      refine L_aload0 dL_law_33 ?_
      refine L_iload4 dL_law_34 ?_
      refine L_sld dL_law_36 ⟨by rw [oN_big (by omega)]; omega, by rw [oN_big (by omega)]; omega⟩ ?_
      refine L_bipush dL_law_37 bp_63 ?_
      refine L_iand dL_law_39 ?_
      obtain ⟨c0, c1⟩ := and63 (xs (dI (Int32.ofNat (6 * n))))
      generalize hv : xs (dI (Int32.ofNat (6 * n))) &&& 63 = v at c0 c1 ⊢
      by_cases hin : v.toInt < 40
      · have hcase : v.toInt = 0 ∨ v.toInt = 1 ∨ v.toInt = 2 ∨ v.toInt = 3 ∨ v.toInt = 4 ∨ v.toInt = 5 ∨ v.toInt = 6 ∨ v.toInt = 7 ∨ v.toInt = 8 ∨ v.toInt = 9 ∨ v.toInt = 10 ∨ v.toInt = 11 ∨ v.toInt = 12 ∨ v.toInt = 13 ∨ v.toInt = 14 ∨ v.toInt = 15 ∨ v.toInt = 16 ∨ v.toInt = 17 ∨ v.toInt = 18 ∨ v.toInt = 19 ∨ v.toInt = 20 ∨ v.toInt = 21 ∨ v.toInt = 22 ∨ v.toInt = 23 ∨ v.toInt = 24 ∨ v.toInt = 25 ∨ v.toInt = 26 ∨ v.toInt = 27 ∨ v.toInt = 28 ∨ v.toInt = 29 ∨ v.toInt = 30 ∨ v.toInt = 31 ∨ v.toInt = 32 ∨ v.toInt = 33 ∨ v.toInt = 34 ∨ v.toInt = 35 ∨ v.toInt = 36 ∨ v.toInt = 37 ∨ v.toInt = 38 ∨ v.toInt = 39 := by omega
        rcases hcase with hq | hq | hq | hq | hq | hq | hq | hq | hq | hq | hq | hq | hq | hq | hq | hq | hq | hq | hq | hq | hq | hq | hq | hq | hq | hq | hq | hq | hq | hq | hq | hq | hq | hq | hq | hq | hq | hq | hq | hq
        · refine L_tswIn (off := 176) (tgt := 216) dL_law_40 (by omega) (by omega) (by rw [hq]; decide) (by decide) ?_
          obtain ⟨r, hC2, hM2, g1, g2, g3⟩ := s_feed n hC hM hn hR (xs (6 * n + 1)) (xs (6 * n + 2)) (xs (6 * n + 3)) (xs (6 * n + 4)) (xs (6 * n + 5))
          exact lc_feed hL hi g1 g2 (next0 _ _ g3)
        · refine L_tswIn (off := 249) (tgt := 289) dL_law_40 (by omega) (by omega) (by rw [hq]; decide) (by decide) ?_
          obtain ⟨r, hC2, hM2, g1, g2, g3⟩ := s_end n hC hM hn hR (xs (6 * n + 1))
          exact lc_end hL hi g1 g2 (next0 _ _ g3)
        · refine L_tswIn (off := 274) (tgt := 314) dL_law_40 (by omega) (by omega) (by rw [hq]; decide) (by decide) ?_
          obtain ⟨r, hC2, hM2, g1, g2, g3⟩ := s_fault n hC hM hn hR (xs (6 * n + 1))
          exact lc_fault hL hi g1 g2 (next0 _ _ g3)
        · refine L_tswIn (off := 299) (tgt := 339) dL_law_40 (by omega) (by omega) (by rw [hq]; decide) (by decide) ?_
          obtain ⟨r, hC2, hM2, g1, g2, g3⟩ := s_text n hC hM hn hR (xs (6 * n + 1))
          exact lc_text hL hi g1 g2 (next0 _ _ g3)
        · refine L_tswIn (off := 324) (tgt := 364) dL_law_40 (by omega) (by omega) (by rw [hq]; decide) (by decide) ?_
          obtain ⟨r, hC2, hM2, g1, g2, g3⟩ := s_rule n hC hM hn hR (xs (6 * n + 1))
          exact lc_rule hL hi g1 g2 (next0 _ _ g3)
        · refine L_tswIn (off := 349) (tgt := 389) dL_law_40 (by omega) (by omega) (by rw [hq]; decide) (by decide) ?_
          rcases s_spot n hC hM hn hR (xs (6 * n + 1)) (xs (6 * n + 2)) with ⟨w, hM2, g1, g2, g3, g4, g5⟩ | ⟨w, hM2, g1, g3, g4, g5⟩
          · exact hspot n (6 * n) hC hM hM2 w hL hi hn g3 (Or.inl ⟨g1, g2, g4⟩) (next _ _ g5)
          · exact hspot n (6 * n) hC hM hM2 w hL hi hn g3 (Or.inr ⟨g1, g4⟩) (next _ _ g5)
        · refine L_tswIn (off := 417) (tgt := 457) dL_law_40 (by omega) (by omega) (by rw [hq]; decide) (by decide) ?_
          obtain ⟨r, hC2, hM2, g1, g2, g3⟩ := s_law n hC hM hn hR (xs (6 * n + 1))
          exact lc_law hL hi g1 g2 (next0 _ _ g3)
        · refine L_tswIn (off := 442) (tgt := 482) dL_law_40 (by omega) (by omega) (by rw [hq]; decide) (by decide) ?_
          obtain ⟨r, hC2, hM2, g1, g2, g3⟩ := s_gout n hC hM hn hR (xs (6 * n + 1))
          exact lc_gout hL hi g1 g2 (next0 _ _ g3)
        · refine L_tswIn (off := 467) (tgt := 507) dL_law_40 (by omega) (by omega) (by rw [hq]; decide) (by decide) ?_
          obtain ⟨r, hC2, hM2, g1, g2, g3⟩ := s_steps n hC hM hn hR (xs (6 * n + 1)) (xs (6 * n + 2))
          exact lc_steps hL hi g1 g2 (next0 _ _ g3)
        · refine L_tswIn (off := 504) (tgt := 544) dL_law_40 (by omega) (by omega) (by rw [hq]; decide) (by decide) ?_
          obtain ⟨r, hC2, hM2, g1, g2, g3⟩ := s_walk n hC hM hn hR (xs (6 * n + 1))
          exact lc_walk hL hi g1 g2 (next0 _ _ g3)
        · refine L_tswIn (off := 529) (tgt := 569) dL_law_40 (by omega) (by omega) (by rw [hq]; decide) (by decide) ?_
          obtain ⟨r, hC2, hM2, g1, g2, g3⟩ := s_ledge n hC hM hn hR 
          exact lc_ledge hL hi g1 g2 (next0 _ _ g3)
        · refine L_tswIn (off := 542) (tgt := 582) dL_law_40 (by omega) (by omega) (by rw [hq]; decide) (by decide) ?_
          obtain ⟨r, hC2, hM2, g1, g2, g3⟩ := s_restore n hC hM hn hR (xs (6 * n + 1))
          exact lc_restore hL hi g1 g2 (next0 _ _ g3)
        · refine L_tswIn (off := 567) (tgt := 607) dL_law_40 (by omega) (by omega) (by rw [hq]; decide) (by decide) ?_
          obtain ⟨r, hC2, hM2, g1, g2, g3⟩ := s_patience n hC hM hn hR (xs (6 * n + 1)) (xs (6 * n + 2))
          exact lc_patience hL hi g1 g2 (next0 _ _ g3)
        · refine L_tswIn (off := 604) (tgt := 644) dL_law_40 (by omega) (by omega) (by rw [hq]; decide) (by decide) ?_
          obtain ⟨r, hC2, hM2, g1, g2, g3⟩ := s_day n hC hM hn hR 
          exact lc_day hL hi g1 g2 (next0 _ _ g3)
        · refine L_tswIn (off := 617) (tgt := 657) dL_law_40 (by omega) (by omega) (by rw [hq]; decide) (by decide) ?_
          obtain ⟨r, hC2, hM2, g1, g2, g3⟩ := s_years n hC hM hn hR (xs (6 * n + 1)) (lawSeed (xs (6 * n + 2)) (xs (6 * n + 3)))
          exact lc_years hL hi g1 g2 (next0 _ _ g3)
        · refine L_tswIn (off := 686) (tgt := 726) dL_law_40 (by omega) (by omega) (by rw [hq]; decide) (by decide) ?_
          obtain ⟨r, hC2, hM2, g1, g2, g3⟩ := s_undo n hC hM hn hR 
          exact lc_undo hL hi g1 g2 (next0 _ _ g3)
        · refine L_tswIn (off := 699) (tgt := 739) dL_law_40 (by omega) (by omega) (by rw [hq]; decide) (by decide) ?_
          obtain ⟨r, hC2, hM2, g1, g2, g3⟩ := s_log n hC hM hn hR (xs (6 * n + 1)) (xs (6 * n + 2))
          exact lc_log hL hi g1 g2 (next0 _ _ g3)
        · refine L_tswIn (off := 736) (tgt := 776) dL_law_40 (by omega) (by omega) (by rw [hq]; decide) (by decide) ?_
          obtain ⟨r, hC2, hM2, g1, g2, g3⟩ := s_step n hC hM hn hR (xs (6 * n + 1)) (xs (6 * n + 2)) (xs (6 * n + 3))
          exact lc_step hL hi g1 g2 (next0 _ _ g3)
        · refine L_tswIn (off := 785) (tgt := 825) dL_law_40 (by omega) (by omega) (by rw [hq]; decide) (by decide) ?_
          obtain ⟨r, hC2, hM2, g1, g2, g3⟩ := s_run n hC hM hn hR (xs (6 * n + 1)) (xs (6 * n + 2))
          exact lc_run hL hi g1 g2 (next0 _ _ g3)
        · refine L_tswIn (off := 822) (tgt := 862) dL_law_40 (by omega) (by omega) (by rw [hq]; decide) (by decide) ?_
          obtain ⟨r, hC2, hM2, g1, g2, g3⟩ := s_perform n hC hM hn hR (xs (6 * n + 1))
          exact lc_perform hL hi g1 g2 (next0 _ _ g3)
        · refine L_tswIn (off := 847) (tgt := 887) dL_law_40 (by omega) (by omega) (by rw [hq]; decide) (by decide) ?_
          obtain ⟨r, hC2, hM2, g1, g2, g3⟩ := s_troubles n hC hM hn hR (xs (6 * n + 1))
          exact lc_troubles hL hi g1 g2 (next0 _ _ g3)
        · refine L_tswIn (off := 872) (tgt := 912) dL_law_40 (by omega) (by omega) (by rw [hq]; decide) (by decide) ?_
          obtain ⟨r, hC2, hM2, g1, g2, g3⟩ := s_sees n hC hM hn hR (xs (6 * n + 1))
          exact lc_sees hL hi g1 g2 (next0 _ _ g3)
        · refine L_tswIn (off := 897) (tgt := 937) dL_law_40 (by omega) (by omega) (by rw [hq]; decide) (by decide) ?_
          obtain ⟨r, hC2, hM2, g1, g2, g3⟩ := s_least n hC hM hn hR (xs (6 * n + 1)) (xs (6 * n + 2))
          exact lc_least hL hi g1 g2 (next0 _ _ g3)
        · refine L_tswIn (off := 934) (tgt := 974) dL_law_40 (by omega) (by omega) (by rw [hq]; decide) (by decide) ?_
          obtain ⟨r, hC2, hM2, g1, g2, g3⟩ := s_manners n hC hM hn hR (xs (6 * n + 1))
          exact lc_manners hL hi g1 g2 (next0 _ _ g3)
        · refine L_tswIn (off := 959) (tgt := 999) dL_law_40 (by omega) (by omega) (by rw [hq]; decide) (by decide) ?_
          by_cases hz : xs (6 * n + 3) = 0
          · obtain ⟨r, hC2, hM2, g1, g2, g3⟩ := s_noted n hC hM hn hR (xs (6 * n + 1)) (xs (6 * n + 2)) false
            exact lc_noted_f hL hi hz g1 g2 (next0 _ _ g3)
          · obtain ⟨r, hC2, hM2, g1, g2, g3⟩ := s_noted n hC hM hn hR (xs (6 * n + 1)) (xs (6 * n + 2)) true
            exact lc_noted_t hL hi hz g1 g2 (next0 _ _ g3)
        · refine L_tswIn (off := 1024) (tgt := 1064) dL_law_40 (by omega) (by omega) (by rw [hq]; decide) (by decide) ?_
          obtain ⟨r, hC2, hM2, g1, g2, g3⟩ := s_ways n hC hM hn hR (xs (6 * n + 1)) (xs (6 * n + 2))
          exact lc_ways hL hi g1 g2 (next0 _ _ g3)
        · refine L_tswIn (off := 1061) (tgt := 1101) dL_law_40 (by omega) (by omega) (by rw [hq]; decide) (by decide) ?_
          obtain ⟨r, hC2, hM2, g1, g2, g3⟩ := s_ask n hC hM hn hR (xs (6 * n + 1)) (xs (6 * n + 2))
          exact lc_ask hL hi g1 g2 (next0 _ _ g3)
        · refine L_tswIn (off := 1098) (tgt := 1138) dL_law_40 (by omega) (by omega) (by rw [hq]; decide) (by decide) ?_
          obtain ⟨r, hC2, hM2, g1, g2, g3⟩ := s_always n hC hM hn hR (xs (6 * n + 1))
          exact lc_always hL hi g1 g2 (next0 _ _ g3)
        · refine L_tswIn (off := 1123) (tgt := 1163) dL_law_40 (by omega) (by omega) (by rw [hq]; decide) (by decide) ?_
          obtain ⟨r, hC2, hM2, g1, g2, g3⟩ := s_round n hC hM hn hR (xs (6 * n + 1))
          exact lc_round hL hi g1 g2 (next0 _ _ g3)
        · refine L_tswIn (off := 1148) (tgt := 1188) dL_law_40 (by omega) (by omega) (by rw [hq]; decide) (by decide) ?_
          obtain ⟨r, hC2, hM2, g1, g2, g3⟩ := s_meets n hC hM hn hR (xs (6 * n + 1)) (xs (6 * n + 2))
          exact lc_meets hL hi g1 g2 (next0 _ _ g3)
        · refine L_tswIn (off := 1185) (tgt := 1225) dL_law_40 (by omega) (by omega) (by rw [hq]; decide) (by decide) ?_
          obtain ⟨r, hC2, hM2, g1, g2, g3⟩ := s_game n hC hM hn hR (xs (6 * n + 1)) (xs (6 * n + 2)) (xs (6 * n + 3)) (xs (6 * n + 4)) (xs (6 * n + 5))
          exact lc_game hL hi g1 g2 (next0 _ _ g3)
        · refine L_tswIn (off := 1258) (tgt := 1298) dL_law_40 (by omega) (by omega) (by rw [hq]; decide) (by decide) ?_
          obtain ⟨r, hC2, hM2, g1, g2, g3⟩ := s_rests n hC hM hn hR (xs (6 * n + 1)) (xs (6 * n + 2)) (xs (6 * n + 3))
          exact lc_rests hL hi g1 g2 (next0 _ _ g3)
        · refine L_tswIn (off := 1307) (tgt := 1347) dL_law_40 (by omega) (by omega) (by rw [hq]; decide) (by decide) ?_
          obtain ⟨r, hC2, hM2, g1, g2, g3⟩ := s_odds n hC hM hn hR (xs (6 * n + 1)) (xs (6 * n + 2)) (xs (6 * n + 3))
          exact lc_odds hL hi g1 g2 (next0 _ _ g3)
        · refine L_tswIn (off := 1356) (tgt := 1396) dL_law_40 (by omega) (by omega) (by rw [hq]; decide) (by decide) ?_
          obtain ⟨r, hC2, hM2, g1, g2, g3⟩ := s_cost n hC hM hn hR (xs (6 * n + 1))
          exact lc_cost hL hi g1 g2 (next0 _ _ g3)
        · refine L_tswIn (off := 1381) (tgt := 1421) dL_law_40 (by omega) (by omega) (by rw [hq]; decide) (by decide) ?_
          obtain ⟨r, hC2, hM2, g1, g2, g3⟩ := s_all n hC hM hn hR (xs (6 * n + 1))
          exact lc_all hL hi g1 g2 (next0 _ _ g3)
        · refine L_tswIn (off := 1406) (tgt := 1446) dL_law_40 (by omega) (by omega) (by rw [hq]; decide) (by decide) ?_
          obtain ⟨r, hC2, hM2, g1, g2, g3⟩ := s_kinds n hC hM hn hR (xs (6 * n + 1))
          exact lc_kinds hL hi g1 g2 (next0 _ _ g3)
        · refine L_tswIn (off := 1431) (tgt := 1471) dL_law_40 (by omega) (by omega) (by rw [hq]; decide) (by decide) ?_
          obtain ⟨r, hC2, hM2, g1, g2, g3⟩ := s_calm n hC hM hn hR (xs (6 * n + 1))
          exact lc_calm hL hi g1 g2 (next0 _ _ g3)
        · refine L_tswIn (off := 1456) (tgt := 1496) dL_law_40 (by omega) (by omega) (by rw [hq]; decide) (by decide) ?_
          obtain ⟨r, hC2, hM2, g1, g2, g3⟩ := s_image n hC hM hn hR 
          exact lc_image hL hi g1 g2 (next0 _ _ g3)
        · refine L_tswIn (off := 1469) (tgt := 1509) dL_law_40 (by omega) (by omega) (by rw [hq]; decide) (by decide) ?_
          obtain ⟨r, hC2, hM2, g1, g2, g3⟩ := s_back n hC hM hn hR 
          exact lc_back hL hi g1 g2 (next0 _ _ g3)
        · refine L_tswIn (off := 1482) (tgt := 1522) dL_law_40 (by omega) (by omega) (by rw [hq]; decide) (by decide) ?_
          obtain ⟨r, hC2, hM2, g1, g2, g3⟩ := s_count n hC hM hn hR (xs (6 * n + 1))
          exact lc_count hL hi g1 g2 (next0 _ _ g3)
      · refine L_tswOut (tgt := 1547) dL_law_40 (Or.inr (by omega)) (by decide) ?_
        exact next0 hC hM (s_skip n hC hM hn hR)
