/-! PURE: images, what is undone, the LOG, and more that only looks -/
theorem sR_c {c m c' m' : Nat → Int32} (hc : ∀ k, k < 28 → c' k = c k) (hm : ∀ k, k < 209 → m' k = m k) (h : sR c m) : sR c' m' := by
  obtain ⟨a0, a1, a2, a3, a4, a5, a6, a7⟩ := h
  unfold sR
  rw [hc 0 (by omega), hc 1 (by omega), hc 2 (by omega), hc 3 (by omega), hc 4 (by omega), hc 5 (by omega), hc 6 (by omega), hm 21 (by omega), hm 22 (by omega), hm 23 (by omega), hm 24 (by omega), hm 25 (by omega), hm 26 (by omega), hm 27 (by omega)]
  refine ⟨a0, a1, a2, a3, a4, a5, a6, fun p hp => ?_⟩
  rw [hc (7 + p) (by omega), hc (14 + p) (by omega), hc (21 + p) (by omega), hm (3 * p + 2) (by omega), hm (3 * p) (by omega), hm (3 * p + 1) (by omega)]
  exact a7 p hp
theorem sW_c {np : Int32} {r : Nat → Int32} {K : Int} {c c' : Nat → Int32} (hc : ∀ k, k < 28 → c' k = c k) (h : sW np r K c) : sW np r K c' := by
  obtain ⟨a0, a1, a2, a3, a4, a5, a7⟩ := h
  unfold sW
  rw [hc 0 (by omega), hc 1 (by omega), hc 2 (by omega), hc 3 (by omega), hc 4 (by omega), hc 6 (by omega)]
  refine ⟨a0, a1, a2, a3, a4, a5, fun p hp => ?_⟩
  rw [hc (7 + p) (by omega), hc (14 + p) (by omega), hc (21 + p) (by omega)]
  exact a7 p hp
theorem gR_c {d d' c m c' m' : Nat → Int32} (hd : ∀ k, k < 300 → d' k = d k) (hc : c' 6 = c 6) (hm : ∀ k, k < 209 → m' k = m k) (h : gR d c m) : gR d' c' m' := by
  obtain ⟨a0, a1⟩ := h
  unfold gR
  rw [hc, hm 28 (by omega)]
  refine ⟨a0, fun i w hi hw => ?_⟩
  rw [hm _ (by omega), hd _ (by omega)]
  exact a1 i w hi hw
theorem cpy_at {h : dH} {a b sp dp n k : Nat} (h1 : dp ≤ k) (h2 : k < dp + n) : (dCpy h a b sp dp n).1 b k = h.1 a (sp + (k - dp)) := by
  rw [dCpy_r, if_pos ⟨rfl, h1, h2⟩]
theorem ok_image : st_image Rel := by
  intro n hC hM hn R
  have R1 := R.t0
  unfold aC_image aM_image f_X11_image f_X12_image
  rw [Option.bind_some]
  generalize dPut hM 0 0 0 = h1 at R1 ⊢
  simp only [C_isThere, R1.ct.np, decide_eq_true_eq]
  by_cases hp : 0 < (hC.1 3 2).toInt
  · have hp0 : ¬ hC.1 3 2 = 0 := fun z => by rw [z, t0] at hp; omega
    rw [if_pos hp, if_neg hp0, lp_image 209 dFu 0 0 h1 (fuel_lt (by omega)) rfl rfl]
    have e1 : f_X8_saveTo 74 28 0 hC = some (dCpy hC 67 74 0 0 28) := rfl
    rw [e1, Option.bind_some]
    have e2 : f_X4_copyFrom 75 72 (dCpy hC 67 74 0 0 28) = some (dCpy (dCpy hC 67 74 0 0 28) 73 76 0 0 300) := rfl
    rw [e2, Option.bind_some, Option.bind_some]
    obtain ⟨R0, R2, R3, R4, R5, R6, R7, R8, R9, R10, R11⟩ := Rel_mono R1
    have s6 : h1.1 11 27 = hC.1 67 6 := R6.1.2.2.2.2.2.2.1.symm
    refine ag (r := hC.1 67 6) (hC := dPut (dCpy (dCpy hC 67 74 0 0 28) 73 76 0 0 300) 0 15 1) (hM := dPut (dCpy h1 11 23 0 0 209) 0 54 1) rfl ?_ ?_
    · show some (h1.1 11 27, _) = _
      rw [s6]
    · have E1 : eqOn (fun a k => a != 74 && a != 76 && !(a == 0 && k == 15)) hC (dPut (dCpy (dCpy hC 67 74 0 0 28) 73 76 0 0 300) 0 15 1) := eqOn_pt (eqOn_cpy (eqOn_cpy eqOn_rf (fun _ => rfl)) (fun _ => rfl)) rfl
      refine ⟨Q1_e (eqOn_pt (eqOn_cpy (eqOn_cpy eqOn_rf (fun _ => rfl)) (fun _ => rfl)) rfl) (eqOn_pt (eqOn_cpy eqOn_rf (fun _ => rfl)) rfl) R0, Q2_e (eqOn_pt (eqOn_cpy (eqOn_cpy eqOn_rf (fun _ => rfl)) (fun _ => rfl)) rfl) (eqOn_pt (eqOn_cpy eqOn_rf (fun _ => rfl)) rfl) R2, Q3_e (eqOn_pt (eqOn_cpy (eqOn_cpy eqOn_rf (fun _ => rfl)) (fun _ => rfl)) rfl) (eqOn_pt (eqOn_cpy eqOn_rf (fun _ => rfl)) rfl) R3, mOK_e (eqOn_pt (eqOn_cpy eqOn_rf (fun _ => rfl)) rfl) rfl R4, Q5_e (eqOn_pt (eqOn_cpy (eqOn_cpy eqOn_rf (fun _ => rfl)) (fun _ => rfl)) rfl) (eqOn_pt (eqOn_cpy eqOn_rf (fun _ => rfl)) rfl) R5, Q6_e (eqOn_pt (eqOn_cpy (eqOn_cpy eqOn_rf (fun _ => rfl)) (fun _ => rfl)) rfl) (eqOn_pt (eqOn_cpy eqOn_rf (fun _ => rfl)) rfl) R6, Q7_e (eqOn_pt (eqOn_cpy (eqOn_cpy eqOn_rf (fun _ => rfl)) (fun _ => rfl)) rfl) (eqOn_pt (eqOn_cpy eqOn_rf (fun _ => rfl)) rfl) R7, ?_, Q9_e (eqOn_pt (eqOn_cpy (eqOn_cpy eqOn_rf (fun _ => rfl)) (fun _ => rfl)) rfl) (eqOn_pt (eqOn_cpy eqOn_rf (fun _ => rfl)) rfl) R9, Q10_e (eqOn_pt (eqOn_cpy (eqOn_cpy eqOn_rf (fun _ => rfl)) (fun _ => rfl)) rfl) (eqOn_pt (eqOn_cpy eqOn_rf (fun _ => rfl)) rfl) R10, dXt_e (eqOn_pt (eqOn_cpy (eqOn_cpy eqOn_rf (fun _ => rfl)) (fun _ => rfl)) rfl) R11⟩
      have c74 : ∀ k, k < 28 → (dPut (dCpy (dCpy hC 67 74 0 0 28) 73 76 0 0 300) 0 15 1).1 74 k = hC.1 67 k := fun k hk => by
        rw [dPut_ne (by omega), dCpy_ne (by omega), cpy_at (by omega) (by omega)]
        rw [show 0 + (k - 0) = k by omega]
      have c76 : ∀ k, k < 300 → (dPut (dCpy (dCpy hC 67 74 0 0 28) 73 76 0 0 300) 0 15 1).1 76 k = hC.1 73 k := fun k hk => by
        rw [dPut_ne (by omega), cpy_at (by omega) (by omega), dCpy_ne (by omega)]
        rw [show 0 + (k - 0) = k by omega]
      have m23 : ∀ k, k < 209 → (dPut (dCpy h1 11 23 0 0 209) 0 54 1).1 23 k = h1.1 11 k := fun k hk => by
        rw [dPut_ne (by omega), cpy_at (by omega) (by omega)]
        rw [show 0 + (k - 0) = k by omega]
      have c4 : (dPut (dCpy (dCpy hC 67 74 0 0 28) 73 76 0 0 300) 0 15 1).1 4 = hC.1 4 := funext fun k => E1 4 k rfl
      rw [E1 3 2 rfl, c4]
      refine ⟨rfl, Or.inr rfl, fun _ => ⟨hp, sR_c c74 m23 R6.1, sW_c c74 R6.2.1, gR_c c76 (c74 6 (by omega)) m23 R6.2.2⟩⟩
  · have hp0 : hC.1 3 2 = 0 := by rw [i_eq, t0]; have := R1.ct.ge; omega
    rw [if_neg hp, if_pos hp0]
    exact ag rfl rfl (Rel_mono R1)
theorem ok_back : st_back Rel := by
  intro n hC hM hn R
  have R1 := R.t0
  unfold aC_back aM_back f_X11_back f_X12_back
  rw [Option.bind_some]
  generalize dPut hM 0 0 0 = h1 at R1 ⊢
  obtain ⟨i1, i2, i3⟩ := R1.im
  rw [← i1]
  by_cases h0 : hC.1 0 15 = 0
  · rw [if_pos h0, if_pos h0]
    exact ag rfl rfl (Rel_mono R1)
  · rw [if_neg h0, if_neg h0, lp_back 209 dFu 0 0 h1 (fuel_lt (by omega)) rfl rfl]
    have i4 := i3 (by rcases i2 with q | q; exact absurd q h0; exact q)
    have e1 : f_X8_loadFrom 66 74 28 0 hC = some (dCpy hC 74 67 0 0 28) := rfl
    rw [e1, Option.bind_some]
    have e2 : f_X4_copyFrom 72 75 (dCpy hC 74 67 0 0 28) = some (dCpy (dCpy hC 74 67 0 0 28) 76 73 0 0 300) := rfl
    rw [e2, Option.bind_some]
    obtain ⟨R0, R2, R3, R4, R5, R6, R7, R8, R9, R10, R11⟩ := Rel_mono R1
    have j4 := R8.2.2 (by rcases i2 with q | q; exact absurd q h0; exact q)
    have c67 : ∀ k, k < 28 → (dPut (dCpy (dCpy hC 74 67 0 0 28) 76 73 0 0 300) 70 0 0).1 67 k = hC.1 74 k := fun k hk => by
      rw [dPut_ne (by omega), dCpy_ne (by omega), cpy_at (by omega) (by omega)]
      rw [show 0 + (k - 0) = k by omega]
    have c73 : ∀ k, k < 300 → (dPut (dCpy (dCpy hC 74 67 0 0 28) 76 73 0 0 300) 70 0 0).1 73 k = hC.1 76 k := fun k hk => by
      rw [dPut_ne (by omega), cpy_at (by omega) (by omega), dCpy_ne (by omega)]
      rw [show 0 + (k - 0) = k by omega]
    have m11 : ∀ k, k < 209 → (dPut (dCpy h1 23 11 0 0 209) 0 35 0).1 11 k = h1.1 23 k := fun k hk => by
      rw [dPut_ne (by omega), cpy_at (by omega) (by omega)]
      rw [show 0 + (k - 0) = k by omega]
    refine ag (r := hC.1 74 6) (hC := dPut (dCpy (dCpy hC 74 67 0 0 28) 76 73 0 0 300) 70 0 0) (hM := dPut (dCpy h1 23 11 0 0 209) 0 35 0) ?_ ?_ ?_
    · show some ((dPut (dCpy (dCpy hC 74 67 0 0 28) 76 73 0 0 300) 70 0 0).1 67 6, _) = _
      rw [c67 6 (by omega)]
    · show some ((dPut (dCpy h1 23 11 0 0 209) 0 35 0).1 11 27, _) = _
      rw [m11 27 (by omega), i4.2.1.2.2.2.2.2.2.1]
    · have E1 : eqOn (fun a k => a != 67 && a != 73 && !(a == 70 && k == 0)) hC (dPut (dCpy (dCpy hC 74 67 0 0 28) 76 73 0 0 300) 70 0 0) := eqOn_pt (eqOn_cpy (eqOn_cpy eqOn_rf (fun _ => rfl)) (fun _ => rfl)) rfl
      have c4 : (dPut (dCpy (dCpy hC 74 67 0 0 28) 76 73 0 0 300) 70 0 0).1 4 = hC.1 4 := funext fun k => E1 4 k rfl
      refine ⟨Q1_e (eqOn_pt (eqOn_cpy (eqOn_cpy eqOn_rf (fun _ => rfl)) (fun _ => rfl)) rfl) (eqOn_pt (eqOn_cpy eqOn_rf (fun _ => rfl)) rfl) R0, Q2_e (eqOn_pt (eqOn_cpy (eqOn_cpy eqOn_rf (fun _ => rfl)) (fun _ => rfl)) rfl) (eqOn_pt (eqOn_cpy eqOn_rf (fun _ => rfl)) rfl) R2, Q3_e (eqOn_pt (eqOn_cpy (eqOn_cpy eqOn_rf (fun _ => rfl)) (fun _ => rfl)) rfl) (eqOn_pt (eqOn_cpy eqOn_rf (fun _ => rfl)) rfl) R3, mOK_e (eqOn_pt (eqOn_cpy eqOn_rf (fun _ => rfl)) rfl) rfl R4, Q5_e (eqOn_pt (eqOn_cpy (eqOn_cpy eqOn_rf (fun _ => rfl)) (fun _ => rfl)) rfl) (eqOn_pt (eqOn_cpy eqOn_rf (fun _ => rfl)) rfl) R5, ?_, ?_, Q8_e (eqOn_pt (eqOn_cpy (eqOn_cpy eqOn_rf (fun _ => rfl)) (fun _ => rfl)) rfl) (eqOn_pt (eqOn_cpy eqOn_rf (fun _ => rfl)) rfl) R8, Q9_e (eqOn_pt (eqOn_cpy (eqOn_cpy eqOn_rf (fun _ => rfl)) (fun _ => rfl)) rfl) (eqOn_pt (eqOn_cpy eqOn_rf (fun _ => rfl)) rfl) R9, Q10_e (eqOn_pt (eqOn_cpy (eqOn_cpy eqOn_rf (fun _ => rfl)) (fun _ => rfl)) rfl) (eqOn_pt (eqOn_cpy eqOn_rf (fun _ => rfl)) rfl) R10, dXt_e (eqOn_pt (eqOn_cpy (eqOn_cpy eqOn_rf (fun _ => rfl)) (fun _ => rfl)) rfl) R11⟩
      · rw [E1 3 2 rfl, c4]
        exact ⟨sR_c c67 m11 j4.2.1, sW_c c67 j4.2.2.1, gR_c c73 (c67 6 (by omega)) m11 j4.2.2.2⟩
      · rw [E1 3 2 rfl, c4, E1 70 2 rfl, dPut_at, dPut_at]
        exact ⟨rfl, ⟨by decide, by decide⟩, R7.2.2.1, fun i hi => by rw [t0] at hi; omega, fun i hi => by rw [t0] at hi; omega⟩
theorem mul28 {q : Int32} {c : Nat} (hq : q.toInt = c) (hc : c < 40) : (q * 28).toInt = ((28 * c : Nat) : Int) := by
  have k28 : (28 : Int32).toInt = 28 := rfl
  rw [i_mul (by rw [hq, k28]; omega), hq, k28]
  omega
theorem C_load {h : dH} {q : Int32} {c : Nat} (hq : q.toInt = c) (hc : c < 40) : f_X8_loadFrom 66 71 1120 (q * 28) h = some (dCpy h 71 67 (28 * c) 0 28) := by
  have e := mul28 hq hc
  have k28 : (28 : Int32).toInt = 28 := rfl
  have k1120 : (Int32.ofNat 1120).toInt = 1120 := rfl
  have d1 : dI (q * 28) = 28 * c := dI_of e
  unfold f_X8_loadFrom
  rw [if_neg (by rw [i_lt, t0, e]; omega), if_neg (by rw [i_lt, k1120, i_add (by rw [e, k28]; omega), e, k28]; omega), if_pos (by refine ⟨by rw [e]; omega, by decide, by decide, ?_, by decide⟩; rw [d1]; show 28 * c + 28 ≤ 1120; omega), d1]
  rfl
theorem C_save {h : dH} {q : Int32} {c : Nat} (hq : q.toInt = c) (hc : c < 40) : f_X8_saveTo 71 1120 (q * 28) h = some (dCpy h 67 71 0 (28 * c) 28) := by
  have e := mul28 hq hc
  have k28 : (28 : Int32).toInt = 28 := rfl
  have k1120 : (Int32.ofNat 1120).toInt = 1120 := rfl
  have d1 : dI (q * 28) = 28 * c := dI_of e
  unfold f_X8_saveTo
  rw [if_neg (by rw [i_lt, t0, e]; omega), if_neg (by rw [i_lt, k1120, i_add (by rw [e, k28]; omega), e, k28]; omega), if_pos (by refine ⟨by decide, by rw [e]; omega, by decide, by decide, ?_⟩; rw [d1]; show 28 * c + 28 ≤ 1120; omega), d1]
  rfl
theorem ok_undo : st_undo Rel := by
  intro n hC hM hn R
  have R1 := R.t0
  unfold aC_undo aM_undo f_X11_undo f_X12_undo f_X0_takeBack
  rw [Option.bind_some]
  generalize dPut hM 0 0 0 = h1 at R1 ⊢
  obtain ⟨u1, u2, u3, u4, u5⟩ := R1.un
  rw [← u1]
  by_cases h0 : hC.1 70 0 = 0
  · rw [if_pos h0, if_pos h0]
    exact ag rfl rfl (Rel_mono R1)
  · rw [if_neg h0, if_neg h0, Option.bind_some]
    have hn0 : 0 < (hC.1 70 0).toInt := by rw [i_eq, t0] at h0; have := u2.1; omega
    have hn1 := u2.2
    have hx0 := u3.1
    have hx1 := u3.2
    have dn := dI_c u2.1
    have dx := dI_c u3.1
    -- the slot that is taken back
    obtain ⟨z1, c, hz, hzc, hcase⟩ : ∃ (z1 : Int32) (c : Nat), (if 0 < hC.1 70 2 then f_X0_takeBack_J28 (hC.1 70 2 - 1) hC else f_X0_takeBack_J28 39 hC) = f_X0_takeBack_J28 z1 hC ∧ z1.toInt = c ∧ (c < 40 ∧ c = (dI (hC.1 70 2) + 39) % 40) := by
      by_cases q : 0 < hC.1 70 2
      · rw [if_pos q]
        rw [i_lt, t0] at q
        refine ⟨_, dI (hC.1 70 2) - 1, rfl, ?_, by omega, by omega⟩
        rw [i_sub (by rw [t1]; omega), t1]
        omega
      · rw [if_neg q]
        rw [i_lt, t0] at q
        exact ⟨39, 39, rfl, rfl, by omega, by omega⟩
    rw [hz]
    have hk : (h1.1 0 35).toInt = (hC.1 70 0).toInt := by rw [← u1]
    have ek : (hC.1 70 0 - 1).toInt = ((dI (hC.1 70 0) - 1 : Nat) : Int) := by rw [i_sub (by rw [t1]; omega), t1]; omega
    have eC : f_X0_takeBack_J28 z1 hC = some (hC.1 70 0 - 1, dPut (dCpy (dPut hC 70 2 z1) 71 67 (28 * c) 0 28) 70 0 (hC.1 70 0 - 1)) := by
      unfold f_X0_takeBack_J28
      rw [Option.bind_some, dPut_at, C_load hzc hcase.1, Option.bind_some, dPut_at, dCpy_ne (by omega), dPut_ne (by omega)]
    rw [eC, Option.bind_some, lp_undo 209 dFu 0 (dI (hC.1 70 0) - 1) 0 _ (fuel_lt (by omega)) rfl rfl (by rw [dPut_at]; exact ek) (by omega)]
    obtain ⟨R0, R2, R3, R4, R5, R6, R7, R8, R9, R10, R11⟩ := Rel_mono R1
    obtain ⟨v1, v2, v3, v4, v5⟩ := R7
    have esl : uSlot (dI (hC.1 70 0)) (dI (hC.1 70 2)) (dI (hC.1 70 0) - 1) = c := by unfold uSlot; omega
    have w4 := v4 (dI (hC.1 70 0) - 1) (by omega)
    rw [esl] at w4
    have c67 : ∀ k, k < 28 → (dPut (dCpy (dPut hC 70 2 z1) 71 67 (28 * c) 0 28) 70 0 (hC.1 70 0 - 1)).1 67 k = uC (hC.1 71) c k := fun k hk => by
      rw [dPut_ne (by omega), cpy_at (by omega) (by omega), dPut_ne (by omega)]
      rfl
    have m11 : ∀ k, k < 209 → (dCpy (dPut h1 0 35 (hC.1 70 0 - 1)) 15 11 (209 * (dI (hC.1 70 0) - 1) + 0) 0 209).1 11 k = uM (h1.1 15) (dI (hC.1 70 0) - 1) k := fun k hk => by
      rw [cpy_at (by omega) (by omega), dPut_ne (by omega)]
      rfl
    refine ag (r := hC.1 70 0 - 1) (hM := dCpy (dPut h1 0 35 (hC.1 70 0 - 1)) 15 11 (209 * (dI (hC.1 70 0) - 1) + 0) 0 209) rfl ?_ ?_
    · show some ((dCpy (dPut h1 0 35 (hC.1 70 0 - 1)) 15 11 (209 * (dI (hC.1 70 0) - 1) + 0) 0 209).1 0 35, _) = _
      rw [dCpy_ne (by omega), dPut_at]
    · have E1 : eqOn (fun a k => a != 67 && !(a == 70)) hC (dPut (dCpy (dPut hC 70 2 z1) 71 67 (28 * c) 0 28) 70 0 (hC.1 70 0 - 1)) := eqOn_pt (eqOn_cpy (eqOn_pt eqOn_rf rfl) (fun _ => rfl)) rfl
      have c4 : (dPut (dCpy (dPut hC 70 2 z1) 71 67 (28 * c) 0 28) 70 0 (hC.1 70 0 - 1)).1 4 = hC.1 4 := funext fun k => E1 4 k rfl
      have c73 : (dPut (dCpy (dPut hC 70 2 z1) 71 67 (28 * c) 0 28) 70 0 (hC.1 70 0 - 1)).1 73 = hC.1 73 := funext fun k => E1 73 k rfl
      have c71 : (dPut (dCpy (dPut hC 70 2 z1) 71 67 (28 * c) 0 28) 70 0 (hC.1 70 0 - 1)).1 71 = hC.1 71 := funext fun k => E1 71 k rfl
      have m15 : (dCpy (dPut h1 0 35 (hC.1 70 0 - 1)) 15 11 (209 * (dI (hC.1 70 0) - 1) + 0) 0 209).1 15 = h1.1 15 := funext fun k => by rw [dCpy_ne (by omega), dPut_ne (by omega)]
      refine ⟨Q1_e (eqOn_pt (eqOn_cpy (eqOn_pt eqOn_rf rfl) (fun _ => rfl)) rfl) (eqOn_cpy (eqOn_pt eqOn_rf rfl) (fun _ => rfl)) R0, Q2_e (eqOn_pt (eqOn_cpy (eqOn_pt eqOn_rf rfl) (fun _ => rfl)) rfl) (eqOn_cpy (eqOn_pt eqOn_rf rfl) (fun _ => rfl)) R2, Q3_e (eqOn_pt (eqOn_cpy (eqOn_pt eqOn_rf rfl) (fun _ => rfl)) rfl) (eqOn_cpy (eqOn_pt eqOn_rf rfl) (fun _ => rfl)) R3, mOK_e (eqOn_cpy (eqOn_pt eqOn_rf rfl) (fun _ => rfl)) rfl R4, Q5_e (eqOn_pt (eqOn_cpy (eqOn_pt eqOn_rf rfl) (fun _ => rfl)) rfl) (eqOn_cpy (eqOn_pt eqOn_rf rfl) (fun _ => rfl)) R5, ?_, ?_, Q8_e (eqOn_pt (eqOn_cpy (eqOn_pt eqOn_rf rfl) (fun _ => rfl)) rfl) (eqOn_cpy (eqOn_pt eqOn_rf rfl) (fun _ => rfl)) R8, Q9_e (eqOn_pt (eqOn_cpy (eqOn_pt eqOn_rf rfl) (fun _ => rfl)) rfl) (eqOn_cpy (eqOn_pt eqOn_rf rfl) (fun _ => rfl)) R9, Q10_e (eqOn_pt (eqOn_cpy (eqOn_pt eqOn_rf rfl) (fun _ => rfl)) rfl) (eqOn_cpy (eqOn_pt eqOn_rf rfl) (fun _ => rfl)) R10, dXt_e (eqOn_pt (eqOn_cpy (eqOn_pt eqOn_rf rfl) (fun _ => rfl)) rfl) R11⟩
      · rw [E1 3 2 rfl, c4, c73]
        exact ⟨sR_c c67 m11 w4.1, sW_c c67 w4.2.1, gR_c (fun _ _ => rfl) (c67 6 (by omega)) m11 w4.2.2⟩
      · rw [E1 3 2 rfl, c4, c73, dPut_at, c71, m15]
        have e70 : (dPut (dCpy (dPut hC 70 2 z1) 71 67 (28 * c) 0 28) 70 0 (hC.1 70 0 - 1)).1 70 2 = z1 := by rw [dPut_ne (by omega), dCpy_ne (by omega), dPut_at]
        have e35 : (dCpy (dPut h1 0 35 (hC.1 70 0 - 1)) 15 11 (209 * (dI (hC.1 70 0) - 1) + 0) 0 209).1 0 35 = hC.1 70 0 - 1 := by rw [dCpy_ne (by omega), dPut_at]
        rw [e70, e35]
        have dn1 : dI (hC.1 70 0 - 1) = dI (hC.1 70 0) - 1 := dI_of ek
        have dz : dI z1 = c := dI_of hzc
        have sl : ∀ i, i < dI (hC.1 70 0) - 1 + 1 → uSlot (dI (hC.1 70 0) - 1) c i = uSlot (dI (hC.1 70 0)) (dI (hC.1 70 2)) i := fun i hi => by unfold uSlot; omega
        refine ⟨rfl, ⟨by omega, by omega⟩, ⟨by omega, by omega⟩, fun i hi => ?_, fun i hi e he => ?_⟩
        · rw [dn1, dz, sl i (by omega)]
          exact v4 i (by omega)
        · rw [dn1, dz] at he ⊢
          rw [sl i (by omega)]
          refine v5 i (by omega) e ?_
          rw [if_neg (by omega)]
          by_cases q : i + 1 = dI (hC.1 70 0) - 1
          · rw [if_pos q, c67 6 (by omega)] at he
            rw [he, q, esl]
          · rw [if_neg q, sl (i + 1) (by omega)] at he
            exact he
