/-! PURE: the calls that only look -/
theorem ag {P : dH → dH → Prop} {oC oM : Option (Int32 × dH)} {r : Int32} {hC hM : dH} (h1 : oC = some (r, hC)) (h2 : oM = some (r, hM)) (hP : P hC hM) : dAg P oC oM := ⟨r, hC, hM, h1, h2, hP⟩
section EZ
variable {n : Nat} {K : Int} {hC hM : dH} {x y w : Int32}
theorem Rel.ct (R : Rel n hC hM) : Ct hC hM := R.2.1
theorem Rel.t0 (R : Rel n hC hM) : Rel n hC (dPut hM 0 0 0) := Rel_e R (eC_rf _) (eM_put rfl (by decide))
theorem Rel.law (R : Rel n hC hM) : hM.1 0 7 = hC.1 42 1 ∧ hM.1 0 30 = hC.1 42 2 ∧ bt 0 4 (hC.1 42 1) := ⟨R.2.2.1.1.symm, R.2.2.1.2.1.symm, R.2.2.1.2.2.1⟩
theorem Rel.day (R : Rel n hC hM) : rDays (hC.1 52 0) (hM.1 0 26) (cWh hC) (cDg hC) (hC.1 65) (hM.1 9) (hM.1 10) := R.2.2.2.2.1
theorem Rel.sr (R : Rel n hC hM) : sR (hC.1 67) (hM.1 11) := R.2.2.2.2.2.1.1
theorem Rel.sw (R : Rel n hC hM) : sW (hC.1 3 2) (hC.1 4) (60 * n) (hC.1 67) := R.2.2.2.2.2.1.2.1
theorem Rel.gr (R : Rel n hC hM) : gR (hC.1 73) (hC.1 67) (hM.1 11) := R.2.2.2.2.2.1.2.2
theorem Rel.un (R : Rel n hC hM) : rUndo (hC.1 3 2) (hC.1 4) (60 * n) (hC.1 73) (hC.1 70 0) (hC.1 70 2) (hC.1 71) (hC.1 67) (hM.1 0 35) (hM.1 15) := R.2.2.2.2.2.2.1
theorem Rel.im (R : Rel n hC hM) : rImage (hC.1 3 2) (hC.1 4) (60 * n) (hC.1 0 15) (hM.1 0 54) (hC.1 74) (hC.1 76) (hM.1 23) := R.2.2.2.2.2.2.2.1
theorem Rel.pu (R : Rel n hC hM) : rPuts (hC.1 3 2) (hC.1 77 0) (hM.1 0 47) (hC.1 78) (hC.1 79) (hC.1 80) (hM.1 17) (hM.1 18) (hM.1 21) := R.2.2.2.2.2.2.2.2.1
theorem Rel.go (R : Rel n hC hM) : hC.1 0 16 = hM.1 0 31 ∧ bt 0 9 (hC.1 0 16) := R.2.2.2.2.2.2.2.2.2.1
theorem Rel.xt (R : Rel n hC hM) : dXt hC := R.2.2.2.2.2.2.2.2.2.2
theorem RelK.ct (R : RelK K hC hM) : Ct hC hM := R.2.1
theorem RelK.t0 (R : RelK K hC hM)   : RelK K hC (dPut hM 0 0 0) := RelK_e R (eC_rf _) (eM_put rfl (by decide))
theorem RelK.law (R : RelK K hC hM) : hM.1 0 7 = hC.1 42 1 ∧ hM.1 0 30 = hC.1 42 2 ∧ bt 0 4 (hC.1 42 1) := ⟨R.2.2.1.1.symm, R.2.2.1.2.1.symm, R.2.2.1.2.2.1⟩
theorem RelK.day (R : RelK K hC hM) : rDays (hC.1 52 0) (hM.1 0 26) (cWh hC) (cDg hC) (hC.1 65) (hM.1 9) (hM.1 10) := R.2.2.2.2.1
theorem RelK.sr (R : RelK K hC hM) : sR (hC.1 67) (hM.1 11) := R.2.2.2.2.2.1.1
theorem RelK.sw (R : RelK K hC hM) : sW (hC.1 3 2) (hC.1 4) K (hC.1 67) := R.2.2.2.2.2.1.2.1
theorem RelK.gr (R : RelK K hC hM) : gR (hC.1 73) (hC.1 67) (hM.1 11) := R.2.2.2.2.2.1.2.2
theorem RelK.un (R : RelK K hC hM) : rUndo (hC.1 3 2) (hC.1 4) K (hC.1 73) (hC.1 70 0) (hC.1 70 2) (hC.1 71) (hC.1 67) (hM.1 0 35) (hM.1 15) := R.2.2.2.2.2.2.1
theorem RelK.im (R : RelK K hC hM) : rImage (hC.1 3 2) (hC.1 4) K (hC.1 0 15) (hM.1 0 54) (hC.1 74) (hC.1 76) (hM.1 23) := R.2.2.2.2.2.2.2.1
theorem RelK.pu (R : RelK K hC hM) : rPuts (hC.1 3 2) (hC.1 77 0) (hM.1 0 47) (hC.1 78) (hC.1 79) (hC.1 80) (hM.1 17) (hM.1 18) (hM.1 21) := R.2.2.2.2.2.2.2.2.1
theorem RelK.go (R : RelK K hC hM) : hC.1 0 16 = hM.1 0 31 ∧ bt 0 9 (hC.1 0 16) := R.2.2.2.2.2.2.2.2.2.1
theorem RelK.xt (R : RelK K hC hM) : dXt hC := R.2.2.2.2.2.2.2.2.2.2
theorem C_isThere : f_X1_isThere hC = decide (0 < (hC.1 3 2).toInt) := by
  unfold f_X1_isThere
  by_cases h : 0 < hC.1 3 2
  · rw [if_pos h, decide_eq_true (by rw [i_lt] at h; exact h)]
  · rw [if_neg h, decide_eq_false (by rw [i_lt] at h; exact h)]
theorem C_isKept : f_X3_isKept x hC = decide (0 ≤ x.toInt ∧ x.toInt < (hC.1 52 0).toInt) := by
  unfold f_X3_isKept
  simp only [i_lt, t0]
  by_cases h1 : x.toInt < 0
  · rw [if_pos h1]
    exact (decide_eq_false (by omega)).symm
  · rw [if_neg h1]
    by_cases h2 : x.toInt < (hC.1 52 0).toInt
    · rw [if_pos h2]
      exact (decide_eq_true (by omega)).symm
    · rw [if_neg h2]
      exact (decide_eq_false (by omega)).symm
theorem M_isPlan : f_X12_isPlan x hM = decide (0 ≤ x.toInt ∧ x.toInt < (hM.1 0 26).toInt) := by
  unfold f_X12_isPlan
  simp only [i_lt, t0]
  by_cases h1 : x.toInt < 0
  · rw [if_pos h1]
    exact (decide_eq_false (by omega)).symm
  · rw [if_neg h1]
    by_cases h2 : x.toInt < (hM.1 0 26).toInt
    · rw [if_pos h2]
      exact (decide_eq_true (by omega)).symm
    · rw [if_neg h2]
      exact (decide_eq_false (by omega)).symm
theorem tn {k : Nat} (h : k < 2147483648) : (OfNat.ofNat k : Int32).toInt = k := i_ofNat h
theorem Rel.at' (R : Rel n hC hM) (hp : 0 < (hC.1 3 2).toInt) : Pl' hC (hC.1 67 0) := by
  rcases R.sw.1 with q | q
  · exact q
  · exact ⟨by omega, by omega⟩
theorem RelK.at' (R : RelK K hC hM) (hp : 0 < (hC.1 3 2).toInt) : Pl' hC (hC.1 67 0) := by
  rcases R.sw.1 with q | q
  · exact q
  · exact ⟨by omega, by omega⟩
theorem ok_rule : st_rule Rel := by
  intro n hC hM hn R x
  have R1 := R.t0
  unfold aC_rule aM_rule f_X11_rule f_X12_rule
  rw [Option.bind_some]
  generalize dPut hM 0 0 0 = h1 at R1 ⊢
  have h2 : (2 : Int32).toInt = 2 := rfl
  have k0 : (0 : Int64).toInt = 0 := rfl
  have k2 : (2 : Int64).toInt = 2 := rfl
  have fin : ∀ v : Int32, dAg (Rel (n + 1)) (Option.map (fun v => (v, hC)) (some v)) (some (v, h1)) := fun v => ag rfl rfl (Rel_mono R1)
  simp only [C_isThere, M_isIn, R1.ct.np, i_lt, t0, h2, k0, k2, decide_eq_true_eq]
  by_cases hp : 0 < (hC.1 3 2).toInt
  · simp only [hp, ↓reduceIte]
    by_cases a : 0 ≤ x.toInt ∧ x.toInt ≤ 2
    · have a1 : ¬ x.toInt < 0 := by omega
      have a2 : ¬ 2 < x.toInt := by omega
      have a3 : dIn x 3 := ⟨by omega, by omega⟩
      rw [if_neg a1, if_neg a2, if_pos a3, if_pos a, if_pos a3, R1.ct.2.2.1 (dI x) (by have := dI_c (x := x) (by omega); omega)]
      exact fin _
    · rw [if_neg a]
      by_cases a1 : x.toInt < 0
      · rw [if_pos a1]
        exact fin _
      · have a2 : 2 < x.toInt := by omega
        rw [if_neg a1, if_pos a2]
        exact fin _
  · simp only [hp, ↓reduceIte]
    exact fin _
theorem ok_end : st_end Rel := by
  intro n hC hM hn R x
  have R1 := R.t0
  unfold aC_end aM_end f_X11_end f_X12_end
  rw [Option.bind_some]
  generalize dPut hM 0 0 0 = h1 at R1 ⊢
  rw [show h1.1 0 6 = hC.1 1 1 from R1.1.1.symm]
  by_cases a1 : x < 0
  · rw [if_pos a1, if_pos a1]
    exact ag rfl rfl (Rel_mono R1)
  · rw [if_neg a1, if_neg a1]
    by_cases a2 : hC.1 1 1 < x
    · rw [if_pos a2, if_pos a2]
      exact ag rfl rfl (Rel_mono R1)
    · rw [if_neg a2, if_neg a2]
      rw [i_lt] at a1 a2
      obtain ⟨⟨b1, b2, b3⟩, R2, R3, R4, R5, R6, R7, R8, R9, R10, R11⟩ := R1
      have put : Rel n (dPut hC 1 1 x) (dPut h1 0 6 x) := by
        refine ⟨⟨rfl, ⟨?_, ?_⟩, fun k hk => ?_⟩, Q2_e (eqOn_put rfl) (eqOn_put rfl) R2, Q3_e (eqOn_put rfl) (eqOn_put rfl) R3, mOK_e (eqOn_put rfl) rfl R4, Q5_e (eqOn_put rfl) (eqOn_put rfl) R5, Q6_e (eqOn_put rfl) (eqOn_put rfl) R6, Q7_e (eqOn_put rfl) (eqOn_put rfl) R7, Q8_e (eqOn_put rfl) (eqOn_put rfl) R8, Q9_e (eqOn_put rfl) (eqOn_put rfl) R9, Q10_e (eqOn_put rfl) (eqOn_put rfl) R10, dXt_e (eqOn_put rfl) R11⟩
        · rw [dPut_at]; have h0 := t0; omega
        · rw [dPut_at]; have := b2.2; omega
        · rw [dPut_at] at hk
          exact b3 k (by omega)
      exact ag rfl rfl (Rel_mono put)
theorem ok_gout : st_gout Rel := by
  intro n hC hM hn R x
  have R1 := R.t0
  unfold aC_gout aM_gout f_X11_gout f_X12_gout
  rw [Option.bind_some]
  generalize dPut hM 0 0 0 = h1 at R1 ⊢
  have k0 : (0 : Int64).toInt = 0 := rfl
  have k2 : (9 : Int64).toInt = 9 := rfl
  have k9 : (9 : Int32).toInt = 9 := rfl
  simp only [M_isIn, i_lt, t0, k9, k0, k2, decide_eq_true_eq, ← R1.go.1]
  by_cases a : 0 ≤ x.toInt ∧ x.toInt ≤ 9
  · have a1 : ¬ x.toInt < 0 := by omega
    have a2 : ¬ 9 < x.toInt := by omega
    rw [if_neg a1, if_neg a2, if_pos a]
    by_cases a3 : x = hC.1 0 16
    · rw [if_pos a3, if_pos a3]
      exact ag rfl rfl (Rel_mono R1)
    · rw [if_neg a3, if_neg a3]
      obtain ⟨R0, R2, R3, R4, R5, R6, R7, R8, R9, R10, R11⟩ := R1
      have put : Rel n (dPut hC 0 16 x) (dPut h1 0 31 x) := by
        refine ⟨Q1_e (eqOn_put rfl) (eqOn_put rfl) R0, Q2_e (eqOn_put rfl) (eqOn_put rfl) R2, Q3_e (eqOn_put rfl) (eqOn_put rfl) R3, mOK_e (eqOn_put rfl) rfl R4, Q5_e (eqOn_put rfl) (eqOn_put rfl) R5, Q6_e (eqOn_put rfl) (eqOn_put rfl) R6, Q7_e (eqOn_put rfl) (eqOn_put rfl) R7, Q8_e (eqOn_put rfl) (eqOn_put rfl) R8, Q9_e (eqOn_put rfl) (eqOn_put rfl) R9, ⟨rfl, ?_⟩, dXt_e (eqOn_put rfl) R11⟩
        rw [dPut_at]
        exact a
      exact ag rfl rfl (Rel_mono put)
  · rw [if_neg a]
    by_cases a1 : x.toInt < 0
    · rw [if_pos a1]
      exact ag rfl rfl (Rel_mono R1)
    · have a2 : 9 < x.toInt := by omega
      rw [if_neg a1, if_pos a2]
      exact ag rfl rfl (Rel_mono R1)
theorem ok_law : st_law Rel := by
  intro n hC hM hn R x
  have R1 := R.t0
  unfold aC_law aM_law f_X11_law f_X12_law
  rw [Option.bind_some]
  generalize dPut hM 0 0 0 = h1 at R1 ⊢
  obtain ⟨e1, e2, e3⟩ := R1.law
  have h3 := e3.1
  have h4 := e3.2
  have put : ∀ v : Int32, (-1 ≤ v.toInt ∧ v.toInt < (hC.1 42 1).toInt ∨ v.toInt = -1) → Rel n (dPut hC 42 2 v) (dPut h1 0 30 v) := fun v hv => by
    obtain ⟨R0, R2, R3, R4, R5, R6, R7, R8, R9, R10, R11⟩ := R1
    obtain ⟨b1, b2, b3, b4, b5⟩ := R3
    refine ⟨Q1_e (eqOn_put rfl) (eqOn_put rfl) R0, Q2_e (eqOn_put rfl) (eqOn_put rfl) R2, ?_, mOK_e (eqOn_put rfl) rfl R4, Q5_e (eqOn_put rfl) (eqOn_put rfl) R5, Q6_e (eqOn_put rfl) (eqOn_put rfl) R6, Q7_e (eqOn_put rfl) (eqOn_put rfl) R7, Q8_e (eqOn_put rfl) (eqOn_put rfl) R8, Q9_e (eqOn_put rfl) (eqOn_put rfl) R9, Q10_e (eqOn_put rfl) (eqOn_put rfl) R10, dXt_e (eqOn_put rfl) R11⟩
    have ec : cCo (dPut hC 42 2 v) = cCo hC := funext fun p => funext fun k => by
      unfold cCo
      by_cases hp : p < 4
      · rw [if_pos hp, if_pos hp, dPut_ne (by omega)]
      · rw [if_neg hp, if_neg hp]
    rw [dPut_at, dPut_at, dPut_ne (by omega), dPut_ne (by omega), ec, dPut_row_ne _ _ _ (by decide), dPut_row_ne _ _ _ (by decide), dPut_row_ne _ _ _ (by decide)]
    exact ⟨b1, rfl, b3, hv, b5⟩
  by_cases a0 : x = -1
  · rw [if_pos a0, if_pos a0]
    exact ag rfl rfl (Rel_mono (put x (Or.inr (by rw [a0]; rfl))))
  · rw [if_neg a0, if_neg a0, M_isIn, e1]
    have k0 : (0 : Int64).toInt = 0 := rfl
    have k1 : (hC.1 42 1 - 1).toInt = (hC.1 42 1).toInt - 1 := i_sub (by rw [t1]; omega)
    rw [l_ofI, k1, k0]
    by_cases a1 : x < 0
    · rw [if_pos a1, if_neg (by rw [i_lt, t0] at a1; rw [decide_eq_true_iff]; omega)]
      exact ag rfl rfl (Rel_mono R1)
    · rw [if_neg a1]
      rw [i_lt, t0] at a1
      by_cases a2 : x < hC.1 42 1
      · rw [if_pos a2, if_pos (by rw [i_lt] at a2; rw [decide_eq_true_iff]; omega)]
        rw [i_lt] at a2
        exact ag rfl rfl (Rel_mono (put x (Or.inl ⟨by omega, a2⟩)))
      · rw [if_neg a2, if_neg (by rw [i_lt] at a2; rw [decide_eq_true_iff]; omega)]
        exact ag rfl rfl (Rel_mono R1)
theorem ok_steps : st_steps Rel := by
  intro n hC hM hn R x y
  have R1 := R.t0
  unfold aC_steps aM_steps f_X11_steps f_X12_steps
  rw [Option.bind_some]
  generalize dPut hM 0 0 0 = h1 at R1 ⊢
  have C := R1.ct
  by_cases hy : Pl hC y
  · rw [C_pl hy, M_pl C hy, if_pos rfl, if_pos rfl]
    unfold f_X11_steps_J29 f_X12_steps_J28 f_X11_steps_J49
    by_cases a1 : x = -1
    · rw [if_pos a1, if_pos a1, if_pos a1, if_pos a1]
      have hp := R1.at' (by have := hy.1; have := hy.2; omega)
      unfold f_X12_far f_X12_where
      rw [R1.sr.1, M_between C hp hy, show f_X8_place hC = hC.1 67 0 from rfl, C_apart C hp hy.p']
      exact ag rfl rfl (Rel_mono R1)
    · rw [if_neg a1, if_neg a1, if_neg a1, if_neg a1]
      by_cases hx : Pl hC x
      · rw [C_pl hx, M_pl C hx, if_pos rfl, if_pos rfl, M_between C hx.p' hy, C_apart C hx.p' hy.p']
        exact ag rfl rfl (Rel_mono R1)
      · rw [C_npl hx, M_npl C hx, if_neg (by decide), if_neg (by decide)]
        exact ag rfl rfl (Rel_mono R1)
  · rw [C_npl hy, M_npl C hy, if_neg (by decide), if_neg (by decide)]
    exact ag rfl rfl (Rel_mono R1)
theorem ok_cost : st_cost Rel := by
  intro n hC hM hn R x
  have R1 := R.t0
  unfold aC_cost aM_cost f_X11_cost f_X12_cost
  rw [Option.bind_some]
  generalize dPut hM 0 0 0 = h1 at R1 ⊢
  have C := R1.ct
  by_cases hx : Pl hC x
  · have hp := R1.at' (by have := hx.1; have := hx.2; omega)
    have hm : Pl' hC (-1) := ⟨by rw [tm1]; omega, by rw [tm1]; have := hx.1; have := hx.2; omega⟩
    unfold f_X12_far f_X12_where
    rw [C_pl hx, M_pl C hx, if_pos rfl, if_pos rfl, R1.sr.1, M_between C hp hx, show f_X8_place hC = hC.1 67 0 from rfl, C_apart C hp hx.p', M_between C hm hx, C_apart C hm hx.p']
    exact ag rfl rfl (Rel_mono R1)
  · rw [C_npl hx, M_npl C hx, if_neg (by decide), if_neg (by decide)]
    exact ag rfl rfl (Rel_mono R1)
theorem ok_count : st_count Rel := by
  intro n hC hM hn R x
  have R1 := R.t0
  unfold aC_count aM_count f_X11_count f_X12_count
  rw [Option.bind_some]
  generalize dPut hM 0 0 0 = h1 at R1 ⊢
  have C := R1.ct
  obtain ⟨e1, e2, e3⟩ := R1.law
  obtain ⟨s0, s1, s2, s3, s4, s5, s6, s7⟩ := R1.sr
  have k1 : h1.1 0 6 = hC.1 1 1 := R1.1.1.symm
  have k2 : h1.1 0 26 = hC.1 52 0 := R1.day.1.symm
  have k3 : h1.1 0 47 = hC.1 77 0 := R1.pu.1.symm
  have k4 : h1.1 0 35 = hC.1 70 0 := R1.un.1.symm
  have k5 : h1.1 11 28 = f_X4_lengthOn (f_X8_daysGone hC) hC := by
    have g := R1.gr.1
    rw [i_eq, g]
    show _ = (jmin 60 (hC.1 67 6)).toInt
    rw [i_jmin]
    rfl
  rw [C.np, e1, e2, k1, k2, k3, k4, k5, ← R1.go.1, ← s6, ← s1, ← s2, ← s3, ← s4, show f_X12_where 11 h1 = hC.1 67 0 from s0]
  have fin : ∀ v : Int32, dAg (Rel (n + 1)) (some (v, hC)) (some (v, h1)) := fun v => ag rfl rfl (Rel_mono R1)
  by_cases a0 : x = 0
  · rw [if_pos a0, if_pos a0]
    exact fin _
  rw [if_neg a0, if_neg a0]
  by_cases a1 : x = 1
  · rw [if_pos a1, if_pos a1]
    exact fin _
  rw [if_neg a1, if_neg a1]
  by_cases a2 : x = 2
  · rw [if_pos a2, if_pos a2]
    exact fin _
  rw [if_neg a2, if_neg a2]
  by_cases a3 : x = 3
  · rw [if_pos a3, if_pos a3]
    exact fin _
  rw [if_neg a3, if_neg a3]
  by_cases a4 : x = 4
  · rw [if_pos a4, if_pos a4]
    exact fin _
  rw [if_neg a4, if_neg a4]
  by_cases a5 : x = 5
  · rw [if_pos a5, if_pos a5]
    exact fin _
  rw [if_neg a5, if_neg a5]
  by_cases a6 : x = 6
  · rw [if_pos a6, if_pos a6]
    exact fin _
  rw [if_neg a6, if_neg a6]
  by_cases a7 : x = 7
  · rw [if_pos a7, if_pos a7]
    exact fin _
  rw [if_neg a7, if_neg a7]
  by_cases a8 : x = 8
  · rw [if_pos a8, if_pos a8]
    exact fin _
  rw [if_neg a8, if_neg a8]
  by_cases a9 : x = 9
  · rw [if_pos a9, if_pos a9]
    exact fin _
  rw [if_neg a9, if_neg a9]
  by_cases a10 : x = 10
  · rw [if_pos a10, if_pos a10]
    exact fin _
  rw [if_neg a10, if_neg a10]
  by_cases a11 : x = 11
  · rw [if_pos a11, if_pos a11]
    exact fin _
  rw [if_neg a11, if_neg a11]
  by_cases a12 : x = 12
  · rw [if_pos a12, if_pos a12]
    exact fin _
  rw [if_neg a12, if_neg a12]
  by_cases a13 : x = 13
  · rw [if_pos a13, if_pos a13]
    exact fin _
  rw [if_neg a13, if_neg a13]
  by_cases a14 : x = 14
  · rw [if_pos a14, if_pos a14]
    exact fin _
  rw [if_neg a14, if_neg a14]
  exact fin _
theorem ok_step : st_step Rel := by
  intro n hC hM hn R x y z
  have R1 := R.t0
  unfold aC_step aM_step f_X11_step f_X12_step
  rw [Option.bind_some]
  generalize dPut hM 0 0 0 = h1 at R1 ⊢
  obtain ⟨d1, d2, d3⟩ := R1.day
  have k0 : (0 : Int64).toInt = 0 := rfl
  have k1 : (1 : Int64).toInt = 1 := rfl
  have fin : ∀ v : Int32, dAg (Rel (n + 1)) (Option.map (fun v => (v, hC)) (some v)) (some (v, h1)) := fun v => ag rfl rfl (Rel_mono R1)
  have ek : f_X3_isKept x hC = decide (0 ≤ x.toInt ∧ x.toInt < (hC.1 52 0).toInt) := C_isKept
  have em : f_X12_isPlan x h1 = decide (0 ≤ x.toInt ∧ x.toInt < (hC.1 52 0).toInt) := by rw [M_isPlan, ← d1]
  unfold f_X3_whatOf f_X3_digitOf f_X3_sizeOf
  simp only [ek, em, M_isIn, k0, k1, i_lt, t0, t1, decide_eq_true_eq]
  by_cases hx : 0 ≤ x.toInt ∧ x.toInt < (hC.1 52 0).toInt
  · have hx4 : x.toInt < 4 := by have := d2.2; omega
    have hdx := dI_c hx.1
    have hx5 : dIn x 5 := ⟨hx.1, by omega⟩
    obtain ⟨b1, b2, b3⟩ := d3 (dI x) (by omega)
    have bl := b2.1
    have bh := b2.2
    have e0 : ((h1.1 10 (dI x) - 1 : Int32)).toInt64.toInt = (hC.1 65 (dI x)).toInt - 1 := by rw [l_ofI, ← b1, i_sub (by rw [t1]; omega), t1]
    simp only [if_pos hx, if_pos hx5, e0, Option.bind_some]
    by_cases hy : 0 ≤ y.toInt ∧ y.toInt ≤ (hC.1 65 (dI x)).toInt - 1
    · have a1 : ¬ y.toInt < 0 := by omega
      have a2 : y.toInt < (hC.1 65 (dI x)).toInt := by omega
      have hdy := dI_c hy.1
      have hy16 : dIn y 16 := ⟨hy.1, by omega⟩
      obtain ⟨c1, c2, c3, c4⟩ := b3 (dI y) (by omega)
      rw [if_pos hy]
      simp only [if_neg a1, if_pos a2, if_pos hy16]
      by_cases hz : 0 ≤ z.toInt ∧ z.toInt ≤ 1
      · have a3 : ¬ z.toInt < 0 := by omega
        have a4 : ¬ 1 < z.toInt := by omega
        have k16 : (16 : Int32).toInt = 16 := rfl
        have kk2 : (2 : Int32).toInt = 2 := rfl
        have e1 : (16 * x).toInt = 16 * x.toInt := by rw [i_mul (by rw [k16]; omega), k16]
        have e2 : (16 * x + y).toInt = 16 * x.toInt + y.toInt := by rw [i_add (by rw [e1]; omega), e1]
        have e3 : (2 * (16 * x + y)).toInt = 2 * (16 * x.toInt + y.toInt) := by rw [i_mul (by rw [kk2, e2]; omega), kk2, e2]
        have e4 : (2 * (16 * x + y) + z).toInt = 2 * (16 * x.toInt + y.toInt) + z.toInt := by rw [i_add (by rw [e3]; omega), e3]
        have a5 : dIn (2 * (16 * x + y) + z) 160 := ⟨by rw [e4]; omega, by rw [e4]; omega⟩
        rw [if_neg a3, if_neg a4, if_pos hz, if_pos a5]
        by_cases a6 : z = 0
        · rw [if_pos a6]
          have ez : z.toInt = 0 := by rw [a6]; rfl
          rw [show dI (2 * (16 * x + y) + z) = 2 * (16 * dI x + dI y) from dI_of (by rw [e4]; omega), ← c1, cWh_at (by omega)]
          exact fin _
        · rw [if_neg a6]
          have ez : z.toInt = 1 := by rw [i_eq, t0] at a6; omega
          rw [show dI (2 * (16 * x + y) + z) = 2 * (16 * dI x + dI y) + 1 from dI_of (by rw [e4]; omega), ← c2, cDg_at (by omega)]
          exact fin _
      · rw [if_neg hz]
        by_cases a3 : z.toInt < 0
        · rw [if_pos a3]
          exact fin _
        · have a4 : 1 < z.toInt := by omega
          rw [if_neg a3, if_pos a4]
          exact fin _
    · rw [if_neg hy]
      by_cases a1 : y.toInt < 0
      · rw [if_pos a1]
        exact fin _
      · have a2 : ¬ y.toInt < (hC.1 65 (dI x)).toInt := by omega
        rw [if_neg a1, if_neg a2]
        exact fin _
  · rw [if_neg hx, if_neg hx]
    simp only [Option.bind_some]
    by_cases a1 : y.toInt < 0
    · rw [if_pos a1]
      exact fin _
    · rw [if_neg a1, t0, if_neg a1]
      exact fin _
end EZ
