/-! PURE: the LOG, what was PUT, a PLACE's numbers, kinds, the round, calm -/
set_option maxRecDepth 100000 in
theorem fm100 : ∀ k : Nat, k < 1000 → f_J9_floorMod_7cf53 (Int32.ofNat k) 100 = some (Int32.ofNat (k % 100)) := by decide +kernel
theorem C_rowOf {x : Int32} {k : Nat} (h : dH) (hx : x.toInt = k) (hk : k < 1000) : ∃ v : Int32, f_X4_rowOf x h = some v ∧ v.toInt = ((k % 100) * 3 : Nat) := by
  have e : x = Int32.ofNat k := by rw [i_eq, hx, i_ofNat (by omega)]
  unfold f_X4_rowOf
  rw [e, fm100 k hk, Option.bind_some]
  refine ⟨_, rfl, ?_⟩
  have k3 : (3 : Int32).toInt = 3 := rfl
  have hm : k % 100 < 100 := Nat.mod_lt _ (by omega)
  rw [i_mul (by rw [i_ofNat (by omega), k3]; omega), i_ofNat (by omega), k3]
  omega
theorem ok_log : st_log Rel := by
  intro n hC hM hn R x w
  have R1 := R.t0
  unfold aC_log aM_log f_X11_log f_X12_log f_X4_read
  rw [Option.bind_some]
  generalize dPut hM 0 0 0 = h1 at R1 ⊢
  obtain ⟨g1, g2⟩ := R1.gr
  have s6 := R1.sw.2.2.2.2.2.1
  have d1 := s6.1
  have d2 := s6.2
  have k0 : (0 : Int64).toInt = 0 := rfl
  have k2 : (2 : Int64).toInt = 2 := rfl
  have k3 : (3 : Int32).toInt = 3 := rfl
  have k29 : (29 : Int32).toInt = 29 := rfl
  have el : (f_X4_lengthOn (f_X8_daysGone hC) hC).toInt = (h1.1 11 28).toInt := by
    rw [g1]
    show (jmin 60 (hC.1 67 6)).toInt = _
    rw [i_jmin]
    rfl
  have em : ((h1.1 11 28 - 1 : Int32)).toInt = (h1.1 11 28).toInt - 1 := by rw [i_sub (by rw [t1]; omega), t1]
  have fin : ∀ v : Int32, dAg (Rel (n + 1)) (Option.map (fun v => (v, hC)) (some v)) (some (v, h1)) := fun v => ag rfl rfl (Rel_mono R1)
  simp only [M_isIn, k0, k2, i_lt, t0, k3, el, l_ofI, em, decide_eq_true_eq]
  by_cases hx : 0 ≤ x.toInt ∧ x.toInt ≤ (h1.1 11 28).toInt - 1
  · have a1 : ¬ x.toInt < 0 := by omega
    have a2 : x.toInt < (h1.1 11 28).toInt := by omega
    rw [if_neg a1, if_pos a2, if_pos hx]
    by_cases hw : 0 ≤ w.toInt ∧ w.toInt ≤ 2
    · have a3 : ¬ w.toInt < 0 := by omega
      have a4 : w.toInt < 3 := by omega
      rw [if_neg a3, if_pos a4, if_pos hw]
      have dx := dI_c hx.1
      have dw := dI_c hw.1
      have e1 : (f_X8_daysGone hC - 1 - x).toInt = (((hC.1 67 6).toInt.toNat - 1 - dI x : Nat) : Int) := by
        show (hC.1 67 6 - 1 - x).toInt = _
        rw [i_sub (by rw [i_sub (by rw [t1]; omega), t1]; omega), i_sub (by rw [t1]; omega), t1]
        omega
      obtain ⟨v, ev, hv⟩ := C_rowOf hC e1 (by omega)
      rw [ev, Option.bind_some]
      have hm : ((hC.1 67 6).toInt.toNat - 1 - dI x) % 100 < 100 := Nat.mod_lt _ (by omega)
      have e2 : (v + w).toInt = ((((hC.1 67 6).toInt.toNat - 1 - dI x) % 100 * 3 + dI w : Nat) : Int) := by
        rw [i_add (by rw [hv]; omega), hv]
        omega
      rw [if_pos (dIn_of e2 (by omega)), dI_of e2]
      have e3 : (h1.1 11 28 - 1 - x).toInt = (h1.1 11 28).toInt - 1 - x.toInt := by rw [i_sub (by rw [em]; omega), em]
      have e4 : (3 * (h1.1 11 28 - 1 - x)).toInt = 3 * ((h1.1 11 28).toInt - 1 - x.toInt) := by rw [i_mul (by rw [k3, e3]; omega), k3, e3]
      have e5 : (29 + 3 * (h1.1 11 28 - 1 - x)).toInt = 29 + 3 * ((h1.1 11 28).toInt - 1 - x.toInt) := by rw [i_add (by rw [k29, e4]; omega), k29, e4]
      have e6 : (29 + 3 * (h1.1 11 28 - 1 - x) + w).toInt = ((29 + 3 * ((h1.1 11 28).toInt.toNat - 1 - dI x) + dI w : Nat) : Int) := by
        rw [i_add (by rw [e5]; omega), e5]
        omega
      rw [if_pos (dIn_of e6 (by omega)), dI_of e6, g2 (dI x) (dI w) (by omega) (by omega)]
      exact fin _
    · rw [if_neg hw]
      by_cases a3 : w.toInt < 0
      · rw [if_pos a3]
        exact fin _
      · have a4 : ¬ w.toInt < 3 := by omega
        rw [if_neg a3, if_neg a4]
        exact fin _
  · rw [if_neg hx]
    by_cases a1 : x.toInt < 0
    · rw [if_pos a1]
      exact fin _
    · have a2 : ¬ x.toInt < (h1.1 11 28).toInt := by omega
      rw [if_neg a1, if_neg a2]
      exact fin _
theorem narb (b : Bool) : vp_nar .boolean (bi b) = bi b := by cases b <;> rfl
theorem ok_noted : st_noted Rel := by
  intro n hC hM hn R x y b
  have R1 := R.t0
  unfold aC_noted aM_noted f_X11_noted f_X12_noted f_X10_put
  generalize dPut hM 0 0 0 = h1 at R1 ⊢
  simp only [Option.bind_some]
  have C := R1.ct
  obtain ⟨p1, p2, p3⟩ := R1.pu
  have q1 := p2.1
  have q2 := p2.2
  have k0 : (0 : Int64).toInt = 0 := rfl
  have k60 : (60 : Int64).toInt = 60 := rfl
  have k60' : (60 : Int32).toInt = 60 := rfl
  have k10 : (10 : Int32).toInt = 10 := rfl
  have fin : ∀ v : Int32, dAg (Rel (n + 1)) (some (v, hC)) (some (v, h1)) := fun v => ag rfl rfl (Rel_mono R1)
  by_cases hx : Pl hC x
  · rw [C_pl hx, M_pl C hx, if_pos rfl, if_pos rfl]
    simp only [M_isIn, k0, k60, k60', i_lt, t0, k10, decide_eq_true_eq, ← p1]
    by_cases hy : 0 ≤ y.toInt ∧ y.toInt ≤ 60
    · have a1 : ¬ y.toInt < 0 := by omega
      have a2 : ¬ 60 < y.toInt := by omega
      rw [if_neg a1, if_neg a2, if_pos hy]
      by_cases h10 : hC.1 77 0 = 10
      · have h10' : ¬ (hC.1 77 0).toInt < 10 := by rw [h10, k10]; omega
        rw [if_neg h10', if_pos h10]
        exact fin _
      · have h10' : (hC.1 77 0).toInt < 10 := by rw [i_eq, k10] at h10; omega
        have hi : dIn (hC.1 77 0) 10 := ⟨q1, h10'⟩
        rw [if_pos h10', if_neg h10]
        have eC1 : (dPut hC 78 (dI (hC.1 77 0)) x).1 77 0 = hC.1 77 0 := dPut_ne (by omega)
        have eM1 : (dPut h1 17 (dI (hC.1 77 0)) x).1 0 47 = hC.1 77 0 := by rw [dPut_ne (by omega), ← p1]
        have eC2 : (dPut (dPut hC 78 (dI (hC.1 77 0)) x) 79 (dI (hC.1 77 0)) y).1 77 0 = hC.1 77 0 := by rw [dPut_ne (by omega), eC1]
        have eM2 : (dPut (dPut h1 17 (dI (hC.1 77 0)) x) 18 (dI (hC.1 77 0)) y).1 0 47 = hC.1 77 0 := by rw [dPut_ne (by omega), eM1]
        have eC3 : (dPut (dPut (dPut hC 78 (dI (hC.1 77 0)) x) 79 (dI (hC.1 77 0)) y) 80 (dI (hC.1 77 0)) (bi b)).1 77 0 = hC.1 77 0 := by rw [dPut_ne (by omega), eC2]
        have eM3 : (dPut (dPut (dPut h1 17 (dI (hC.1 77 0)) x) 18 (dI (hC.1 77 0)) y) 21 (dI (hC.1 77 0)) (bi b)).1 0 47 = hC.1 77 0 := by rw [dPut_ne (by omega), eM2]
        simp only [if_pos hi, Option.bind_some, eC1, eC2, eM1, eM2, narb, eC3, eM3, dPut_at]
        refine ag rfl rfl ?_
        obtain ⟨R0, R2, R3, R4, R5, R6, R7, R8, R9, R10, R11⟩ := Rel_mono R1
        have hsn : (hC.1 77 0 + 1).toInt = (hC.1 77 0).toInt + 1 := i_add1 (by omega)
        have dn := dI_c q1
        refine ⟨Q1_e (eqOn_pt (eqOn_pt (eqOn_pt (eqOn_pt eqOn_rf rfl) rfl) rfl) rfl) (eqOn_pt (eqOn_pt (eqOn_pt (eqOn_pt eqOn_rf rfl) rfl) rfl) rfl) R0, Q2_e (eqOn_pt (eqOn_pt (eqOn_pt (eqOn_pt eqOn_rf rfl) rfl) rfl) rfl) (eqOn_pt (eqOn_pt (eqOn_pt (eqOn_pt eqOn_rf rfl) rfl) rfl) rfl) R2, Q3_e (eqOn_pt (eqOn_pt (eqOn_pt (eqOn_pt eqOn_rf rfl) rfl) rfl) rfl) (eqOn_pt (eqOn_pt (eqOn_pt (eqOn_pt eqOn_rf rfl) rfl) rfl) rfl) R3, mOK_e (eqOn_pt (eqOn_pt (eqOn_pt (eqOn_pt eqOn_rf rfl) rfl) rfl) rfl) rfl R4, Q5_e (eqOn_pt (eqOn_pt (eqOn_pt (eqOn_pt eqOn_rf rfl) rfl) rfl) rfl) (eqOn_pt (eqOn_pt (eqOn_pt (eqOn_pt eqOn_rf rfl) rfl) rfl) rfl) R5, Q6_e (eqOn_pt (eqOn_pt (eqOn_pt (eqOn_pt eqOn_rf rfl) rfl) rfl) rfl) (eqOn_pt (eqOn_pt (eqOn_pt (eqOn_pt eqOn_rf rfl) rfl) rfl) rfl) R6, Q7_e (eqOn_pt (eqOn_pt (eqOn_pt (eqOn_pt eqOn_rf rfl) rfl) rfl) rfl) (eqOn_pt (eqOn_pt (eqOn_pt (eqOn_pt eqOn_rf rfl) rfl) rfl) rfl) R7, Q8_e (eqOn_pt (eqOn_pt (eqOn_pt (eqOn_pt eqOn_rf rfl) rfl) rfl) rfl) (eqOn_pt (eqOn_pt (eqOn_pt (eqOn_pt eqOn_rf rfl) rfl) rfl) rfl) R8, ?_, Q10_e (eqOn_pt (eqOn_pt (eqOn_pt (eqOn_pt eqOn_rf rfl) rfl) rfl) rfl) (eqOn_pt (eqOn_pt (eqOn_pt (eqOn_pt eqOn_rf rfl) rfl) rfl) rfl) R10, dXt_e (eqOn_pt (eqOn_pt (eqOn_pt (eqOn_pt eqOn_rf rfl) rfl) rfl) rfl) R11⟩
        rw [dPut_at, dPut_at]
        refine ⟨rfl, ⟨by omega, by omega⟩, fun i hi => ?_⟩
        have e3 : (dPut (dPut (dPut (dPut hC 78 (dI (hC.1 77 0)) x) 79 (dI (hC.1 77 0)) y) 80 (dI (hC.1 77 0)) (bi b)) 77 0 (hC.1 77 0 + 1)).1 3 2 = hC.1 3 2 := rfl
        rw [e3]
        by_cases hin : i = dI (hC.1 77 0)
        · rw [hin]
          simp only [dPut, and_self, if_true, and_true, if_false, show (78 : Nat) ≠ 77 by decide, show (79 : Nat) ≠ 77 by decide, show (80 : Nat) ≠ 77 by decide, show (78 : Nat) ≠ 80 by decide, show (79 : Nat) ≠ 80 by decide, show (78 : Nat) ≠ 79 by decide, show (17 : Nat) ≠ 0 by decide, show (18 : Nat) ≠ 0 by decide, show (21 : Nat) ≠ 0 by decide, show (17 : Nat) ≠ 21 by decide, show (18 : Nat) ≠ 21 by decide, show (17 : Nat) ≠ 18 by decide, false_and]
          refine ⟨trivial, trivial, trivial, hx, ?_, hy⟩
          cases b
          · exact Or.inl rfl
          · exact Or.inr rfl
        · simp only [dPut, hin, and_false, if_false, show (78 : Nat) ≠ 77 by decide, show (79 : Nat) ≠ 77 by decide, show (80 : Nat) ≠ 77 by decide, show (17 : Nat) ≠ 0 by decide, show (18 : Nat) ≠ 0 by decide, show (21 : Nat) ≠ 0 by decide, false_and]
          exact p3 i (by omega)
    · rw [if_neg hy]
      by_cases a1 : y.toInt < 0
      · rw [if_pos a1]
        exact fin _
      · have a2 : 60 < y.toInt := by omega
        rw [if_neg a1, if_pos a2]
        exact fin _
  · rw [C_npl hx, M_npl C hx, if_neg (by decide), if_neg (by decide)]
    exact fin _
theorem ok_spot : st_spot Rel := by
  intro n hC hM hn R x y
  have C := R.ct
  have k0 : (0 : Int64).toInt = 0 := rfl
  have k6 : (6 : Int64).toInt = 6 := rfl
  have k6' : (6 : Int32).toInt = 6 := rfl
  have rel : ∀ v : Int32, Rel (n + 1) hC (dPut hM 0 0 v) := fun v => Rel_s R (eC_rf _) (eM_put rfl (by decide))
  unfold f_X12_spot spotOK f_X11_spot
  simp only [M_isIn, k0, k6, decide_eq_true_eq]
  by_cases hx : Pl hC x
  · rw [C_pl hx, M_pl C hx, if_pos rfl, if_pos rfl]
    simp only [i_le, i_lt, t0, k6']
    by_cases hy : 0 ≤ y.toInt ∧ y.toInt ≤ 6
    · left
      have a1 : ¬ y.toInt < 0 := by omega
      have a2 : ¬ 6 < y.toInt := by omega
      rw [if_neg a1, if_neg a2, if_pos hy]
      unfold f_X12_spot_J26
      rw [Option.bind_some, dPut_at, if_neg (show ¬ (0 : Int32) < bi false by decide)]
      have hi := hx.in7 C
      have hn7 := hx.nat C
      obtain ⟨s1, s2, s3⟩ := R.sr.2.2.2.2.2.2.2 (dI x) hn7.2
      have C1 : Ct hC (dPut hM 0 0 (bi false)) := (rel (bi false)).ct
      by_cases b4 : y = 4
      · rw [if_pos b4, if_pos b4, if_pos (ix1 hi).2, (ix1 hi).1, dPut_ne (by omega), C_patienceOf C 66 hx, ← s3]
        exact ⟨_, _, ⟨trivial, hy⟩, rfl, rfl, dPut_at, rel _⟩
      · rw [if_neg b4, if_neg b4]
        by_cases b5 : y = 5
        · rw [if_pos b5, if_pos b5, if_pos (ix0 hi).2, (ix0 hi).1, dPut_ne (by omega), C_troublesOf C 66 hx, ← s2]
          exact ⟨_, _, ⟨trivial, hy⟩, rfl, rfl, dPut_at, rel _⟩
        · rw [if_neg b5, if_neg b5]
          by_cases b6 : y = 6
          · rw [if_pos b6, if_pos b6, if_pos (ix2 hi).2, (ix2 hi).1, dPut_ne (by omega), C_visitsOf C 66 hx, ← s1]
            exact ⟨_, _, ⟨trivial, hy⟩, rfl, rfl, dPut_at, rel _⟩
          · rw [if_neg b6, if_neg b6]
            have hw : dIn y 5 := by
              rw [i_eq, show (4 : Int32).toInt = 4 from rfl] at b4
              rw [i_eq, show (5 : Int32).toInt = 5 from rfl] at b5
              rw [i_eq, k6'] at b6
              exact ⟨hy.1, by omega⟩
            rw [M_of C1 hx hw, C_toldOf C hx hw]
            exact ⟨_, _, ⟨trivial, hy⟩, rfl, rfl, dPut_at, rel _⟩
    · right
      rw [if_neg hy]
      exact ⟨0, dPut hM 0 0 1, fun z => hy ⟨z.2.1, z.2.2⟩, rfl, dPut_at, rel _⟩
  · right
    rw [C_npl hx, M_npl C hx, if_neg (by decide)]
    exact ⟨0, dPut hM 0 0 1, (fun z => by have := z.1; cases this), rfl, dPut_at, rel _⟩
