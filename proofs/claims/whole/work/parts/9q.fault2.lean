/-! PURE: the faults of DAYS and of a CITY -/
section FB
variable {K : Int} {c d c' d' : dH} {kk : Nat}
/-- the reference starts to read the TAPE -/
theorem starts_M (d : dH) : ∃ D : dH, f_X12_starts 1 0 (d.1 0 6) d = some D ∧ (∀ a k, ¬ (a = 0 ∧ 8 ≤ k ∧ k ≤ 11) → D.1 a k = d.1 a k) ∧ D.2 = (d.2.1, 1) ∧ D.1 0 8 = 0 ∧ D.1 0 9 = d.1 0 6 ∧ D.1 0 10 = 0 ∧ D.1 0 11 = -1 := by
  refine ⟨dPut (dPut (dPut (dPut (dPutT d 1) 0 8 0) 0 9 (d.1 0 6)) 0 10 0) 0 11 (-1), rfl, fun a k h => ?_, rfl, ?_, ?_, ?_, ?_⟩
  · rw [dPut_ne (by omega), dPut_ne (by omega), dPut_ne (by omega), dPut_ne (by omega)]; rfl
  · rw [dPut_ne (by omega), dPut_ne (by omega), dPut_ne (by omega), dPut_at]
  · rw [dPut_ne (by omega), dPut_ne (by omega), dPut_at]
  · rw [dPut_ne (by omega), dPut_at]
  · rw [dPut_at]
theorem Q5_draft (hk : (c.1 52 0).toInt = kk) (F : ∀ a k, kdC kk a k → c'.1 a k = c.1 a k) (eM : eqOn kM5 d d') (R : Q5 c d) : Q5 c' d' := by
  obtain ⟨q1, q2, q3⟩ := R
  have q22 := q2.2
  have e1 : c'.1 52 0 = c.1 52 0 := F 52 0 ⟨by omega, by omega, by omega, by omega⟩
  unfold Q5 rDays
  rw [e1, eM 0 26 rfl]
  refine ⟨q1, q2, fun j hj => ?_⟩
  obtain ⟨a, b, x⟩ := q3 j hj
  have e65 : c'.1 65 j = c.1 65 j := F 65 j ⟨by omega, by omega, by omega, by omega⟩
  have e10 : d'.1 10 j = d.1 10 j := eM 10 j (by
    show (false || (false && Nat.ble j 127) || (true && Nat.ble j 3)) = true
    rw [Nat.ble_eq.mpr (show j ≤ 3 by omega)]
    cases Nat.ble j 127 <;> rfl)
  rw [e65, e10]
  have b2 := b.2
  refine ⟨a, b, fun i hi => ?_⟩
  obtain ⟨y1, y2, y3, y4⟩ := x i hi
  have e9 : ∀ k, k ≤ 127 → d'.1 9 k = d.1 9 k := fun k hk => eM 9 k (by
    show (false || (true && Nat.ble k 127) || (false && Nat.ble k 3)) = true
    rw [Nat.ble_eq.mpr hk]
    cases Nat.ble k 3 <;> rfl)
  rw [cWh_at (by omega), cDg_at (by omega)] at *
  rw [F (54 + j) i ⟨by omega, by omega, by omega, by omega⟩, F (60 + j) i ⟨by omega, by omega, by omega, by omega⟩, e9 _ (by omega), e9 _ (by omega)]
  exact ⟨y1, y2, y3, y4⟩
theorem kdC_on (F : ∀ a k, kdC kk a k → c'.1 a k = c.1 a k) (hk : kk ≤ 4) {mk : Nat → Nat → Bool} (h2 : mk 1 2 = false) (hr : ∀ k, mk 54 k = false ∧ mk 55 k = false ∧ mk 56 k = false ∧ mk 57 k = false ∧ mk 58 k = false ∧ mk 60 k = false ∧ mk 61 k = false ∧ mk 62 k = false ∧ mk 63 k = false ∧ mk 64 k = false ∧ mk 65 k = false) : eqOn mk c c' := fun a k h => by
  obtain ⟨r0, r1, r2, r3, r4, s0, s1, s2, s3, s4, t⟩ := hr k
  refine F a k ⟨fun z => ?_, fun z => ?_, fun z => ?_, fun z => ?_⟩
  · rw [z.1, z.2, h2] at h; cases h
  · rcases (show kk = 0 ∨ kk = 1 ∨ kk = 2 ∨ kk = 3 ∨ kk = 4 by omega) with e | e | e | e | e
    · rw [z, e, show 54 + 0 = 54 from rfl, r0] at h; cases h
    · rw [z, e, show 54 + 1 = 55 from rfl, r1] at h; cases h
    · rw [z, e, show 54 + 2 = 56 from rfl, r2] at h; cases h
    · rw [z, e, show 54 + 3 = 57 from rfl, r3] at h; cases h
    · rw [z, e, show 54 + 4 = 58 from rfl, r4] at h; cases h
  · rcases (show kk = 0 ∨ kk = 1 ∨ kk = 2 ∨ kk = 3 ∨ kk = 4 by omega) with e | e | e | e | e
    · rw [z, e, show 60 + 0 = 60 from rfl, s0] at h; cases h
    · rw [z, e, show 60 + 1 = 61 from rfl, s1] at h; cases h
    · rw [z, e, show 60 + 2 = 62 from rfl, s2] at h; cases h
    · rw [z, e, show 60 + 3 = 63 from rfl, s3] at h; cases h
    · rw [z, e, show 60 + 4 = 64 from rfl, s4] at h; cases h
  · rw [z.1, t] at h; cases h
theorem R_f2 (R : RelK K c d) : ∃ (r : Int32) (c' d' : dH), f_X3_findFault c = some (r, c') ∧ f_X12_readDays d = some d' ∧ d'.1 0 11 = r ∧ RelK K c' d' ∧ (∀ a k, kdC (dI (c.1 52 0)) a k → c'.1 a k = c.1 a k) ∧ (r = -1 → ∃ N : Nat, 1 ≤ N ∧ N ≤ 16 ∧ (c'.1 65 (dI (c.1 52 0))).toInt = N ∧ (d'.1 10 4).toInt = N ∧ DR (dI (c.1 52 0)) N c' d') := by
  have Q5' := R.2.2.2.2.1
  have q5 := Q5'.2.1
  have q51 := q5.1
  have q52 := q5.2
  obtain ⟨kk, hk⟩ : ∃ kk : Nat, (c.1 52 0).toInt = kk := ⟨(c.1 52 0).toInt.toNat, by omega⟩
  have k4 : kk ≤ 4 := by omega
  rw [dI_of hk]
  obtain ⟨tc, tm⟩ := tape_B R.1
  have len := R.1.1
  have hL := tc.2.1
  obtain ⟨D, s1, s2, s3, s8, s9, s10, s11⟩ := starts_M d
  have PD := tm D (by rw [s9, len]) s8 (by rw [s3]) (fun k => s2 1 k (by omega))
  generalize (fun k => bOf (d.1 1 k)) = B at tc PD
  generalize dI (c.1 1 1) = L at tc PD hL
  obtain ⟨r, c', d', u1, u2, u3, u4, u5, u6, u7⟩ := lp_days k4 16 dFu dFu 0 0 0 (dPut c 1 2 0) D rfl (fuel_lt (by omega)) (fuel_lt (by omega)) (by omega) (PC_c (dPut_ne (by omega)) (fun k => dPut_ne (by omega)) tc) PD (by rw [dPut_at]; rfl) (by rw [s10]; rfl) (by omega) s11 (by rw [dPut_ne (by omega)]; exact hk) rfl (fun i hi => absurd hi (by omega))
  have F : ∀ a k, kdC kk a k → c'.1 a k = c.1 a k := fun a k h => by rw [u4 a k h, dPut_ne h.1]
  have G : ∀ a k, kdM a k → ¬ (a = 0 ∧ (k = 8 ∨ k = 9)) → d'.1 a k = d.1 a k := fun a k h h2 => by rw [u5 a k h, s2 a k (fun z => by have := h.1; omega)]
  have gM : ∀ {mk : Nat → Nat → Bool}, mk 0 8 = false → mk 0 9 = false → mk 0 10 = false → mk 0 11 = false → (∀ k, 128 ≤ k → mk 9 k = false) → mk 10 4 = false → eqOn mk d d' := fun {mk} h8 h9 h10 h11 hr h4 a k h => by
    refine G a k ⟨fun z => ?_, fun z => ?_, fun z => ?_⟩ (fun z => ?_)
    · rcases z.2 with y | y
      · rw [z.1, y, h10] at h; cases h
      · rw [z.1, y, h11] at h; cases h
    · rw [z.1, hr k z.2] at h; cases h
    · rw [z.1, z.2, h4] at h; cases h
    · rcases z.2 with y | y
      · rw [z.1, y, h8] at h; cases h
      · rw [z.1, y, h9] at h; cases h
  have R13 : d'.2.1 = d.2.1 := by rw [u6, s3]
  have RR : RelK K c' d' := by
    obtain ⟨R0, R2, R3, R4, R5, R6, R7, R8, R9, R10, R11⟩ := R
    have g5 : eqOn kM5 d d' := gM rfl rfl rfl rfl (fun k hk => by
      show (false || (true && Nat.ble k 127) || (false && Nat.ble k 3)) = false
      cases e : Nat.ble k 127 with
      | true => have := Nat.ble_eq.mp e; omega
      | false => cases Nat.ble k 3 <;> rfl) rfl
    exact ⟨Q1_e (kdC_on F k4 rfl (fun _ => ⟨rfl, rfl, rfl, rfl, rfl, rfl, rfl, rfl, rfl, rfl, rfl⟩)) (gM rfl rfl rfl rfl (fun _ _ => rfl) rfl) R0, Q2_e (kdC_on F k4 rfl (fun _ => ⟨rfl, rfl, rfl, rfl, rfl, rfl, rfl, rfl, rfl, rfl, rfl⟩)) (gM rfl rfl rfl rfl (fun _ _ => rfl) rfl) R2, Q3_e (kdC_on F k4 rfl (fun _ => ⟨rfl, rfl, rfl, rfl, rfl, rfl, rfl, rfl, rfl, rfl, rfl⟩)) (gM rfl rfl rfl rfl (fun _ _ => rfl) rfl) R3, mOK_e (gM rfl rfl rfl rfl (fun _ _ => rfl) rfl) (by rw [R13]) R4, Q5_draft hk F g5 R5, Q6_e (kdC_on F k4 rfl (fun _ => ⟨rfl, rfl, rfl, rfl, rfl, rfl, rfl, rfl, rfl, rfl, rfl⟩)) (gM rfl rfl rfl rfl (fun _ _ => rfl) rfl) R6, Q7_e (kdC_on F k4 rfl (fun _ => ⟨rfl, rfl, rfl, rfl, rfl, rfl, rfl, rfl, rfl, rfl, rfl⟩)) (gM rfl rfl rfl rfl (fun _ _ => rfl) rfl) R7, Q8_e (kdC_on F k4 rfl (fun _ => ⟨rfl, rfl, rfl, rfl, rfl, rfl, rfl, rfl, rfl, rfl, rfl⟩)) (gM rfl rfl rfl rfl (fun _ _ => rfl) rfl) R8, Q9_e (kdC_on F k4 rfl (fun _ => ⟨rfl, rfl, rfl, rfl, rfl, rfl, rfl, rfl, rfl, rfl, rfl⟩)) (gM rfl rfl rfl rfl (fun _ _ => rfl) rfl) R9, Q10_e (kdC_on F k4 rfl (fun _ => ⟨rfl, rfl, rfl, rfl, rfl, rfl, rfl, rfl, rfl, rfl, rfl⟩)) (gM rfl rfl rfl rfl (fun _ _ => rfl) rfl) R10, dXt_e (kdC_on F k4 rfl (fun _ => ⟨rfl, rfl, rfl, rfl, rfl, rfl, rfl, rfl, rfl, rfl, rfl⟩)) R11⟩
  refine ⟨r, c', d', ?_, ?_, u3, RR, F, u7⟩
  · unfold f_X3_findFault
    rw [Option.bind_some]
    exact u1
  · unfold f_X12_readDays
    rw [s1, Option.bind_some]
    exact u2
theorem eCm_kg {a k : Nat} (h : eCm a k = true) : kgC a k ∧ ¬ (a = 41 ∧ k = 2) := by
  unfold eCm at h
  simp only [Bool.or_eq_true, Bool.and_eq_true, beq_iff_eq, Nat.ble_eq] at h
  unfold kgC kcC
  omega
theorem eMm_kc {a k : Nat} (h : eMm a k = true) : kcM a k ∧ ¬ (a = 0 ∧ 8 ≤ k ∧ k ≤ 11) ∧ a ≠ 14 := by
  unfold eMm at h
  simp only [Bool.or_eq_true, Bool.and_eq_true, beq_iff_eq, Nat.ble_eq] at h
  unfold kcM
  omega
theorem R_f0 (R : RelK K c d) : ∃ (r : Int32) (c' d' : dH), f_X2_findFault c = some (r, c') ∧ f_X12_readCity d = some d' ∧ d'.1 0 11 = r ∧ RelK K c' d' ∧ (r = -1 → ∃ P h : Nat, 2 ≤ P ∧ CR P h c' d') := by
  obtain ⟨tc, tm⟩ := tape_B R.1
  have len := R.1.1
  have hL := tc.2.1
  have X : dXt c := R.2.2.2.2.2.2.2.2.2.2
  obtain ⟨D, s1, s2, s3, s8, s9, s10, s11⟩ := starts_M d
  have PD := tm D (by rw [s9, len]) s8 (by rw [s3]) (fun k => s2 1 k (by omega))
  generalize (fun k => bOf (d.1 1 k)) = B at tc PD
  generalize dI (c.1 1 1) = L at tc PD hL
  -- the class
  have eC : f_X2_findFault c = f_X2_findFault_L42 dFu 0 (dCpy (dPut (dPut (dPut c 1 2 0) 41 2 0) 22 2 0) (1000 + 2) 23 0 0 3) := by
    unfold f_X2_findFault
    rw [Option.bind_some, Option.bind_some, Option.bind_some, if_pos (show dCk 0 0 (Int32.ofNat (zln 2)) (zln 2) 3 by decide), Option.bind_some]
    rfl
  generalize eA : dCpy (dPut (dPut (dPut c 1 2 0) 41 2 0) 22 2 0) (1000 + 2) 23 0 0 3 = A at eC
  have Af : ∀ a k, ¬ (a = 1 ∧ k = 2) → ¬ (a = 41 ∧ k = 2) → ¬ (a = 22 ∧ k = 2) → a ≠ 23 → A.1 a k = c.1 a k := fun a k h1 h2 h3 h4 => by rw [← eA, dCpy_ne h4, dPut_ne h3, dPut_ne h2, dPut_ne h1]
  have A12 : A.1 1 2 = 0 := by rw [← eA, dCpy_ne (by omega), dPut_ne (by omega), dPut_ne (by omega), dPut_at]
  have A41 : A.1 41 2 = 0 := by rw [← eA, dCpy_ne (by omega), dPut_ne (by omega), dPut_at]
  have A22 : A.1 22 2 = 0 := by rw [← eA, dCpy_ne (by omega), dPut_at]
  have A23 : ∀ k, k < 3 → A.1 23 k = dSt0 1002 k := fun k hk => by
    rw [← eA, cpy_at (by omega) (by omega), dPut_ne (by omega), dPut_ne (by omega), dPut_ne (by omega), show 0 + (k - 0) = k by omega]
    exact X 1002 k (by omega)
  -- the reference
  obtain ⟨E, t1', t2, t3, t4, t5, t6⟩ : ∃ E : dH, f_X12_readCity d = f_X12_readCity_L50 dFu true E ∧ (∀ a k, ¬ (a = 0 ∧ (k = 25 ∨ k = 27)) → a ≠ 6 → E.1 a k = D.1 a k) ∧ E.2 = D.2 ∧ E.1 0 25 = 0 ∧ E.1 0 27 = 0 ∧ (∀ k, k < 3 → E.1 6 k = dSt0 1002 k) := by
    have k3 : (3 : Int32).toInt = 3 := rfl
    have e4 : dFu = 19996 + 1 + 1 + 1 + 1 := rfl
    unfold f_X12_readCity
    rw [s1, Option.bind_some, Option.bind_some, Option.bind_some, e4, f_X12_readCity_L25, if_pos (show (0 : Int32) < 3 by decide), if_pos (show dIn (0 : Int32) 3 from ⟨by decide, by decide⟩), Option.bind_some, show (0 : Int32) + 1 = 1 from rfl]
    rw [f_X12_readCity_L25, if_pos (show (1 : Int32) < 3 by decide), if_pos (show dIn (1 : Int32) 3 from ⟨by decide, by decide⟩), Option.bind_some, show (1 : Int32) + 1 = 2 from rfl]
    rw [f_X12_readCity_L25, if_pos (show (2 : Int32) < 3 by decide), if_pos (show dIn (2 : Int32) 3 from ⟨by decide, by decide⟩), Option.bind_some, show (2 : Int32) + 1 = 3 from rfl]
    rw [f_X12_readCity_L25, if_neg (show ¬ (3 : Int32) < 3 by decide), show dI (0 : Int32) = 0 from rfl, show dI (1 : Int32) = 1 from rfl, show dI (2 : Int32) = 2 from rfl]
    refine ⟨_, rfl, fun a k h1 h2 => ?_, rfl, ?_, ?_, fun k hk => ?_⟩
    · rw [dPut_ne (by omega), dPut_ne (by omega), dPut_ne (by omega), dPut_ne (by omega), dPut_ne (by omega)]
    · rw [dPut_ne (by omega), dPut_ne (by omega), dPut_ne (by omega), dPut_ne (by omega), dPut_at]
    · rw [dPut_ne (by omega), dPut_ne (by omega), dPut_ne (by omega), dPut_at]
    · rcases (show k = 0 ∨ k = 1 ∨ k = 2 by omega) with e | e | e
      · rw [e, dPut_ne (by omega), dPut_ne (by omega), dPut_at]; exact us_s 0 (by omega) _
      · rw [e, dPut_ne (by omega), dPut_at]; exact us_s 1 (by omega) _
      · rw [e, dPut_at]; exact us_s 2 (by omega) _
  have C0 : CR 0 0 A E := ⟨by rw [A22]; rfl, by rw [A22, t4], by omega, by rw [A41]; rfl, by rw [A41, t5], by omega, fun k hk => by
    rw [A23 k hk, Nat.zero_add, t6 k hk]
    exact ⟨rfl, ub_s k hk⟩, fun p hp => absurd hp (by omega), fun _ k hk => A23 k hk⟩
  obtain ⟨r, c', d', u1, u2, u3, u4, u5, u6, u7⟩ := lp_city 9 dFu dFu 0 0 0 0 A E rfl (fuel_lt (by omega)) (fuel_lt (by omega)) rfl C0 (PC_c (Af 1 1 (by omega) (by omega) (by omega) (by omega)) (fun k => Af 2 k (by omega) (by omega) (by omega) (by omega)) tc) (PM_c (t2 0 9 (by omega) (by omega)) (t2 0 8 (by omega) (by omega)) (by rw [t3]) (fun k => t2 1 k (by omega) (by omega)) (fun k => t2 2 k (by omega) (by omega)) PD) (fun a k ha => by rw [Af a k (by omega) (by omega) (by omega) (by omega)]; exact X a k ha) (by rw [A12]; rfl) (by rw [t2 0 10 (by omega) (by omega), s10]; rfl) (by omega) (by rw [t2 0 11 (by omega) (by omega)]; exact s11)
  have fM' : ∀ a k, kcM a k → ¬ (a = 0 ∧ 8 ≤ k ∧ k ≤ 11) → d'.1 a k = d.1 a k := fun a k h h2 => by rw [u5 a k h, t2 a k (fun z => h.1 ⟨z.1, by omega⟩) h.2.1, s2 a k h2]
  refine ⟨r, c', d', by rw [eC]; exact u1, by rw [t1']; exact u2, u3, RelK_e R (fun a k h => ?_) ⟨fun a k h => ?_, fun m => ?_⟩, u7⟩
  · obtain ⟨g, -⟩ := eCm_kg h
    rw [u4 a k g, Af a k (fun z => g.1.1 ⟨z.1, Or.inl z.2⟩) g.1.2.2.2.2 g.1.2.1 g.1.2.2.1]
  · obtain ⟨g, g2, -⟩ := eMm_kc h
    exact fM' a k g g2
  · refine mOK_e (fun a k h => ?_) (by rw [u6, t3, s3]) m
    unfold kM4 at h
    simp only [Bool.or_eq_true, Bool.and_eq_true, beq_iff_eq] at h
    exact fM' a k (by unfold kcM; omega) (by omega)
theorem ok_fault : st_fault Rel := by
  intro n hC hM hn R x
  have R1 : RelK (60 * n) hC (dPut hM 0 0 0) := R.t0
  unfold aC_fault aM_fault f_X11_fault f_X12_fault
  rw [Option.bind_some]
  generalize dPut hM 0 0 0 = h1 at R1 ⊢
  have k1 : (1 : Int32).toInt = 1 := rfl
  have k2 : (2 : Int32).toInt = 2 := rfl
  have k0 : (0 : Int32).toInt = 0 := rfl
  rw [M_isIn, show (0 : Int64).toInt = 0 from rfl, show (2 : Int64).toInt = 2 from rfl]
  unfold f_X12_fault_J28 f_X12_fault_J46
  by_cases a0 : x = 0
  · obtain ⟨r, c', d', u1, u2, u3, u4, -⟩ := R_f0 R1
    rw [if_pos a0, decide_eq_true (show 0 ≤ x.toInt ∧ x.toInt ≤ 2 by rw [a0, k0]; omega), if_pos rfl, if_pos a0, u1, u2]
    simp only [Option.bind_some]
    rw [if_neg (show ¬ x = 1 by rw [a0]; decide), if_neg (show ¬ x = 2 by rw [a0]; decide), u3]
    exact ag rfl rfl (Rel_mono u4)
  · rw [if_neg a0]
    by_cases a1 : x = 1
    · obtain ⟨r, c', d', u1, u2, u3, u4, -⟩ := R_f1 R1
      rw [if_pos a1, decide_eq_true (show 0 ≤ x.toInt ∧ x.toInt ≤ 2 by rw [a1, k1]; omega), if_pos rfl, if_neg a0, if_pos a1, u1, u2]
      simp only [Option.bind_some]
      rw [if_neg (show ¬ x = 2 by rw [a1]; decide), u3]
      exact ag rfl rfl (Rel_mono u4)
    · rw [if_neg a1]
      by_cases a2 : x = 2
      · obtain ⟨r, c', d', u1, u2, u3, u4, -⟩ := R_f2 R1
        rw [if_pos a2, decide_eq_true (show 0 ≤ x.toInt ∧ x.toInt ≤ 2 by rw [a2, k2]; omega), if_pos rfl, if_neg a0, if_neg a1, if_pos a2, u1, u2]
        simp only [Option.bind_some]
        rw [u3]
        exact ag rfl rfl (Rel_mono u4)
      · rw [if_neg a2, decide_eq_false (show ¬ (0 ≤ x.toInt ∧ x.toInt ≤ 2) by rw [i_eq, k0] at a0; rw [i_eq, k1] at a1; rw [i_eq, k2] at a2; omega), if_neg (by decide)]
        exact ag rfl rfl (Rel_mono R1)
end FB
