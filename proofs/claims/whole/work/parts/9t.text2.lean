/-! PURE: DAYS are kept -/
section TY
variable {K : Int} {c d c' d' : dH} {kk : Nat}
theorem RelK_kd (R : RelK K c d) (hk : (c.1 52 0).toInt = kk) (k4 : kk ≤ 4) (F : ∀ a k, kdC kk a k → c'.1 a k = c.1 a k) : RelK K c' d := by
  obtain ⟨R0, R2, R3, R4, R5, R6, R7, R8, R9, R10, R11⟩ := R
  have al : ∀ {mk : Nat → Nat → Bool}, mk 1 2 = false → (∀ k, mk 54 k = false ∧ mk 55 k = false ∧ mk 56 k = false ∧ mk 57 k = false ∧ mk 58 k = false ∧ mk 60 k = false ∧ mk 61 k = false ∧ mk 62 k = false ∧ mk 63 k = false ∧ mk 64 k = false ∧ mk 65 k = false) → eqOn mk c c' := fun x y => kdC_on F k4 x y
  exact ⟨Q1_e (al rfl (fun _ => ⟨rfl, rfl, rfl, rfl, rfl, rfl, rfl, rfl, rfl, rfl, rfl⟩)) eqOn_rf R0, Q2_e (al rfl (fun _ => ⟨rfl, rfl, rfl, rfl, rfl, rfl, rfl, rfl, rfl, rfl, rfl⟩)) eqOn_rf R2, Q3_e (al rfl (fun _ => ⟨rfl, rfl, rfl, rfl, rfl, rfl, rfl, rfl, rfl, rfl, rfl⟩)) eqOn_rf R3, R4, Q5_draft hk F eqOn_rf R5, Q6_e (al rfl (fun _ => ⟨rfl, rfl, rfl, rfl, rfl, rfl, rfl, rfl, rfl, rfl, rfl⟩)) eqOn_rf R6, Q7_e (al rfl (fun _ => ⟨rfl, rfl, rfl, rfl, rfl, rfl, rfl, rfl, rfl, rfl, rfl⟩)) eqOn_rf R7, Q8_e (al rfl (fun _ => ⟨rfl, rfl, rfl, rfl, rfl, rfl, rfl, rfl, rfl, rfl, rfl⟩)) eqOn_rf R8, Q9_e (al rfl (fun _ => ⟨rfl, rfl, rfl, rfl, rfl, rfl, rfl, rfl, rfl, rfl, rfl⟩)) eqOn_rf R9, Q10_e (al rfl (fun _ => ⟨rfl, rfl, rfl, rfl, rfl, rfl, rfl, rfl, rfl, rfl, rfl⟩)) eqOn_rf R10, dXt_e (al rfl (fun _ => ⟨rfl, rfl, rfl, rfl, rfl, rfl, rfl, rfl, rfl, rfl, rfl⟩)) R11⟩
theorem lp_plan (k3 : kk < 4) : ∀ (m n p : Nat) (y3 : Int32) (h : dH), p + m = 32 → m < n → y3.toInt = p → (h.1 0 26).toInt = kk →
    ∃ h' : dH, f_X12_text_L137 n y3 h = some (h.1 0 26, h') ∧ (∀ a k, a ≠ 9 → ¬ (a = 10 ∧ k = kk) → ¬ (a = 0 ∧ k = 26) → h'.1 a k = h.1 a k) ∧ h'.2 = h.2 ∧ (∀ k, k < 32 * kk + p ∨ 32 * kk + 32 ≤ k → h'.1 9 k = h.1 9 k) ∧ (∀ i, p ≤ i → i < 32 → h'.1 9 (32 * kk + i) = h.1 9 (128 + i)) ∧ h'.1 10 kk = h.1 10 4 ∧ (h'.1 0 26).toInt = ((kk + 1 : Nat) : Int) := by
  intro m
  have k32 : (32 : Int32).toInt = 32 := rfl
  have k128 : (128 : Int32).toInt = 128 := rfl
  induction m with
  | zero =>
    intro n p y3 h hp hn hy h7
    obtain ⟨n, rfl⟩ : ∃ z, n = z + 1 := ⟨n - 1, by omega⟩
    rw [f_X12_text_L137, if_neg (show ¬ y3 < 32 by rw [i_lt, k32]; omega), if_pos (dIn_of h7 (show kk < 5 by omega)), dI_of h7, Option.bind_some]
    have e7 : (dPut h 10 kk (h.1 10 4)).1 0 26 = h.1 0 26 := dPut_ne (by omega)
    rw [e7, dPut_at]
    have er : h.1 0 26 + 1 - 1 = h.1 0 26 := Int32.add_sub_cancel _ _
    rw [er]
    refine ⟨_, rfl, fun a k h1 h2 h3 => by rw [dPut_ne h3, dPut_ne h2], rfl, fun k _ => by rw [dPut_ne (by omega), dPut_ne (by omega)], fun i h1 h2 => absurd h2 (by omega), by rw [dPut_ne (by omega), dPut_at], by rw [dPut_at, i_add1 (by omega), h7]; omega⟩
  | succ m ih =>
    intro n p y3 h hp hn hy h7
    obtain ⟨n, rfl⟩ : ∃ z, n = z + 1 := ⟨n - 1, by omega⟩
    have e1 : (32 * h.1 0 26).toInt = 32 * kk := by rw [i_mul (by rw [k32]; omega), k32, h7]
    have e2 : (32 * h.1 0 26 + y3).toInt = ((32 * kk + p : Nat) : Int) := by rw [i_add (by omega), e1, hy]; omega
    have e3 : (128 + y3).toInt = ((128 + p : Nat) : Int) := by rw [i_add (by rw [k128]; omega), k128, hy]; omega
    rw [f_X12_text_L137, if_pos (show y3 < 32 by rw [i_lt, k32]; omega), if_pos (dIn_of e3 (by omega)), if_pos (dIn_of e2 (by omega)), dI_of e2, dI_of e3, Option.bind_some]
    obtain ⟨h', a1, a2, a3, a4, a5, a6, a7⟩ := ih n (p + 1) (y3 + 1) (dPut h 9 (32 * kk + p) (h.1 9 (128 + p))) (by omega) (by omega) (by rw [i_add1 (by omega), hy]; omega) (by rw [dPut_ne (by omega)]; exact h7)
    rw [dPut_ne (show ¬ (0 = 9 ∧ 26 = 32 * kk + p) by omega)] at a1
    refine ⟨h', a1, fun a k h1 h2 h3 => by rw [a2 a k h1 h2 h3, dPut_ne (fun z => h1 z.1)], a3, fun k hk => by rw [a4 k (by omega), dPut_ne (by omega)], fun i h1 h2 => ?_, by rw [a6, dPut_ne (by omega)], a7⟩
    by_cases z : i = p
    · rw [z, a4 _ (by omega), dPut_at]
    · rw [a5 i (by omega) h2, dPut_ne (by omega)]
theorem R_t2 (R : RelK K c d) (h4 : (c.1 52 0).toInt < 4) {N : Nat} (hN : 1 ≤ N ∧ N ≤ 16) (n1 : (c.1 65 (dI (c.1 52 0))).toInt = N) (n2 : (d.1 10 4).toInt = N) (D : DR (dI (c.1 52 0)) N c d) :
    ∃ h' : dH, f_X12_text_L137 dFu 0 (dPut d 0 6 0) = some (c.1 52 0, h') ∧ RelK K (dPut (dPut c 52 0 (c.1 52 0 + 1)) 1 1 0) h' := by
  have q5 := R.2.2.2.2.1.2.1
  have q51 := q5.1
  obtain ⟨kk, hk⟩ : ∃ kk : Nat, (c.1 52 0).toInt = kk := ⟨(c.1 52 0).toInt.toNat, by omega⟩
  have k3 : kk < 4 := by omega
  rw [dI_of hk] at n1 D
  have e26 : d.1 0 26 = c.1 52 0 := R.2.2.2.2.1.1.symm
  obtain ⟨h', a1, a2, a3, a4, a5, a6, a7⟩ := lp_plan k3 32 dFu 0 0 (dPut d 0 6 0) (by omega) (fuel_lt (by omega)) rfl (by rw [dPut_ne (by omega), e26]; exact hk)
  rw [dPut_ne (show ¬ (0 = 0 ∧ 26 = 6) by omega), e26] at a1
  refine ⟨h', a1, ?_⟩
  have kn : ((c.1 52 0) + 1).toInt = ((kk + 1 : Nat) : Int) := by rw [i_add1 (by omega), hk]; omega
  obtain ⟨R0, R2, R3, R4, R5, R6, R7, R8, R9, R10, R11⟩ := R
  have onC : ∀ {mk : Nat → Nat → Bool}, mk 52 0 = false → mk 1 1 = false → eqOn mk c (dPut (dPut c 52 0 (c.1 52 0 + 1)) 1 1 0) := fun x1 x2 => eqOn_pt (eqOn_put x1) x2
  have onM : ∀ {mk : Nat → Nat → Bool}, mk 0 6 = false → mk 0 26 = false → (∀ k, mk 9 k = false) → (∀ k, mk 10 k = false) → eqOn mk d h' := fun {mk} m6 m7 m2 m3 a k h => by
    rw [a2 a k (fun z => by rw [z, m2] at h; cases h) (fun z => by rw [z.1, m3] at h; cases h) (fun z => by rw [z.1, z.2, m7] at h; cases h), dPut_ne (fun z => by rw [z.1, z.2, m6] at h; cases h)]
  refine ⟨?_, Q2_e (onC rfl rfl) (onM rfl rfl (fun _ => rfl) (fun _ => rfl)) R2, Q3_e (onC rfl rfl) (onM rfl rfl (fun _ => rfl) (fun _ => rfl)) R3, mOK_e (onM rfl rfl (fun _ => rfl) (fun _ => rfl)) (by rw [a3]; rfl) R4, ?_, Q6_e (onC rfl rfl) (onM rfl rfl (fun _ => rfl) (fun _ => rfl)) R6, Q7_e (onC rfl rfl) (onM rfl rfl (fun _ => rfl) (fun _ => rfl)) R7, Q8_e (onC rfl rfl) (onM rfl rfl (fun _ => rfl) (fun _ => rfl)) R8, Q9_e (onC rfl rfl) (onM rfl rfl (fun _ => rfl) (fun _ => rfl)) R9, Q10_e (onC rfl rfl) (onM rfl rfl (fun _ => rfl) (fun _ => rfl)) R10, dXt_e (onC rfl rfl) R11⟩
  · have m6 : h'.1 0 6 = 0 := by rw [a2 0 6 (by omega) (by omega) (by omega), dPut_at]
    refine ⟨by rw [dPut_at, m6], by rw [dPut_at]; exact ⟨by decide, by decide⟩, fun k hk' => ?_⟩
    rw [dPut_at] at hk'
    exact absurd hk' (by show ¬ (k : Int) < 0; omega)
  · obtain ⟨q1, q2, q3⟩ := R5
    have m26 : h'.1 0 26 = c.1 52 0 + 1 := by rw [i_eq, a7, kn]
    refine ⟨?_, ?_, fun j hj => ?_⟩
    · rw [dPut_ne (by omega), dPut_at, m26]
    · rw [dPut_ne (by omega), dPut_at]; unfold bt; omega
    · rw [dPut_ne (by omega), dPut_at, kn] at hj
      by_cases z : j = kk
      · have e4 : (dPut d 0 6 0).1 10 4 = d.1 10 4 := dPut_ne (by omega)
        rw [z, a6, e4, dPut_ne (by omega), dPut_ne (by omega)]
        refine ⟨by rw [i_eq, n1, n2], by unfold bt; omega, fun i hi => ?_⟩
        rw [n1] at hi
        obtain ⟨y1, y2, y3, y4⟩ := D i (by omega)
        have b1 : h'.1 9 (2 * (16 * kk + i)) = d.1 9 (128 + 2 * i) := by
          rw [show 2 * (16 * kk + i) = 32 * kk + 2 * i by omega, a5 (2 * i) (by omega) (by omega), dPut_ne (by omega)]
        have b2 : h'.1 9 (2 * (16 * kk + i) + 1) = d.1 9 (129 + 2 * i) := by
          rw [show 2 * (16 * kk + i) + 1 = 32 * kk + (2 * i + 1) by omega, a5 (2 * i + 1) (by omega) (by omega), dPut_ne (by omega), show 128 + (2 * i + 1) = 129 + 2 * i by omega]
        rw [b1, b2, cWh_at k3, cDg_at k3, dPut_ne (by omega), dPut_ne (by omega), dPut_ne (by omega), dPut_ne (by omega)]
        exact ⟨y1, y2, y3, y4⟩
      · obtain ⟨x1, x2, x3⟩ := q3 j (by omega)
        have x22 := x2.2
        have e10 : h'.1 10 j = d.1 10 j := by rw [a2 10 j (by omega) (by omega) (by omega), dPut_ne (by omega)]
        have e9 : ∀ k, k < 32 * kk → h'.1 9 k = d.1 9 k := fun k hk' => by rw [a4 k (by omega), dPut_ne (by omega)]
        rw [e10, dPut_ne (by omega), dPut_ne (by omega)]
        refine ⟨x1, x2, fun i hi => ?_⟩
        obtain ⟨y1, y2, y3, y4⟩ := x3 i hi
        rw [cWh_at (by omega), cDg_at (by omega)] at *
        rw [e9 _ (by omega), e9 _ (by omega), dPut_ne (by omega), dPut_ne (by omega), dPut_ne (by omega), dPut_ne (by omega)]
        exact ⟨y1, y2, y3, y4⟩
end TY
