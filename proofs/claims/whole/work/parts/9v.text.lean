/-! PURE: text -/
section TW
variable {K : Int} {c d c' d' : dH} {P h0 : Nat}
theorem R_t0 (R : RelK K c d) (hK : 0 ≤ K) (P2 : 2 ≤ P) (C : CR P h0 c d) :
    ∃ c2 d2 : dH, f_X11_settle c = some (c.1 22 2, c2) ∧ f_X12_text_L215 dFu 0 (dPut (dPut d 0 6 0) 0 24 ((dPut d 0 6 0).1 0 25)) = some (c.1 22 2, d2) ∧ RelK K (dPut c2 1 1 0) d2 := by
  obtain ⟨r1, r2, r3, r4, r5, r6, r7, r8, r9⟩ := C
  obtain ⟨A, a1, a2, a3, a4, a5, a6⟩ := C_copy r3 r1
  obtain ⟨Bc, b1, b2, b3, b4, b5⟩ := C_begin (h := A) r3 (by rw [a5]; exact r1)
  have e25 : (dPut d 0 6 0).1 0 25 = c.1 22 2 := by rw [dPut_ne (by omega)]; exact r2.symm
  obtain ⟨d2, m1, m2, m3, m4, m5, m6, m7, m8, m9, m10, m11⟩ := M_settle (P := P) (h := dPut d 0 6 0) r3 (by rw [e25]; exact r1)
  have eS : f_X11_settle c = some (c.1 22 2, dPut (dPut (dPut Bc 70 0 0) 77 0 0) 0 15 0) := by
    unfold f_X11_settle f_X0_forget f_X10_forget
    rw [a1, Option.bind_some, b1, Option.bind_some, Option.bind_some, Option.bind_some]
    have : (dPut (dPut (dPut Bc 70 0 0) 77 0 0) 0 15 0).1 3 2 = c.1 22 2 := by rw [dPut_ne (by omega), dPut_ne (by omega), dPut_ne (by omega), b2 3 2 (by omega), a5]
    rw [this]
  refine ⟨_, d2, eS, by rw [m1, e25], ?_⟩
  generalize eE : dPut (dPut (dPut (dPut Bc 70 0 0) 77 0 0) 0 15 0) 1 1 0 = E
  have EB : ∀ a k, ¬ (a = 70 ∧ k = 0) → ¬ (a = 77 ∧ k = 0) → ¬ (a = 0 ∧ k = 15) → ¬ (a = 1 ∧ k = 1) → E.1 a k = Bc.1 a k := fun a k x1 x2 x3 x4 => by rw [← eE, dPut_ne x4, dPut_ne x3, dPut_ne x2, dPut_ne x1]
  have EA : ∀ a k, a ≠ 67 → ¬ (a = 70 ∧ k = 0) → ¬ (a = 77 ∧ k = 0) → ¬ (a = 0 ∧ k = 15) → ¬ (a = 1 ∧ k = 1) → E.1 a k = A.1 a k := fun a k x x1 x2 x3 x4 => by rw [EB a k x1 x2 x3 x4, b2 a k x]
  have Ec : ∀ a k, a ≠ 67 → ¬ (a = 70 ∧ k = 0) → ¬ (a = 77 ∧ k = 0) → ¬ (a = 0 ∧ k = 15) → ¬ (a = 1 ∧ k = 1) → a ≠ 4 → ¬ (6 ≤ a ∧ a ≤ 12) → ¬ (a = 3 ∧ k = 2) → ¬ (14 ≤ a ∧ a ≤ 21) → E.1 a k = c.1 a k := fun a k x x1 x2 x3 x4 y1 y2 y3 y4 => by rw [EA a k x x1 x2 x3 x4, a2 a k y1 y2 y3 y4]
  have E70 : E.1 70 0 = 0 := by rw [← eE, dPut_ne (by omega), dPut_ne (by omega), dPut_ne (by omega), dPut_at]
  have E77 : E.1 77 0 = 0 := by rw [← eE, dPut_ne (by omega), dPut_ne (by omega), dPut_at]
  have E15 : E.1 0 15 = 0 := by rw [← eE, dPut_ne (by omega), dPut_at]
  have E11 : E.1 1 1 = 0 := by rw [← eE, dPut_at]
  have E32 : E.1 3 2 = c.1 22 2 := by rw [EA 3 2 (by omega) (by omega) (by omega) (by omega) (by omega), a5]
  have E4 : ∀ k, k < 3 → E.1 4 k = c.1 23 k := fun k hk => by rw [EA 4 k (by omega) (by omega) (by omega) (by omega) (by omega), a3 k hk]
  have Ep : ∀ p, p < 7 → ∀ k, k < 5 → E.1 (6 + p) k = c.1 (25 + p) k := fun p hp k hk => by rw [EA _ k (by omega) (by omega) (by omega) (by omega) (by omega), a4 p hp k hk]
  have Md : ∀ a k, a ≠ 5 → a ≠ 7 → a ≠ 11 → ¬ (a = 0 ∧ (k = 24 ∨ k = 47 ∨ k = 35 ∨ k = 54 ∨ k = 6)) → d2.1 a k = d.1 a k := fun a k x1 x2 x3 x4 => by rw [m2 a k x1 x2 x3 (by omega), dPut_ne (by omega)]
  have M24 : d2.1 0 24 = c.1 22 2 := by rw [m4, e25]
  have M5 : ∀ k, k < 3 → d2.1 5 k = d.1 6 k := fun k hk => by rw [m5 k hk, dPut_ne (by omega)]
  have M7 : ∀ k, k < 35 → d2.1 7 k = d.1 8 k := fun k hk => by rw [m6 k hk, dPut_ne (by omega)]
  have Mz : ∀ k, k < 209 → (∀ p, p < P → k ≠ 3 * p + 1) → d2.1 11 k = 0 := m7
  have Mp : ∀ p, p < P → d2.1 11 (3 * p + 1) = c.1 (25 + p) 4 := fun p hp => by rw [m8 p hp, dPut_ne (by omega), ((r8 p hp) 4 (by omega)).1]
  have M6 : d2.1 0 6 = 0 := by rw [m2 0 6 (by omega) (by omega) (by omega) (by omega), dPut_at]
  have i60 : ∀ k, k < 3 → LOs k ≤ (c.1 23 k).toInt ∧ (c.1 23 k).toInt ≤ HIs k := fun k hk => (r7 k hk).2
  have j0 := i60 0 (by omega)
  have j1 := i60 1 (by omega)
  have j2 := i60 2 (by omega)
  have l0 : LOs 0 = 1 := rfl
  have l1 : LOs 1 = 1 := rfl
  have l2 : LOs 2 = 0 := rfl
  have g0 : HIs 0 = 60 := rfl
  have g1 : HIs 1 = 60 := rfl
  have g2 : HIs 2 = 9 := rfl
  rw [l0, g0] at j0
  rw [l1, g1] at j1
  rw [l2, g2] at j2
  have pl : ∀ p, p < P → ∀ k, k < 5 → 0 ≤ (c.1 (25 + p) k).toInt ∧ (c.1 (25 + p) k).toInt ≤ HIp k := fun p hp k hk => ((r8 p hp) k hk).2
  have t0 : (0 : Int32).toInt = 0 := rfl
  have s0 : E.1 67 0 = -1 := by rw [EB 67 0 (by omega) (by omega) (by omega) (by omega)]; exact b3
  have sk : ∀ k, 1 ≤ k → k < 21 → E.1 67 k = 0 := fun k h1 h2 => by rw [EB 67 k (by omega) (by omega) (by omega) (by omega)]; exact b4 k h1 h2
  have sp : ∀ p, p < 7 → E.1 67 (21 + p) = if p < P then c.1 (25 + p) 4 else 0 := fun p hp => by
    rw [EB 67 _ (by omega) (by omega) (by omega) (by omega), b5 p hp]
    by_cases q : p < P
    · rw [if_pos q, if_pos q, a4 p hp 4 (by omega)]
    · rw [if_neg q, if_neg q]
  obtain ⟨R0, R2, R3, R4, R5, R6, R7, R8, R9, R10, R11⟩ := R
  refine ⟨?_, ?_, Q3_e (fun a k h => ?_) (fun a k h => ?_) R3, mOK_e (fun a k h => ?_) (by rw [m3]; rfl) R4, Q5_e (fun a k h => ?_) (fun a k h => ?_) R5, ⟨?_, ?_, ?_⟩, ?_, ?_, ?_, Q10_e (fun a k h => ?_) (fun a k h => ?_) R10, dXt_e (fun a k h => ?_) R11⟩
  · refine ⟨by rw [E11, M6], by rw [E11]; exact ⟨by decide, by decide⟩, fun k hk' => ?_⟩
    rw [E11] at hk'
    exact absurd hk' (by show ¬ (k : Int) < 0; omega)
  · -- the city
    refine ⟨by rw [E32, M24], ⟨Or.inr (by rw [E32]; unfold bt; omega), by rw [E4 0 (by omega)]; unfold bt; omega, by rw [E4 1 (by omega)]; unfold bt; omega, by rw [E4 2 (by omega)]; unfold bt; omega, fun p hp => ?_⟩, fun k hk => by rw [E4 k hk, M5 k hk, (r7 k hk).1, Nat.zero_add], fun p hp k hk => ?_, fun i j hi hj => ?_⟩
    · rw [E32, r1] at hp
      have hp' : p < P := by omega
      rw [cSp_at (by omega), cSp_at (by omega), cSp_at (by omega), cSp_at (by omega), cSp_at (by omega), Ep p (by omega) 0 (by omega), Ep p (by omega) 1 (by omega), Ep p (by omega) 2 (by omega), Ep p (by omega) 3 (by omega), Ep p (by omega) 4 (by omega)]
      exact ⟨pl p hp' 0 (by omega), pl p hp' 1 (by omega), pl p hp' 2 (by omega), pl p hp' 3 (by omega), pl p hp' 4 (by omega)⟩
    · rw [E32, r1] at hp
      rw [cSp_at (by omega), Ep p (by omega) k hk, M7 _ (by omega), ((r8 p (by omega)) k hk).1]
    · rw [E32, r1] at hi hj
      rw [cWy_at (by omega), EA _ _ (by omega) (by omega) (by omega) (by omega) (by omega), a6 i j (by omega) (by omega)]
      unfold vl
      have e : ∀ i, i ≤ P → ∀ w, w < 2 → tl A 3 i w = tX (cSp E) i w := fun i hi w hw => by
        unfold tl tX
        by_cases z : i = 0
        · rw [if_pos z, if_pos z]
        · rw [if_neg z, if_neg z, cSp_at (by omega), show 3 + 3 + (i - 1) = 6 + (i - 1) by omega, Ep (i - 1) (by omega) w (by omega), a4 (i - 1) (by omega) w (by omega)]
      rw [e i (by omega) 0 (by omega), e j (by omega) 0 (by omega), e i (by omega) 1 (by omega), e j (by omega) 1 (by omega)]
  · unfold kC3 at h; simp only [Bool.or_eq_true, Bool.and_eq_true, beq_iff_eq, Nat.ble_eq] at h
    exact Ec a k (by omega) (by omega) (by omega) (by omega) (by omega) (by omega) (by omega) (by omega) (by omega)
  · unfold kM3 at h; simp only [Bool.or_eq_true, Bool.and_eq_true, beq_iff_eq, Nat.ble_eq] at h
    exact Md a k (by omega) (by omega) (by omega) (by omega)
  · unfold kM4 at h; simp only [Bool.or_eq_true, Bool.and_eq_true, beq_iff_eq, Nat.ble_eq] at h
    exact Md a k (by omega) (by omega) (by omega) (by omega)
  · unfold kC5 at h; simp only [Bool.or_eq_true, Bool.and_eq_true, beq_iff_eq, Nat.ble_eq] at h
    exact Ec a k (by omega) (by omega) (by omega) (by omega) (by omega) (by omega) (by omega) (by omega) (by omega)
  · unfold kM5 at h; simp only [Bool.or_eq_true, Bool.and_eq_true, beq_iff_eq, Nat.ble_eq] at h
    exact Md a k (by omega) (by omega) (by omega) (by omega)
  · -- where it stands
    have z : ∀ k, k < 209 → (∀ p, p < 7 → k ≠ 3 * p + 1) → d2.1 11 k = 0 := fun k hk hp => Mz k hk (fun p h => hp p (by omega))
    refine ⟨by rw [z 23 (by omega) (by omega), s0]; decide, by rw [sk 1 (by omega) (by omega), z 21 (by omega) (by omega)], ?_, by rw [sk 3 (by omega) (by omega), z 24 (by omega) (by omega)], ?_, by rw [sk 5 (by omega) (by omega), z 26 (by omega) (by omega)], by rw [sk 6 (by omega) (by omega), z 27 (by omega) (by omega)], fun p hp => ⟨by rw [sk (7 + p) (by omega) (by omega), z (3 * p + 2) (by omega) (by omega)], by rw [sk (14 + p) (by omega) (by omega), z (3 * p) (by omega) (by omega)], ?_⟩⟩
    · rw [sk 2 (by omega) (by omega), Mz 22 (by omega) (by omega)]
    · rw [sk 4 (by omega) (by omega), Mz 25 (by omega) (by omega)]
    · rw [sp p hp]
      by_cases q : p < P
      · rw [if_pos q, Mp p q]
      · rw [if_neg q, Mz (3 * p + 1) (by omega) (by omega)]
  · refine ⟨Or.inr (by rw [s0]; rfl), by rw [sk 1 (by omega) (by omega), E4 1 (by omega), t0]; omega, by rw [sk 2 (by omega) (by omega), E4 0 (by omega), t0]; omega, by rw [sk 3 (by omega) (by omega)]; unfold bt; rw [t0]; omega, by rw [sk 4 (by omega) (by omega)]; unfold bt; rw [t0]; omega, by rw [sk 6 (by omega) (by omega)]; unfold bt; rw [t0]; omega, fun p hp => ?_⟩
    rw [sk (7 + p) (by omega) (by omega), sk (14 + p) (by omega) (by omega), sk 1 (by omega) (by omega), sp p hp]
    refine ⟨by rw [t0]; omega, by unfold bt; rw [t0]; omega, ?_, fun _ => ⟨rfl, rfl⟩⟩
    by_cases q : p < P
    · rw [if_pos q]
      exact pl p q 4 (by omega)
    · rw [if_neg q]
      exact ⟨by decide, by decide⟩
  · have z28 : d2.1 11 28 = 0 := Mz 28 (by omega) (by omega)
    refine ⟨by rw [z28, sk 6 (by omega) (by omega), t0]; omega, fun i w hi _ => ?_⟩
    rw [z28, t0] at hi
    omega
  · -- nothing to undo
    have n70 : E.1 70 2 = c.1 70 2 := Ec 70 2 (by omega) (by omega) (by omega) (by omega) (by omega) (by omega) (by omega) (by omega) (by omega)
    have m35 : d2.1 0 35 = 0 := m10
    refine ⟨by rw [E70, m35], by rw [E70]; exact ⟨by decide, by decide⟩, by rw [n70]; exact R7.2.2.1, fun i hi => ?_, fun i hi => ?_⟩
    · rw [E70, t0] at hi
      omega
    · rw [E70, t0] at hi
      omega
  · refine ⟨by rw [E15, m11], Or.inl E15, fun z => ?_⟩
    rw [E15] at z
    exact absurd z (by decide)
  · refine ⟨by rw [E77, m9], by rw [E77]; exact ⟨by decide, by decide⟩, fun i hi => ?_⟩
    rw [E77, t0] at hi
    omega
  · unfold kC10 at h; simp only [Bool.and_eq_true, beq_iff_eq] at h
    exact Ec a k (by omega) (by omega) (by omega) (by omega) (by omega) (by omega) (by omega) (by omega) (by omega)
  · unfold kM10 at h; simp only [Bool.and_eq_true, beq_iff_eq] at h
    exact Md a k (by omega) (by omega) (by omega) (by omega)
  · unfold kCx at h; rw [Nat.ble_eq] at h
    exact Ec a k (by omega) (by omega) (by omega) (by omega) (by omega) (by omega) (by omega) (by omega) (by omega)
end TW
