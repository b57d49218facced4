/-! PURE: a day goes by -/
section DY
variable {K K' : Int} {t w : Nat} {hC hM hC' hM' : dH} {x : Int32}
theorem lp_end (ht : t = 66 ∨ t = 68) : ∀ (m n j : Nat) (y : Int32) (h : dH), m < n → y.toInt = j → j + m = 7 → ∃ h' : dH, f_X8_endDay_L41 t n y h = some (h'.1 (t + 1) 6, h') ∧ gC t h h' ∧ (∀ k, k < 7 ∨ 21 ≤ k → h'.1 (t + 1) k = h.1 (t + 1) k) ∧ (∀ p, p < 7 → h'.1 (t + 1) (7 + p) = if j ≤ p then 0 else h.1 (t + 1) (7 + p)) ∧ (∀ p, p < 7 → h'.1 (t + 1) (14 + p) = if j ≤ p then jmax 0 (h.1 (t + 1) (14 + p) - h.1 4 2) else h.1 (t + 1) (14 + p)) := by
  intro m
  have k7 : (7 : Int32).toInt = 7 := rfl
  induction m with
  | zero =>
    intro n j y h hn hy hj
    obtain ⟨n, rfl⟩ : ∃ k, n = k + 1 := ⟨n - 1, by omega⟩
    rw [f_X8_endDay_L41, if_neg (by rw [i_lt, k7]; omega)]
    exact ⟨h, rfl, gC_rf t h, fun _ _ => rfl, fun p hp => by rw [if_neg (by omega)], fun p hp => by rw [if_neg (by omega)]⟩
  | succ m ih =>
    intro n j y h hn hy hj
    obtain ⟨n, rfl⟩ : ∃ k, n = k + 1 := ⟨n - 1, by omega⟩
    have hi : dIn y 7 := ⟨by omega, by omega⟩
    have dy : dI y = j := dI_of hy
    rw [f_X8_endDay_L41, if_pos (by rw [i_lt, k7]; omega), if_pos (ixk7 hi).2, Option.bind_some, if_pos (ixk14 hi).2, Option.bind_some, if_pos (ixk14 hi).2, Option.bind_some, (ixk7 hi).1, (ixk14 hi).1, dy, dPut_ne (by omega), dPut_ne (by omega)]
    obtain ⟨h', e, g, z1, z2, z3⟩ := ih n (j + 1) (y + 1) (dPut (dPut h (t + 1) (7 + j) 0) (t + 1) (14 + j) (jmax 0 (h.1 (t + 1) (14 + j) - h.1 4 2))) (by omega) (y_suc hy (by omega)) (by omega)
    refine ⟨h', e, gC_tr (gC_tr (gC_put t h (7 + j) 0) (gC_put t _ (14 + j) _)) g, fun k hk => ?_, fun p hp => ?_, fun p hp => ?_⟩
    · rw [z1 k hk, dPut_ne (by omega), dPut_ne (by omega)]
    · rw [z2 p hp]
      by_cases q : j + 1 ≤ p
      · rw [if_pos q, if_pos (by omega)]
      · rw [if_neg q, dPut_ne (by omega)]
        by_cases q2 : p = j
        · rw [q2, dPut_at, if_pos (by omega)]
        · rw [dPut_ne (by omega), if_neg (by omega)]
    · rw [z3 p hp]
      by_cases q : j + 1 ≤ p
      · rw [if_pos q, if_pos (by omega), dPut_ne (by omega), dPut_ne (by omega), dPut_ne (by omega), dPut_ne (by omega)]
      · rw [if_neg q]
        by_cases q2 : p = j
        · rw [q2, dPut_at, if_pos (by omega)]
        · rw [dPut_ne (by omega), dPut_ne (by omega), if_neg (by omega)]
theorem C_endDay (ht : t = 66 ∨ t = 68) (h : dH) : ∃ h' : dH, f_X8_endDay t h = some (h'.1 (t + 1) 6, h') ∧ gC t h h' ∧ h'.1 (t + 1) 0 = -1 ∧ h'.1 (t + 1) 1 = 0 ∧ h'.1 (t + 1) 2 = 0 ∧ h'.1 (t + 1) 3 = 0 ∧ h'.1 (t + 1) 6 = h.1 (t + 1) 6 + 1 ∧ (∀ k, k = 4 ∨ k = 5 ∨ 21 ≤ k → h'.1 (t + 1) k = h.1 (t + 1) k) ∧ (∀ p, p < 7 → h'.1 (t + 1) (7 + p) = 0) ∧ (∀ p, p < 7 → h'.1 (t + 1) (14 + p) = jmax 0 (h.1 (t + 1) (14 + p) - h.1 4 2)) := by
  unfold f_X8_endDay
  simp only [Option.bind_some]
  have e6 : (dPut (dPut (dPut (dPut h (t + 1) 0 (-1)) (t + 1) 1 0) (t + 1) 2 0) (t + 1) 3 0).1 (t + 1) 6 = h.1 (t + 1) 6 := by rw [dPut_ne (by omega), dPut_ne (by omega), dPut_ne (by omega), dPut_ne (by omega)]
  rw [e6]
  obtain ⟨h', e, g, z1, z2, z3⟩ := lp_end ht 7 dFu 0 0 (dPut (dPut (dPut (dPut (dPut h (t + 1) 0 (-1)) (t + 1) 1 0) (t + 1) 2 0) (t + 1) 3 0) (t + 1) 6 (h.1 (t + 1) 6 + 1)) (fuel_lt (by omega)) rfl rfl
  refine ⟨h', e, gC_tr (gC_tr (gC_tr (gC_tr (gC_tr (gC_put t h 0 _) (gC_put t _ 1 _)) (gC_put t _ 2 _)) (gC_put t _ 3 _)) (gC_put t _ 6 _)) g, ?_, ?_, ?_, ?_, ?_, fun k hk => ?_, fun p hp => ?_, fun p hp => ?_⟩
  · rw [z1 0 (by omega), dPut_ne (by omega), dPut_ne (by omega), dPut_ne (by omega), dPut_ne (by omega), dPut_at]
  · rw [z1 1 (by omega), dPut_ne (by omega), dPut_ne (by omega), dPut_ne (by omega), dPut_at]
  · rw [z1 2 (by omega), dPut_ne (by omega), dPut_ne (by omega), dPut_at]
  · rw [z1 3 (by omega), dPut_ne (by omega), dPut_at]
  · rw [z1 6 (by omega), dPut_at]
  · rw [z1 k (by omega), dPut_ne (by omega), dPut_ne (by omega), dPut_ne (by omega), dPut_ne (by omega), dPut_ne (by omega)]
  · rw [z2 p hp, if_pos (by omega)]
  · rw [z3 p hp, if_pos (by omega), dPut_ne (by omega), dPut_ne (by omega), dPut_ne (by omega), dPut_ne (by omega), dPut_ne (by omega), dPut_ne (by omega), dPut_ne (by omega), dPut_ne (by omega), dPut_ne (by omega), dPut_ne (by omega)]
theorem lp_goDay (hw : w = 11 ∨ w = 12) : ∀ (m n j : Nat) (y : Int32) (h : dH), m < n → y.toInt = j → (0 ≤ (h.1 0 24).toInt ∧ (h.1 0 24).toInt ≤ 7) → j + m = dI (h.1 0 24) → ∃ h' : dH, f_X12_goDay_L92 w n y h = some h' ∧ (∀ a k, a ≠ w → h'.1 a k = h.1 a k) ∧ h'.2 = h.2 ∧ h'.1 w 21 = 0 ∧ h'.1 w 22 = 0 ∧ h'.1 w 23 = 0 ∧ h'.1 w 24 = 0 ∧ h'.1 w 27 = h.1 w 27 + 1 ∧ (∀ k, k = 25 ∨ k = 26 ∨ 28 ≤ k → h'.1 w k = h.1 w k) ∧ (∀ p, p < 7 → h'.1 w (3 * p + 1) = h.1 w (3 * p + 1)) ∧
    (∀ p, p < 7 → h'.1 w (3 * p) = if j ≤ p ∧ p < dI (h.1 0 24) then jmax 0 (h.1 w (3 * p) - h.1 5 2) else h.1 w (3 * p)) ∧ (∀ p, p < 7 → h'.1 w (3 * p + 2) = if j ≤ p ∧ p < dI (h.1 0 24) then 0 else h.1 w (3 * p + 2)) := by
  intro m
  induction m with
  | zero =>
    intro n j y h hn hy h7 hj
    obtain ⟨n, rfl⟩ : ∃ k, n = k + 1 := ⟨n - 1, by omega⟩
    have dn := dI_c h7.1
    rw [f_X12_goDay_L92, if_neg (by rw [i_lt]; omega)]
    simp only [Option.bind_some]
    have e27 : (dPut (dPut (dPut (dPut h w 21 0) w 22 0) w 23 0) w 24 0).1 w 27 = h.1 w 27 := by rw [dPut_ne (by omega), dPut_ne (by omega), dPut_ne (by omega), dPut_ne (by omega)]
    rw [e27]
    refine ⟨_, rfl, fun a k ha => ?_, rfl, ?_, ?_, ?_, ?_, dPut_at, fun k hk => ?_, fun p hp => ?_, fun p hp => ?_, fun p hp => ?_⟩
    · rw [dPut_ne (by omega), dPut_ne (by omega), dPut_ne (by omega), dPut_ne (by omega), dPut_ne (by omega)]
    · rw [dPut_ne (by omega), dPut_ne (by omega), dPut_ne (by omega), dPut_ne (by omega), dPut_at]
    · rw [dPut_ne (by omega), dPut_ne (by omega), dPut_ne (by omega), dPut_at]
    · rw [dPut_ne (by omega), dPut_ne (by omega), dPut_at]
    · rw [dPut_ne (by omega), dPut_at]
    · rw [dPut_ne (by omega), dPut_ne (by omega), dPut_ne (by omega), dPut_ne (by omega), dPut_ne (by omega)]
    · rw [dPut_ne (by omega), dPut_ne (by omega), dPut_ne (by omega), dPut_ne (by omega), dPut_ne (by omega)]
    · rw [if_neg (by omega), dPut_ne (by omega), dPut_ne (by omega), dPut_ne (by omega), dPut_ne (by omega), dPut_ne (by omega)]
    · rw [if_neg (by omega), dPut_ne (by omega), dPut_ne (by omega), dPut_ne (by omega), dPut_ne (by omega), dPut_ne (by omega)]
  | succ m ih =>
    intro n j y h hn hy h7 hj
    obtain ⟨n, rfl⟩ : ∃ k, n = k + 1 := ⟨n - 1, by omega⟩
    have dn := dI_c h7.1
    have hi : dIn y 7 := ⟨by omega, by omega⟩
    have dy : dI y = j := dI_of hy
    rw [f_X12_goDay_L92, if_pos (by rw [i_lt]; omega), if_pos (ix0 hi).2, if_pos (ix0 hi).2, Option.bind_some, if_pos (ix2 hi).2, Option.bind_some, (ix0 hi).1, (ix2 hi).1, dy]
    have en : (dPut (dPut h w (3 * j) (jmax 0 (h.1 w (3 * j) - h.1 5 2))) w (3 * j + 2) 0).1 0 24 = h.1 0 24 := by rw [dPut_ne (by omega), dPut_ne (by omega)]
    have e5 : (dPut (dPut h w (3 * j) (jmax 0 (h.1 w (3 * j) - h.1 5 2))) w (3 * j + 2) 0).1 5 2 = h.1 5 2 := by rw [dPut_ne (by omega), dPut_ne (by omega)]
    obtain ⟨h', e, f1, f2, a1, a2, a3, a4, a5, z1, z2, z3, z4⟩ := ih n (j + 1) (y + 1) (dPut (dPut h w (3 * j) (jmax 0 (h.1 w (3 * j) - h.1 5 2))) w (3 * j + 2) 0) (by omega) (y_suc hy (by omega)) (by rw [en]; exact h7) (by rw [en]; omega)
    refine ⟨h', e, fun a k ha => ?_, f2, a1, a2, a3, a4, ?_, fun k hk => ?_, fun p hp => ?_, fun p hp => ?_, fun p hp => ?_⟩
    · rw [f1 a k ha, dPut_ne (by omega), dPut_ne (by omega)]
    · rw [a5, dPut_ne (by omega), dPut_ne (by omega)]
    · rw [z1 k hk, dPut_ne (by omega), dPut_ne (by omega)]
    · rw [z2 p hp, dPut_ne (by omega), dPut_ne (by omega)]
    · rw [z3 p hp, en, e5]
      by_cases q : j + 1 ≤ p ∧ p < dI (h.1 0 24)
      · rw [if_pos q, if_pos (by omega), dPut_ne (by omega), dPut_ne (by omega)]
      · rw [if_neg q, dPut_ne (by omega)]
        by_cases q2 : p = j
        · rw [q2, dPut_at, if_pos (by omega)]
        · rw [dPut_ne (by omega), if_neg (by omega)]
    · rw [z4 p hp, en]
      by_cases q : j + 1 ≤ p ∧ p < dI (h.1 0 24)
      · rw [if_pos q, if_pos (by omega)]
      · rw [if_neg q]
        by_cases q2 : p = j
        · rw [q2, dPut_at, if_pos (by omega)]
        · rw [dPut_ne (by omega), dPut_ne (by omega), if_neg (by omega)]
def tmM (w : Nat) (h : dH) : Int32 := tm (fun p => h.1 w (3 * p)) (fun p => h.1 w (3 * p + 1)) (dI (h.1 0 24)) 0 0
theorem tmM_c {h h' : dH} (h7 : 0 ≤ (h.1 0 24).toInt ∧ (h.1 0 24).toInt ≤ 7) (e : h'.1 0 24 = h.1 0 24) (e2 : ∀ k, k < 21 → h'.1 w k = h.1 w k) : tmM w h' = tmM w h := by
  unfold tmM
  rw [e]
  have dn := dI_c h7.1
  exact tm_c _ _ _ (fun i _ hi => ⟨e2 _ (by omega), e2 _ (by omega)⟩)
theorem M_J46 (hw : w = 11 ∨ w = 12) {h : dH} {c : Nat} (hc : (h.1 w 28).toInt = c) (hc2 : c < 60) (h7 : 0 ≤ (h.1 0 24).toInt ∧ (h.1 0 24).toInt ≤ 7) : ∃ h' : dH, f_X12_goDay_J46 w h = some h' ∧ (∀ a k, a ≠ w → h'.1 a k = h.1 a k) ∧ h'.2 = h.2 ∧ h'.1 w 21 = 0 ∧ h'.1 w 22 = 0 ∧ h'.1 w 23 = 0 ∧ h'.1 w 24 = 0 ∧ h'.1 w 27 = h.1 w 27 + 1 ∧ (∀ k, k = 25 ∨ k = 26 → h'.1 w k = h.1 w k) ∧ (∀ p, p < 7 → h'.1 w (3 * p + 1) = h.1 w (3 * p + 1)) ∧
    (∀ p, p < 7 → h'.1 w (3 * p) = if p < dI (h.1 0 24) then jmax 0 (h.1 w (3 * p) - h.1 5 2) else h.1 w (3 * p)) ∧ (∀ p, p < 7 → h'.1 w (3 * p + 2) = if p < dI (h.1 0 24) then 0 else h.1 w (3 * p + 2)) ∧ (h'.1 w 28).toInt = (c + 1 : Nat) ∧
    (∀ k, 29 ≤ k → h'.1 w k = if k = 29 + 3 * c then h.1 w 21 else if k = 29 + 3 * c + 1 then h.1 w 24 else if k = 29 + 3 * c + 2 then tmM w h else h.1 w k) := by
  have k3 : (3 : Int32).toInt = 3 := rfl
  have k29 : (29 : Int32).toInt = 29 := rfl
  have k2 : (2 : Int32).toInt = 2 := rfl
  have e0 : (29 + 3 * h.1 w 28).toInt = ((29 + 3 * c : Nat) : Int) := by
    have : (3 * h.1 w 28).toInt = 3 * c := by rw [i_mul (by rw [k3, hc]; omega), k3, hc]
    rw [i_add (by rw [this, k29]; omega), this, k29]; omega
  have e1 : (29 + 3 * h.1 w 28 + 1).toInt = ((29 + 3 * c + 1 : Nat) : Int) := by rw [i_add1 (by omega), e0]; omega
  have e2 : (29 + 3 * h.1 w 28 + 2).toInt = ((29 + 3 * c + 2 : Nat) : Int) := by rw [i_add (by rw [e0, k2]; omega), e0, k2]; omega
  unfold f_X12_goDay_J46
  rw [Option.bind_some, if_pos (dIn_of e0 (by omega)), Option.bind_some, if_pos (dIn_of e1 (by omega)), Option.bind_some, dI_of e0, dI_of e1, dI_of e2]
  have x1 : (dPut h w (29 + 3 * c) (h.1 w 21)).1 w 24 = h.1 w 24 := dPut_ne (by omega)
  rw [x1]
  generalize eA : dPut (dPut h w (29 + 3 * c) (h.1 w 21)) w (29 + 3 * c + 1) (h.1 w 24) = A
  have A24 : A.1 0 24 = h.1 0 24 := by rw [← eA, dPut_ne (by omega), dPut_ne (by omega)]
  have Ak : ∀ k, k < 29 → A.1 w k = h.1 w k := fun k hk => by rw [← eA, dPut_ne (by omega), dPut_ne (by omega)]
  have AT : f_X12_tooMuch w A = some (tmM w h) := by
    rw [M_tooMuch w (by rw [A24]; exact h7)]
    show some (tmM w A) = _
    rw [tmM_c h7 A24 (fun k hk => Ak k (by omega))]
  rw [AT, Option.bind_some, if_pos (dIn_of e2 (by omega)), Option.bind_some, Option.bind_some, dPut_ne (by omega), Ak 28 (by omega)]
  generalize eB : dPut (dPut A w (29 + 3 * c + 2) (tmM w h)) w 28 (h.1 w 28 + 1) = B
  have B24 : B.1 0 24 = h.1 0 24 := by rw [← eB, dPut_ne (by omega), dPut_ne (by omega), A24]
  have B5 : B.1 5 2 = h.1 5 2 := by rw [← eB, dPut_ne (by omega), dPut_ne (by omega), ← eA, dPut_ne (by omega), dPut_ne (by omega)]
  have Ba : ∀ a k, a ≠ w → B.1 a k = h.1 a k := fun a k ha => by rw [← eB, dPut_ne (by omega), dPut_ne (by omega), ← eA, dPut_ne (by omega), dPut_ne (by omega)]
  have Bk : ∀ k, k < 28 → B.1 w k = h.1 w k := fun k hk => by rw [← eB, dPut_ne (by omega), dPut_ne (by omega), Ak k (by omega)]
  have B2 : B.2 = h.2 := by rw [← eB, ← eA]; rfl
  have B28 : B.1 w 28 = h.1 w 28 + 1 := by rw [← eB, dPut_at]
  have BL : ∀ k, 29 ≤ k → B.1 w k = if k = 29 + 3 * c then h.1 w 21 else if k = 29 + 3 * c + 1 then h.1 w 24 else if k = 29 + 3 * c + 2 then tmM w h else h.1 w k := fun k hk => by
    rw [← eB, dPut_ne (by omega)]
    by_cases q2 : k = 29 + 3 * c + 2
    · rw [if_neg (by omega), if_neg (by omega), if_pos q2, q2, dPut_at]
    · rw [dPut_ne (by omega), ← eA]
      by_cases q1 : k = 29 + 3 * c + 1
      · rw [if_neg (by omega), if_pos q1, q1, dPut_at]
      · rw [dPut_ne (by omega)]
        by_cases q0 : k = 29 + 3 * c
        · rw [if_pos q0, q0, dPut_at]
        · rw [dPut_ne (by omega), if_neg q0, if_neg q1, if_neg q2]
  obtain ⟨h', e, f1, f2, a1, a2, a3, a4, a5, z1, z2, z3, z4⟩ := lp_goDay hw (dI (B.1 0 24)) dFu 0 0 B (fuel_lt (by have := dI_c h7.1; rw [B24]; omega)) rfl (by rw [B24]; exact h7) (by omega)
  refine ⟨h', e, fun a k ha => by rw [f1 a k ha, Ba a k ha], f2.trans B2, a1, a2, a3, a4, by rw [a5, Bk 27 (by omega)], fun k hk => by rw [z1 k (by omega), Bk k (by omega)], fun p hp => by rw [z2 p hp, Bk _ (by omega)], fun p hp => ?_, fun p hp => ?_, ?_, fun k hk => ?_⟩
  · rw [z3 p hp, B24, B5, Bk _ (by omega)]
    by_cases q : p < dI (h.1 0 24)
    · rw [if_pos ⟨by omega, q⟩, if_pos q]
    · rw [if_neg (fun z => q z.2), if_neg q]
  · rw [z4 p hp, B24, Bk _ (by omega)]
    by_cases q : p < dI (h.1 0 24)
    · rw [if_pos ⟨by omega, q⟩, if_pos q]
    · rw [if_neg (fun z => q z.2), if_neg q]
  · rw [z1 28 (by omega), B28, i_add1 (by omega), hc]; omega
  · rw [z1 k (by omega), BL k hk]
theorem M_goDay (hw : w = 11 ∨ w = 12) {h : dH} {c : Nat} (hc : (h.1 w 28).toInt = c) (hc2 : c ≤ 60) (h7 : 0 ≤ (h.1 0 24).toInt ∧ (h.1 0 24).toInt ≤ 7) : ∃ h' : dH, f_X12_goDay w h = some h' ∧ (∀ a k, a ≠ w → h'.1 a k = h.1 a k) ∧ h'.2 = h.2 ∧ h'.1 w 21 = 0 ∧ h'.1 w 22 = 0 ∧ h'.1 w 23 = 0 ∧ h'.1 w 24 = 0 ∧ h'.1 w 27 = h.1 w 27 + 1 ∧ (∀ k, k = 25 ∨ k = 26 → h'.1 w k = h.1 w k) ∧ (∀ p, p < 7 → h'.1 w (3 * p + 1) = h.1 w (3 * p + 1)) ∧
    (∀ p, p < 7 → h'.1 w (3 * p) = if p < dI (h.1 0 24) then jmax 0 (h.1 w (3 * p) - h.1 5 2) else h.1 w (3 * p)) ∧ (∀ p, p < 7 → h'.1 w (3 * p + 2) = if p < dI (h.1 0 24) then 0 else h.1 w (3 * p + 2)) ∧ (h'.1 w 28).toInt = (min 60 (c + 1) : Nat) ∧
    (∀ i v, v < 3 → i < min 60 (c + 1) → h'.1 w (29 + 3 * i + v) = if i = min 59 c then (if v = 0 then h.1 w 21 else if v = 1 then h.1 w 24 else tmM w h) else h.1 w (29 + 3 * (if c = 60 then i + 1 else i) + v)) := by
  unfold f_X12_goDay
  by_cases q : h.1 w 28 = 60
  · have q60 : c = 60 := by rw [q] at hc; have : (60 : Int32).toInt = 60 := rfl; omega
    rw [if_pos q, lp_log w 177 dFu 1 1 h (fuel_lt (by omega)) rfl rfl (by omega)]
    show ∃ h' : dH, f_X12_goDay_J46 w (dPut (dCpy h w w 32 29 177) w 28 ((dCpy h w w 32 29 177).1 w 28 - 1)) = some h' ∧ _
    have e28 : (dCpy h w w 32 29 177).1 w 28 - 1 = 59 := by rw [dCpy_r, if_neg (by omega), q]; rfl
    rw [e28]
    generalize eA : dPut (dCpy h w w 32 29 177) w 28 59 = A
    have Aa : ∀ a k, a ≠ w → A.1 a k = h.1 a k := fun a k ha => by rw [← eA, dPut_ne (by omega), dCpy_ne ha]
    have Ak : ∀ k, k < 28 → A.1 w k = h.1 w k := fun k hk => by rw [← eA, dPut_ne (by omega), dCpy_r, if_neg (by omega)]
    have AL : ∀ k, 29 ≤ k → k < 206 → A.1 w k = h.1 w (k + 3) := fun k h1 h2 => by
      rw [← eA, dPut_ne (by omega), dCpy_r, if_pos (by omega)]
      exact ixe _ (by omega)
    have A2 : A.2 = h.2 := by rw [← eA]; rfl
    have A24 : A.1 0 24 = h.1 0 24 := Aa 0 24 (by omega)
    obtain ⟨h', e, f1, f2, a1, a2, a3, a4, a5, z1, z2, z3, z4, z5, z6⟩ := M_J46 hw (h := A) (c := 59) (by rw [← eA, dPut_at]; rfl) (by omega) (by rw [A24]; exact h7)
    refine ⟨h', e, fun a k ha => by rw [f1 a k ha, Aa a k ha], f2.trans A2, a1, a2, a3, a4, by rw [a5, Ak 27 (by omega)], fun k hk => by rw [z1 k hk, Ak k (by omega)], fun p hp => by rw [z2 p hp, Ak _ (by omega)], fun p hp => by rw [z3 p hp, A24, Ak _ (by omega), Aa 5 2 (by omega)], fun p hp => by rw [z4 p hp, A24, Ak _ (by omega)], by rw [z5, q60]; rfl, fun i v hv hi => ?_⟩
    rw [z6 _ (by omega), q60]
    have tA : tmM w A = tmM w h := tmM_c h7 A24 (fun k hk => Ak k (by omega))
    by_cases q1 : i = 59
    · rw [if_pos (show i = min 59 60 by omega), q1]
      rcases (show v = 0 ∨ v = 1 ∨ v = 2 by omega) with rfl | rfl | rfl
      · rw [if_pos (by omega), if_pos rfl, Ak 21 (by omega)]
      · rw [if_neg (by omega), if_pos (by omega), if_neg (by omega), if_pos rfl, Ak 24 (by omega)]
      · rw [if_neg (by omega), if_neg (by omega), if_pos (by omega), if_neg (by omega), if_neg (by omega), tA]
    · rw [if_neg (by omega), if_neg (by omega), if_neg (by omega), if_neg (by omega), if_pos rfl, AL _ (by omega) (by omega)]
      exact ixe _ (by omega)
  · have q60 : c < 60 := by rw [i_eq, hc, show (60 : Int32).toInt = 60 from rfl] at q; omega
    rw [if_neg q]
    obtain ⟨h', e, f1, f2, a1, a2, a3, a4, a5, z1, z2, z3, z4, z5, z6⟩ := M_J46 hw hc q60 h7
    refine ⟨h', e, f1, f2, a1, a2, a3, a4, a5, z1, z2, z3, z4, by rw [z5]; omega, fun i v hv hi => ?_⟩
    rw [z6 _ (by omega)]
    by_cases q1 : i = c
    · rw [if_pos (show i = min 59 c by omega), q1]
      rcases (show v = 0 ∨ v = 1 ∨ v = 2 by omega) with rfl | rfl | rfl
      · rw [if_pos (by omega), if_pos rfl]
      · rw [if_neg (by omega), if_pos (by omega), if_neg (by omega), if_pos rfl]
      · rw [if_neg (by omega), if_neg (by omega), if_pos (by omega), if_neg (by omega), if_neg (by omega)]
    · rw [if_neg (by omega), if_neg (by omega), if_neg (by omega), if_neg (by omega), if_neg (by omega)]
/-- a day, on both sides; the log of the reference -/
theorem R_day (h : tw t w) (S : ST K t w hC hM) (b : (hC.1 (t + 1) 6).toInt < 999) {c : Nat} (hc : (hM.1 w 28).toInt = c) :
    ∃ (v : Int32) (hC' hM' : dH), f_X8_endDay t hC = some (v, hC') ∧ f_X12_goDay w hM = some hM' ∧ v = hM'.1 w 27 ∧ 0 ≤ v.toInt ∧ SN K t w hC hM hC' hM' ∧ (hC'.1 (t + 1) 6).toInt = (hC.1 (t + 1) 6).toInt + 1 ∧ (hM'.1 w 28).toInt = (min 60 (c + 1) : Nat) ∧
    (∀ i v, v < 3 → i < min 60 (c + 1) → hM'.1 w (29 + 3 * i + v) = if i = min 59 c then (if v = 0 then hM.1 w 21 else if v = 1 then hM.1 w 24 else tmM w hM) else hM.1 w (29 + 3 * (if c = 60 then i + 1 else i) + v)) := by
  obtain ⟨C, L3, mo, s, sw, hat, lg⟩ := S
  have ht := h.t
  have hw := h.w
  obtain ⟨s0, s1, s2, s3, s4, s5, s6, s7⟩ := s
  obtain ⟨w0, w1, w2, w3, w4, w6, w7⟩ := sw
  have lg1 := lg.1
  have lg2 := lg.2
  have w61 := w6.1
  have w31 := w3.1
  have w32 := w3.2
  have r2 := C.2.1.2.2.2.1.1
  have r22 := C.2.1.2.2.2.1.2
  have nx := C.nat
  obtain ⟨c1, e1, g1, y0, y1, y2, y3, y6, yk, yv, yt⟩ := C_endDay ht hC
  obtain ⟨m1, e2, f1, f2, a1, a2, a3, a4, a5, z1, z2, z3, z4, z5, z6⟩ := M_goDay hw hc (by omega) C.h7
  rw [C.np] at z3 z4
  have e6 : (hC.1 (t + 1) 6 + 1).toInt = (hC.1 (t + 1) 6).toInt + 1 := i_add1 (by omega)
  have tr : ∀ p, p < 7 → c1.1 (t + 1) (14 + p) = m1.1 w (3 * p) := fun p hp => by
    obtain ⟨q1, q2, q3⟩ := s7 p hp
    obtain ⟨p1, p2, p3, p4⟩ := w7 p hp
    rw [yt p hp, z3 p hp, q2, ← C.2.2.1 2 (by omega)]
    by_cases q : p < dI (hC.1 3 2)
    · rw [if_pos q]
    · rw [if_neg q, ← q2, (p4 (by omega)).2, i_eq, i_jmax, t0, i_sub (by rw [t0]; omega), t0]
      omega
  refine ⟨_, c1, m1, e1, e2, by rw [y6, a5, s6], by rw [y6, e6]; omega, ⟨g1, gM_row hw f1 f2, ?_, ?_, ?_, ?_⟩, by rw [y6, e6], z5, z6⟩
  · refine ⟨by rw [a3, y0]; rfl, by rw [y1, a1], by rw [y2, a2], by rw [y3, a4], by rw [yk 4 (by omega), z1 25 (by omega), s4], by rw [yk 5 (by omega), z1 26 (by omega), s5], by rw [y6, a5, s6], fun p hp => ⟨?_, tr p hp, ?_⟩⟩
    · rw [yv p hp, z4 p hp]
      by_cases q : p < dI (hC.1 3 2)
      · rw [if_pos q]
      · rw [if_neg q, ← (s7 p hp).1, ((w7 p hp).2.2.2 (by omega)).1]
    · rw [yk (21 + p) (by omega), z2 p hp, (s7 p hp).2.2]
  · refine ⟨Or.inr (by rw [y0]; rfl), by rw [y1, t0]; omega, by rw [y2, t0]; omega, by rw [y3]; exact ⟨by rw [t0]; omega, by rw [t0]; omega⟩, by rw [yk 4 (by omega)]; exact w4, by rw [y6]; exact ⟨by omega, by omega⟩, fun p hp => ?_⟩
    obtain ⟨p1, p2, p3, p4⟩ := w7 p hp
    have p21 := p2.1
    have p22 := p2.2
    have ej : (jmax 0 (hC.1 (t + 1) (14 + p) - hC.1 4 2)).toInt = max 0 ((hC.1 (t + 1) (14 + p)).toInt - (hC.1 4 2).toInt) := by
      rw [i_jmax, t0, i_sub (by have := i_rng (hC.1 (t + 1) (14 + p)); omega)]
    rw [yv p hp, y1, yk (21 + p) (by omega), yt p hp, t0]
    refine ⟨by omega, ⟨by rw [ej]; omega, by rw [ej]; omega⟩, p3, fun z => ⟨rfl, ?_⟩⟩
    rw [i_eq, ej, (p4 z).2, t0]
    omega
  · show -1 ≤ _ ∧ _
    rw [y0, tm1]
    have := hat.1
    have := hat.2
    omega
  · exact ⟨by omega, by omega⟩
theorem C_write (C : Ct hC hM) {d : Nat} (hd : (hC.1 67 6).toInt = d) (hd2 : d < 1000) : ∃ h' : dH, f_X4_write hC = some h' ∧ (∀ a k, a ≠ 73 → h'.1 a k = hC.1 a k) ∧ h'.2 = hC.2 ∧ (∀ k, h'.1 73 k = if k = d % 100 * 3 then hC.1 67 1 else if k = d % 100 * 3 + 1 then hC.1 67 3 else if k = d % 100 * 3 + 2 then tm (fun p => hC.1 67 (14 + p)) (fun p => hC.1 67 (21 + p)) (dI (hC.1 3 2)) 0 0 else hC.1 73 k) := by
  obtain ⟨v, ev, hv⟩ := C_rowOf hC hd hd2
  have hm : d % 100 < 100 := Nat.mod_lt _ (by omega)
  have k2 : (2 : Int32).toInt = 2 := rfl
  have e1 : (v + 1).toInt = ((d % 100 * 3 + 1 : Nat) : Int) := by rw [i_add1 (by omega), hv]; omega
  have e2 : (v + 2).toInt = ((d % 100 * 3 + 2 : Nat) : Int) := by rw [i_add (by rw [hv, k2]; omega), hv, k2]; omega
  unfold f_X4_write
  rw [show f_X8_daysGone hC = hC.1 67 6 from rfl, ev, Option.bind_some, if_pos (dIn_of hv (by omega)), Option.bind_some, if_pos (dIn_of e1 (by omega)), Option.bind_some, dI_of hv, dI_of e1, dI_of e2]
  have x1 : f_X8_seenToday (dPut hC 73 (d % 100 * 3) (f_X8_hour hC)) = hC.1 67 3 := rfl
  rw [x1, show f_X8_hour hC = hC.1 67 1 from rfl]
  generalize eA : dPut (dPut hC 73 (d % 100 * 3) (hC.1 67 1)) 73 (d % 100 * 3 + 1) (hC.1 67 3) = A
  have Aa : ∀ a k, a ≠ 73 → A.1 a k = hC.1 a k := fun a k ha => by rw [← eA, dPut_ne (by omega), dPut_ne (by omega)]
  have CA : Ct A hM := Ct_C C (fun a k ha => Aa a k (by omega))
  rw [C_tooMuch CA, Option.bind_some, if_pos (dIn_of e2 (by omega)), Aa 3 2 (by omega)]
  have eT : tm (fun p => A.1 67 (14 + p)) (fun p => A.1 67 (21 + p)) (dI (hC.1 3 2)) 0 0 = tm (fun p => hC.1 67 (14 + p)) (fun p => hC.1 67 (21 + p)) (dI (hC.1 3 2)) 0 0 := tm_c _ _ _ (fun i _ _ => ⟨Aa _ _ (by omega), Aa _ _ (by omega)⟩)
  rw [eT]
  refine ⟨_, rfl, fun a k ha => by rw [dPut_ne (by omega), Aa a k ha], by rw [← eA]; rfl, fun k => ?_⟩
  by_cases q2 : k = d % 100 * 3 + 2
  · rw [if_neg (by omega), if_neg (by omega), if_pos q2, q2, dPut_at]
  · rw [dPut_ne (by omega), ← eA]
    by_cases q1 : k = d % 100 * 3 + 1
    · rw [if_neg (by omega), if_pos q1, q1, dPut_at]
    · rw [dPut_ne (by omega)]
      by_cases q0 : k = d % 100 * 3
      · rw [if_pos q0, q0, dPut_at]
      · rw [dPut_ne (by omega), if_neg q0, if_neg q1, if_neg q2]
end DY
