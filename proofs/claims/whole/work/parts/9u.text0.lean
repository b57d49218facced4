/-! PURE: a CITY is settled -/
section TZ
variable {K : Int} {c d c' d' : dH} {P : Nat}
theorem lp_zero : ∀ (m n j : Nat) (y : Int32) (h : dH), m < n → y.toInt = j → j + m = 209 → ∃ h' : dH, f_X12_text_L266 n y h = f_X12_text_L288 dFu 0 h' ∧ (∀ a k, a ≠ 11 → h'.1 a k = h.1 a k) ∧ h'.2 = h.2 ∧ (∀ k, k < j → h'.1 11 k = h.1 11 k) ∧ (∀ k, j ≤ k → k < 209 → h'.1 11 k = 0) := by
  intro m
  have k209 : (209 : Int32).toInt = 209 := rfl
  induction m with
  | zero =>
    intro n j y h hn hy hj
    obtain ⟨n, rfl⟩ : ∃ z, n = z + 1 := ⟨n - 1, by omega⟩
    rw [f_X12_text_L266, if_neg (show ¬ y < 209 by rw [i_lt, k209]; omega)]
    exact ⟨h, rfl, fun _ _ _ => rfl, rfl, fun _ _ => rfl, fun k h1 h2 => absurd h2 (by omega)⟩
  | succ m ih =>
    intro n j y h hn hy hj
    obtain ⟨n, rfl⟩ : ∃ z, n = z + 1 := ⟨n - 1, by omega⟩
    rw [f_X12_text_L266, if_pos (show y < 209 by rw [i_lt, k209]; omega), if_pos (dIn_of hy (by omega)), dI_of hy, Option.bind_some]
    obtain ⟨h', a1, a2, a3, a4, a5⟩ := ih n (j + 1) (y + 1) (dPut h 11 j 0) (by omega) (by rw [i_add1 (by omega), hy]; omega) (by omega)
    refine ⟨h', a1, fun a k hk => by rw [a2 a k hk, dPut_ne (fun z => hk z.1)], a3, fun k hk => by rw [a4 k (by omega), dPut_ne (by omega)], fun k h1 h2 => ?_⟩
    by_cases z : k = j
    · rw [z, a4 j (by omega), dPut_at]
    · exact a5 k (by omega) h2
theorem lp_pat (hP : P ≤ 7) : ∀ (m n j : Nat) (y : Int32) (h : dH), m < n → y.toInt = j → j + m = P → (h.1 0 24).toInt = P → ∃ h' : dH, f_X12_text_L288 n y h = some (h.1 0 24, h') ∧ (∀ a k, a ≠ 11 → ¬ (a = 0 ∧ (k = 47 ∨ k = 35 ∨ k = 54)) → h'.1 a k = h.1 a k) ∧ h'.2 = h.2 ∧ (∀ k, (∀ p, j ≤ p → p < P → k ≠ 3 * p + 1) → h'.1 11 k = h.1 11 k) ∧ (∀ p, j ≤ p → p < P → h'.1 11 (3 * p + 1) = h.1 7 (5 * p + 4)) ∧ h'.1 0 47 = 0 ∧ h'.1 0 35 = 0 ∧ h'.1 0 54 = 0 := by
  intro m
  have k5 : (5 : Int32).toInt = 5 := rfl
  have k4 : (4 : Int32).toInt = 4 := rfl
  have k3 : (3 : Int32).toInt = 3 := rfl
  induction m with
  | zero =>
    intro n j y h hn hy hj h24
    obtain ⟨n, rfl⟩ : ∃ z, n = z + 1 := ⟨n - 1, by omega⟩
    rw [f_X12_text_L288, if_neg (show ¬ y < h.1 0 24 by rw [i_lt]; omega), Option.bind_some, Option.bind_some]
    have e : (dPut (dPut (dPut h 0 47 0) 0 35 0) 0 54 0).1 0 24 = h.1 0 24 := by rw [dPut_ne (by omega), dPut_ne (by omega), dPut_ne (by omega)]
    rw [e]
    refine ⟨_, rfl, fun a k h1 h2 => by rw [dPut_ne (by omega), dPut_ne (by omega), dPut_ne (by omega)], rfl, fun k _ => by rw [dPut_ne (by omega), dPut_ne (by omega), dPut_ne (by omega)], fun p h1 h2 => absurd h2 (by omega), by rw [dPut_ne (by omega), dPut_ne (by omega), dPut_at], by rw [dPut_ne (by omega), dPut_at], by rw [dPut_at]⟩
  | succ m ih =>
    intro n j y h hn hy hj h24
    obtain ⟨n, rfl⟩ : ∃ z, n = z + 1 := ⟨n - 1, by omega⟩
    have m5 : (5 * y).toInt = 5 * j := by rw [i_mul (by rw [k5]; omega), k5, hy]
    have e5 : (5 * y + 4).toInt = ((5 * j + 4 : Nat) : Int) := by rw [i_add (by rw [k4]; omega), m5, k4]; omega
    have m3 : (3 * y).toInt = 3 * j := by rw [i_mul (by rw [k3]; omega), k3, hy]
    have e3 : (3 * y + 1).toInt = ((3 * j + 1 : Nat) : Int) := by rw [i_add1 (by omega), m3]; omega
    rw [f_X12_text_L288, if_pos (show y < h.1 0 24 by rw [i_lt]; omega), if_pos (dIn_of e5 (by omega)), if_pos (dIn_of e3 (by omega)), dI_of e5, dI_of e3, Option.bind_some]
    obtain ⟨h', a1, a2, a3, a4, a5, a6, a7, a8⟩ := ih n (j + 1) (y + 1) (dPut h 11 (3 * j + 1) (h.1 7 (5 * j + 4))) (by omega) (by rw [i_add1 (by omega), hy]; omega) (by omega) (by rw [dPut_ne (by omega)]; exact h24)
    rw [dPut_ne (show ¬ (0 = 11 ∧ 24 = 3 * j + 1) by omega)] at a1
    refine ⟨h', a1, fun a k h1 h2 => by rw [a2 a k h1 h2, dPut_ne (fun z => h1 z.1)], a3, fun k hk => ?_, fun p h1 h2 => ?_, a6, a7, a8⟩
    · have := hk j (Nat.le_refl _) (by omega)
      rw [a4 k (fun p h1 h2 => hk p (by omega) h2), dPut_ne (by omega)]
    · by_cases z : p = j
      · rw [z, a4 _ (fun p h1 h2 => by omega), dPut_at]
      · rw [a5 p (by omega) h2, dPut_ne (by omega)]
/-- the reference settles -/
theorem M_settle {h : dH} (hP : P ≤ 7) (h25 : (h.1 0 25).toInt = P) : ∃ h' : dH, f_X12_text_L215 dFu 0 (dPut h 0 24 (h.1 0 25)) = some (h.1 0 25, h') ∧ (∀ a k, a ≠ 5 → a ≠ 7 → a ≠ 11 → ¬ (a = 0 ∧ (k = 24 ∨ k = 47 ∨ k = 35 ∨ k = 54)) → h'.1 a k = h.1 a k) ∧ h'.2 = h.2 ∧ h'.1 0 24 = h.1 0 25 ∧ (∀ k, k < 3 → h'.1 5 k = h.1 6 k) ∧ (∀ k, k < 35 → h'.1 7 k = h.1 8 k) ∧ (∀ k, k < 209 → (∀ p, p < P → k ≠ 3 * p + 1) → h'.1 11 k = 0) ∧ (∀ p, p < P → h'.1 11 (3 * p + 1) = h.1 8 (5 * p + 4)) ∧ h'.1 0 47 = 0 ∧ h'.1 0 35 = 0 ∧ h'.1 0 54 = 0 := by
  rw [lp_rule 3 dFu 0 0 _ (fuel_lt (by omega)) rfl (by omega)]
  show ∃ h', f_X12_text_L240 dFu 0 (dCpy (dPut h 0 24 (h.1 0 25)) 6 5 0 0 3) = _ ∧ _
  rw [lp_told 35 dFu 0 0 _ (fuel_lt (by omega)) rfl (by omega)]
  show ∃ h', f_X12_text_L266 dFu 0 (dCpy (dCpy (dPut h 0 24 (h.1 0 25)) 6 5 0 0 3) 8 7 0 0 35) = _ ∧ _
  generalize eE : dCpy (dCpy (dPut h 0 24 (h.1 0 25)) 6 5 0 0 3) 8 7 0 0 35 = E
  have Ef : ∀ a k, a ≠ 5 → a ≠ 7 → ¬ (a = 0 ∧ k = 24) → E.1 a k = h.1 a k := fun a k h1 h2 h3 => by rw [← eE, dCpy_ne h2, dCpy_ne h1, dPut_ne h3]
  have E24 : E.1 0 24 = h.1 0 25 := by rw [← eE, dCpy_ne (by omega), dCpy_ne (by omega), dPut_at]
  have E5 : ∀ k, k < 3 → E.1 5 k = h.1 6 k := fun k hk => by rw [← eE, dCpy_ne (by omega), cpy_at (by omega) (by omega), dPut_ne (by omega), show 0 + (k - 0) = k by omega]
  have E7 : ∀ k, k < 35 → E.1 7 k = h.1 8 k := fun k hk => by rw [← eE, cpy_at (by omega) (by omega), dCpy_ne (by omega), dPut_ne (by omega), show 0 + (k - 0) = k by omega]
  have E2 : E.2 = h.2 := by rw [← eE]; rfl
  obtain ⟨Z, z1, z2, z3, z4, z5⟩ := lp_zero 209 dFu 0 0 E (fuel_lt (by omega)) rfl (by omega)
  obtain ⟨h', a1, a2, a3, a4, a5, a6, a7, a8⟩ := lp_pat hP P dFu 0 0 Z (fuel_lt (by omega)) rfl (by omega) (by rw [z2 0 24 (by omega), E24]; exact h25)
  rw [z1, a1, z2 0 24 (by omega), E24]
  refine ⟨h', rfl, fun a k h1 h2 h3 h4 => by rw [a2 a k h3 (by omega), z2 a k h3, Ef a k h1 h2 (by omega)], by rw [a3, z3, E2], by rw [a2 0 24 (by omega) (by omega), z2 0 24 (by omega), E24], fun k hk => by rw [a2 5 k (by omega) (by omega), z2 5 k (by omega), E5 k hk], fun k hk => by rw [a2 7 k (by omega) (by omega), z2 7 k (by omega), E7 k hk], fun k hk hp => by rw [a4 k (fun p _ h => hp p h), z5 k (by omega) hk], fun p hp => by rw [a5 p (by omega) hp, z2 7 _ (by omega), E7 _ (by omega)], a6, a7, a8⟩
theorem lp_cf : ∀ (m n j : Nat) (y : Int32) (h : dH), m < n → y.toInt = j → j + m = 7 → ∃ h' : dH, f_X1_copyFrom_L20 n y h = (f_X1_measure 3 (dPut h' 3 2 (h'.1 22 2))).bind (fun h5 => some h5) ∧ (∀ a k, ¬ (6 + j ≤ a ∧ a ≤ 12) → h'.1 a k = h.1 a k) ∧ h'.2 = h.2 ∧ (∀ p, j ≤ p → p < 7 → ∀ k, k < 5 → h'.1 (6 + p) k = h.1 (25 + p) k) := by
  intro m
  have k7 : (7 : Int32).toInt = 7 := rfl
  induction m with
  | zero =>
    intro n j y h hn hy hj
    obtain ⟨n, rfl⟩ : ∃ z, n = z + 1 := ⟨n - 1, by omega⟩
    rw [f_X1_copyFrom_L20, if_neg (show ¬ y < 7 by rw [i_lt, k7]; omega), Option.bind_some]
    exact ⟨h, rfl, fun _ _ _ => rfl, rfl, fun p h1 h2 => absurd h2 (by omega)⟩
  | succ m ih =>
    intro n j y h hn hy hj
    obtain ⟨n, rfl⟩ : ∃ z, n = z + 1 := ⟨n - 1, by omega⟩
    have i7 : dIn y 7 := dIn_of hy (by omega)
    rw [f_X1_copyFrom_L20, if_pos (show y < 7 by rw [i_lt, k7]; omega), if_pos i7, if_pos i7, if_pos i7, if_pos (show dCk 0 0 5 5 5 by decide), dI_of hy, Option.bind_some, show dI (0 : Int32) = 0 from rfl, show dI (5 : Int32) = 5 from rfl]
    obtain ⟨h', a1, a2, a3, a4⟩ := ih n (j + 1) (y + 1) (dCpy h (25 + j) (6 + j) 0 0 5) (by omega) (by rw [i_add1 (by omega), hy]; omega) (by omega)
    refine ⟨h', a1, fun a k hk => by rw [a2 a k (by omega), dCpy_ne (by omega)], a3, fun p h1 h2 k hk => ?_⟩
    by_cases z : p = j
    · rw [z, a2 _ _ (by omega), cpy_at (by omega) (by omega), show 0 + (k - 0) = k by omega]
    · rw [a4 p (by omega) h2 k hk, dCpy_ne (by omega)]
theorem C_copy {h : dH} (hP : P ≤ 7) (h22 : (h.1 22 2).toInt = P) : ∃ h' : dH, f_X1_copyFrom h = some h' ∧ (∀ a k, a ≠ 4 → ¬ (6 ≤ a ∧ a ≤ 12) → ¬ (a = 3 ∧ k = 2) → ¬ (14 ≤ a ∧ a ≤ 21) → h'.1 a k = h.1 a k) ∧ (∀ k, k < 3 → h'.1 4 k = h.1 23 k) ∧ (∀ p, p < 7 → ∀ k, k < 5 → h'.1 (6 + p) k = h.1 (25 + p) k) ∧ h'.1 3 2 = h.1 22 2 ∧ (∀ i j, i ≤ P → j ≤ P → h'.1 (14 + i) j = vl h' 3 i j) := by
  unfold f_X1_copyFrom
  rw [if_pos (show dCk 0 0 3 3 3 by decide), Option.bind_some, show dI (0 : Int32) = 0 from rfl, show dI (3 : Int32) = 3 from rfl]
  obtain ⟨A, a1, a2, a3, a4⟩ := lp_cf 7 dFu 0 0 (dCpy h 23 4 0 0 3) (fuel_lt (by omega)) rfl (by omega)
  have A22 : A.1 22 2 = h.1 22 2 := by rw [a2 22 2 (by omega), dCpy_ne (by omega)]
  obtain ⟨h', b1, b2, b3⟩ := C_measure (t := 3) (h := dPut A 3 2 (A.1 22 2)) (P := P) (Or.inl rfl) (by rw [dPut_at, A22]; exact h22) hP
  rw [a1, b1, Option.bind_some]
  have fr : ∀ a k, ¬ (14 ≤ a ∧ a ≤ 21) → h'.1 a k = (dPut A 3 2 (A.1 22 2)).1 a k := fun a k hh => b2 a k (by omega)
  refine ⟨h', rfl, fun a k h1 h2 h3 h4 => by rw [fr a k h4, dPut_ne h3, a2 a k (by omega), dCpy_ne h1], fun k hk => by rw [fr 4 k (by omega), dPut_ne (by omega), a2 4 k (by omega), cpy_at (by omega) (by omega), show 0 + (k - 0) = k by omega], fun p hp k hk => by rw [fr _ k (by omega), dPut_ne (by omega), a4 p (by omega) hp k hk, dCpy_ne (by omega)], by rw [fr 3 2 (by omega), dPut_at, A22], fun i j hi hj => ?_⟩
  rw [show 14 + i = 3 + 11 + i by omega, b3 i j hi hj]
  unfold vl tl
  have e : ∀ i, i ≤ P → ∀ w, (if i = 0 then (0 : Int32) else (dPut A 3 2 (A.1 22 2)).1 (3 + 3 + (i - 1)) w) = (if i = 0 then 0 else h'.1 (3 + 3 + (i - 1)) w) := fun i hi w => by
    by_cases z : i = 0
    · rw [if_pos z, if_pos z]
    · rw [if_neg z, if_neg z, fr _ _ (by omega)]
  rw [e i hi 0, e j hj 0, e i hi 1, e j hj 1]
theorem lp_bc1 (hP : P ≤ 7) : ∀ (m n j : Nat) (y : Int32) (h : dH), m < n → y.toInt = j → j + m = 7 → (h.1 3 2).toInt = P → ∃ h' : dH, f_X8_beginCity_L30 n y h = some h' ∧ (∀ a k, ¬ (a = 67 ∧ 21 + j ≤ k ∧ k < 28) → h'.1 a k = h.1 a k) ∧ (∀ p, j ≤ p → p < 7 → h'.1 67 (21 + p) = if p < P then h.1 (6 + p) 4 else 0) := by
  intro m
  have k7 : (7 : Int32).toInt = 7 := rfl
  have k21 : (21 : Int32).toInt = 21 := rfl
  induction m with
  | zero =>
    intro n j y h hn hy hj h32
    obtain ⟨n, rfl⟩ : ∃ z, n = z + 1 := ⟨n - 1, by omega⟩
    rw [f_X8_beginCity_L30, if_neg (show ¬ y < 7 by rw [i_lt, k7]; omega)]
    exact ⟨h, rfl, fun _ _ _ => rfl, fun p h1 h2 => absurd h2 (by omega)⟩
  | succ m ih =>
    intro n j y h hn hy hj h32
    obtain ⟨n, rfl⟩ : ∃ z, n = z + 1 := ⟨n - 1, by omega⟩
    have et : f_X1_toldOf 3 y 4 h = some (if j < P then h.1 (6 + j) 4 else 0) := by
      by_cases q : j < P
      · rw [if_pos q]
        have := C_tl (t := 3) (h := h) (P := P) (i := j + 1) (x := y) (w := 4) h32 hP (by rw [hy]; omega) (by omega) (by omega)
        rw [show (Int32.ofNat 4) = 4 from rfl] at this
        rw [this]
        unfold tl
        rw [if_neg (by omega), show 3 + 3 + (j + 1 - 1) = 6 + j by omega]
      · rw [if_neg q]
        unfold f_X1_toldOf
        rw [C_isPlace, decide_eq_false (by omega), if_neg (by decide)]
    have e21 : (21 + y).toInt = ((21 + j : Nat) : Int) := by rw [i_add (by rw [k21]; omega), k21, hy]; omega
    rw [f_X8_beginCity_L30, if_pos (show y < 7 by rw [i_lt, k7]; omega), et, Option.bind_some, if_pos (dIn_of e21 (by omega)), dI_of e21, Option.bind_some]
    obtain ⟨h', a1, a2, a3⟩ := ih n (j + 1) (y + 1) (dPut h 67 (21 + j) (if j < P then h.1 (6 + j) 4 else 0)) (by omega) (by rw [i_add1 (by omega), hy]; omega) (by omega) (by rw [dPut_ne (by omega)]; exact h32)
    refine ⟨h', a1, fun a k hk => by rw [a2 a k (by omega), dPut_ne (by omega)], fun p h1 h2 => ?_⟩
    by_cases z : p = j
    · rw [z, a2 _ _ (by omega), dPut_at]
    · rw [a3 p (by omega) h2, dPut_ne (by omega)]
theorem lp_bc0 : ∀ (m n j : Nat) (y : Int32) (h : dH), m < n → y.toInt = j → j + m = 28 → ∃ h' : dH, f_X8_beginCity_L2 n y h = f_X8_beginCity_L30 dFu 0 (dPut h' 67 0 (-1)) ∧ (∀ a k, a ≠ 67 → h'.1 a k = h.1 a k) ∧ (∀ k, k < j → h'.1 67 k = h.1 67 k) ∧ (∀ k, j ≤ k → k < 28 → h'.1 67 k = 0) := by
  intro m
  have k28 : (28 : Int32).toInt = 28 := rfl
  induction m with
  | zero =>
    intro n j y h hn hy hj
    obtain ⟨n, rfl⟩ : ∃ z, n = z + 1 := ⟨n - 1, by omega⟩
    rw [f_X8_beginCity_L2, if_neg (show ¬ y < 28 by rw [i_lt, k28]; omega), Option.bind_some]
    exact ⟨h, rfl, fun _ _ _ => rfl, fun _ _ => rfl, fun k h1 h2 => absurd h2 (by omega)⟩
  | succ m ih =>
    intro n j y h hn hy hj
    obtain ⟨n, rfl⟩ : ∃ z, n = z + 1 := ⟨n - 1, by omega⟩
    rw [f_X8_beginCity_L2, if_pos (show y < 28 by rw [i_lt, k28]; omega), if_pos (dIn_of hy (by omega)), dI_of hy, Option.bind_some]
    obtain ⟨h', a1, a2, a4, a5⟩ := ih n (j + 1) (y + 1) (dPut h 67 j 0) (by omega) (by rw [i_add1 (by omega), hy]; omega) (by omega)
    refine ⟨h', a1, fun a k hk => by rw [a2 a k hk, dPut_ne (fun z => hk z.1)], fun k hk => by rw [a4 k (by omega), dPut_ne (by omega)], fun k h1 h2 => ?_⟩
    by_cases z : k = j
    · rw [z, a4 j (by omega), dPut_at]
    · exact a5 k (by omega) h2
theorem C_begin {h : dH} (hP : P ≤ 7) (h32 : (h.1 3 2).toInt = P) : ∃ h' : dH, f_X8_beginCity h = some h' ∧ (∀ a k, a ≠ 67 → h'.1 a k = h.1 a k) ∧ h'.1 67 0 = -1 ∧ (∀ k, 1 ≤ k → k < 21 → h'.1 67 k = 0) ∧ (∀ p, p < 7 → h'.1 67 (21 + p) = if p < P then h.1 (6 + p) 4 else 0) := by
  unfold f_X8_beginCity
  obtain ⟨Z, z1, z2, z3, z4⟩ := lp_bc0 28 dFu 0 0 h (fuel_lt (by omega)) rfl (by omega)
  obtain ⟨h', a1, a2, a3⟩ := lp_bc1 hP 7 dFu 0 0 (dPut Z 67 0 (-1)) (fuel_lt (by omega)) rfl (by omega) (by rw [dPut_ne (by omega), z2 3 2 (by omega)]; exact h32)
  rw [z1, a1]
  refine ⟨h', rfl, fun a k hk => by rw [a2 a k (by omega), dPut_ne (by omega), z2 a k hk], by rw [a2 67 0 (by omega), dPut_at], fun k h1 h2 => by rw [a2 67 k (by omega), dPut_ne (by omega), z4 k (by omega) (by omega)], fun p hp => ?_⟩
  rw [a3 p (by omega) hp, dPut_ne (by omega), z2 _ _ (by omega)]
end TZ
