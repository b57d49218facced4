/-! PURE: all -/
/-- where he is too much: bits -/
def tm (tr pa : Nat → Int32) : Nat → Nat → Int32 → Int32
  | 0, _, b => b
  | k + 1, p, b => tm tr pa k (p + 1) (if pa p < tr p then b ||| (1 <<< (Int32.ofNat p &&& 31)) else b)
theorem tm_c {tr pa tr' pa' : Nat → Int32} : ∀ (k p : Nat) (b : Int32), (∀ i, p ≤ i → i < p + k → tr i = tr' i ∧ pa i = pa' i) → tm tr pa k p b = tm tr' pa' k p b := by
  intro k
  induction k with
  | zero => intro p b _; rfl
  | succ k ih =>
    intro p b h
    show tm tr pa k (p + 1) _ = tm tr' pa' k (p + 1) _
    rw [(h p (by omega) (by omega)).1, (h p (by omega) (by omega)).2]
    exact ih (p + 1) _ (fun i h1 h2 => h i (by omega) (by omega))
section AL
variable {n : Nat} {hC hM : dH} {x y w : Int32}
theorem C_isTooMuch (C : Ct hC hM) (hx : Pl hC x) (m : Int32) : f_X8_isTooMuch x m hC = some (decide (hC.1 67 (21 + dI x) < hC.1 67 (14 + dI x) + m)) := by
  unfold f_X8_isTooMuch
  rw [C_troublesOf C 66 hx, C_patienceOf C 66 hx]
  simp only [Option.bind_some]
  by_cases q : hC.1 67 (21 + dI x) < hC.1 67 (14 + dI x) + m
  · rw [if_pos q, decide_eq_true q]
  · rw [if_neg q, decide_eq_false q]
theorem lp_tmC (C : Ct hC hM) : ∀ (m n j : Nat) (b y : Int32), m < n → y.toInt = j → j + m = dI (hC.1 3 2) → f_X8_tooMuch_L4 hC n b y = some (tm (fun p => hC.1 67 (14 + p)) (fun p => hC.1 67 (21 + p)) m j b) := by
  intro m
  induction m with
  | zero =>
    intro n j b y hn hy hj
    obtain ⟨n, rfl⟩ : ∃ k, n = k + 1 := ⟨n - 1, by omega⟩
    rw [f_X8_tooMuch_L4, if_neg (ge_j C hy hj)]
    rfl
  | succ m ih =>
    intro n j b y hn hy hj
    obtain ⟨n, rfl⟩ : ∃ k, n = k + 1 := ⟨n - 1, by omega⟩
    have hp := pl_j C hy hj
    have nx := C.nat
    have ey : y = Int32.ofNat j := by rw [i_eq, hy, i_ofNat (by omega)]
    have dy : dI y = j := dI_of hy
    rw [f_X8_tooMuch_L4, if_pos (lt_j C hy hj), C_isTooMuch C hp, Option.bind_some, Int32.add_zero, dy]
    unfold f_X8_tooMuch_J30
    show _ = some (tm _ _ m (j + 1) (if hC.1 67 (21 + j) < hC.1 67 (14 + j) then b ||| (1 <<< (Int32.ofNat j &&& 31)) else b))
    by_cases q : hC.1 67 (21 + j) < hC.1 67 (14 + j)
    · rw [if_pos (decide_eq_true q), if_pos q, Option.bind_some, ih n (j + 1) _ (y + 1) (by omega) (y_suc hy (by omega)) (by omega), ey]
    · rw [if_neg (by rw [decide_eq_true_iff]; exact q), if_neg q, ih n (j + 1) _ (y + 1) (by omega) (y_suc hy (by omega)) (by omega)]
theorem C_tooMuch (C : Ct hC hM) : f_X8_tooMuch hC = some (tm (fun p => hC.1 67 (14 + p)) (fun p => hC.1 67 (21 + p)) (dI (hC.1 3 2)) 0 0) :=
  lp_tmC C (dI (hC.1 3 2)) dFu 0 0 0 (fuel_lt (by have := C.nat; omega)) rfl (by omega)
/-- a city's size, as the reference has it -/
theorem lp_tmM {h : dH} (w : Nat) (h7 : 0 ≤ (h.1 0 24).toInt ∧ (h.1 0 24).toInt ≤ 7) : ∀ (m n j : Nat) (b y : Int32), m < n → y.toInt = j → j + m = dI (h.1 0 24) → f_X12_tooMuch_L4 w h n b y = some (tm (fun p => h.1 w (3 * p)) (fun p => h.1 w (3 * p + 1)) m j b) := by
  have d24 := dI_c h7.1
  intro m
  induction m with
  | zero =>
    intro n j b y hn hy hj
    obtain ⟨n, rfl⟩ : ∃ k, n = k + 1 := ⟨n - 1, by omega⟩
    rw [f_X12_tooMuch_L4, if_neg (by rw [i_lt]; omega)]
    rfl
  | succ m ih =>
    intro n j b y hn hy hj
    obtain ⟨n, rfl⟩ : ∃ k, n = k + 1 := ⟨n - 1, by omega⟩
    have ey : y = Int32.ofNat j := by rw [i_eq, hy, i_ofNat (by omega)]
    have dy : dI y = j := dI_of hy
    have hi : dIn y 7 := ⟨by omega, by omega⟩
    rw [f_X12_tooMuch_L4, if_pos (by rw [i_lt]; omega), if_pos (ix0 hi).2, if_pos (ix1 hi).2, (ix0 hi).1, (ix1 hi).1, dy]
    unfold f_X12_tooMuch_J37
    show _ = some (tm _ _ m (j + 1) (if h.1 w (3 * j + 1) < h.1 w (3 * j) then b ||| (1 <<< (Int32.ofNat j &&& 31)) else b))
    by_cases q : h.1 w (3 * j + 1) < h.1 w (3 * j)
    · rw [if_pos q, if_pos q, Option.bind_some, ih n (j + 1) _ (y + 1) (by omega) (y_suc hy (by omega)) (by omega), ey]
    · rw [if_neg q, if_neg q, Option.bind_some, or0, ih n (j + 1) _ (y + 1) (by omega) (y_suc hy (by omega)) (by omega)]
theorem M_tooMuch {h : dH} (w : Nat) (h7 : 0 ≤ (h.1 0 24).toInt ∧ (h.1 0 24).toInt ≤ 7) : f_X12_tooMuch w h = some (tm (fun p => h.1 w (3 * p)) (fun p => h.1 w (3 * p + 1)) (dI (h.1 0 24)) 0 0) :=
  lp_tmM w h7 (dI (h.1 0 24)) dFu 0 0 0 (fuel_lt (by have := dI_c h7.1; omega)) rfl (by omega)
theorem Ct.h7 (C : Ct hC hM) : 0 ≤ (hM.1 0 24).toInt ∧ (hM.1 0 24).toInt ≤ 7 := by rw [C.np]; exact ⟨C.ge, C.le⟩
theorem R_tooMuch (C : Ct hC hM) (w : Nat) (s : sR (hC.1 67) (hM.1 w)) : ∃ v, f_X8_tooMuch hC = some v ∧ f_X12_tooMuch w hM = some v := by
  refine ⟨_, C_tooMuch C, ?_⟩
  rw [M_tooMuch w C.h7, C.np]
  congr 1
  apply tm_c
  intro i _ hi
  have := C.nat
  obtain ⟨s1, s2, s3⟩ := s.2.2.2.2.2.2.2 i (by omega)
  exact ⟨s2.symm, s3.symm⟩
theorem lp_reach (C : Ct hC hM) (s : sR (hC.1 67) (hM.1 11)) (hat : Pl' hC (hC.1 67 0)) : ∀ (m n j : Nat) (b y : Int32), m < n → y.toInt = j → j + m = dI (hC.1 3 2) → ∃ v, f_X8_reach_L4 hC n b y = some v ∧ f_X12_reach_L4 hM n b y = some v := by
  intro m
  induction m with
  | zero =>
    intro n j b y hn hy hj
    obtain ⟨n, rfl⟩ : ∃ k, n = k + 1 := ⟨n - 1, by omega⟩
    rw [f_X8_reach_L4, f_X12_reach_L4, C.np, if_neg (ge_j C hy hj), if_neg (ge_j C hy hj)]
    exact ⟨_, rfl, rfl⟩
  | succ m ih =>
    intro n j b y hn hy hj
    obtain ⟨n, rfl⟩ : ∃ k, n = k + 1 := ⟨n - 1, by omega⟩
    have nx := C.nat
    have e0 : f_X8_canDo 66 0 y hC = some (cwB hC (hC.1 67 0) (hC.1 67 1) (hC.1 67 2) y) := by
      unfold f_X8_canDo
      rw [if_pos rfl, C_couldWalk C 66 hat]
      rfl
    rw [f_X8_reach_L4, f_X12_reach_L4, C.np, if_pos (lt_j C hy hj), if_pos (lt_j C hy hj), e0, M_canWalk C 11 (by rw [s.1]; exact hat), s.1, ← s.2.1, ← s.2.2.1]
    simp only [Option.bind_some]
    unfold f_X8_reach_J30 f_X12_reach_J32
    simp only [Option.bind_some]
    by_cases q : cwB hC (hC.1 67 0) (hC.1 67 1) (hC.1 67 2) y = true
    · rw [if_pos q, if_pos q]
      exact ih n (j + 1) _ (y + 1) (by omega) (y_suc hy (by omega)) (by omega)
    · rw [if_neg q, if_neg q, or0]
      exact ih n (j + 1) _ (y + 1) (by omega) (y_suc hy (by omega)) (by omega)
theorem lp_spread1 (C : Ct hC hM) {kC kM : Int32 → Int32 → Option Int32} {y2 : Int32} (hp2 : Pl hC y2) (hk : ∀ y1, ∃ v, kC y1 (y2 + 1) = some v ∧ kM y1 (y2 + 1) = some v) : ∀ (m n j : Nat) (y1 y3 : Int32), m < n → y3.toInt = j → j + m = dI y2 → ∃ v, f_X1_spread_L14 kC hC n y1 y2 y3 = some v ∧ f_X12_spread_L14 kM hM n y1 y2 y3 = some v := by
  have d2 := dI_c hp2.1
  have h22 := hp2.2
  intro m
  induction m with
  | zero =>
    intro n j y1 y3 hn hy hj
    obtain ⟨n, rfl⟩ : ∃ k, n = k + 1 := ⟨n - 1, by omega⟩
    have a : ¬ y3 < y2 := by rw [i_lt]; omega
    rw [f_X1_spread_L14, f_X12_spread_L14, if_neg a, if_neg a]
    exact hk y1
  | succ m ih =>
    intro n j y1 y3 hn hy hj
    obtain ⟨n, rfl⟩ : ∃ k, n = k + 1 := ⟨n - 1, by omega⟩
    have a : y3 < y2 := by rw [i_lt]; omega
    have hp : Pl hC y3 := ⟨by omega, by omega⟩
    have nx := C.nat
    rw [f_X1_spread_L14, f_X12_spread_L14, if_pos a, if_pos a, C_apart C hp2.p' hp.p', M_between C hp2.p' hp]
    simp only [Option.bind_some]
    exact ih n (j + 1) _ (y3 + 1) (by omega) (y_suc hy (by omega)) (by omega)
theorem lp_spread (C : Ct hC hM) : ∀ (m n j : Nat) (y1 y2 : Int32), m < n → y2.toInt = j → j + m = dI (hC.1 3 2) → ∃ v, f_X1_spread_L4 hC n y1 y2 = some v ∧ f_X12_spread_L4 hM n y1 y2 = some v := by
  intro m
  induction m with
  | zero =>
    intro n j y1 y2 hn hy hj
    obtain ⟨n, rfl⟩ : ∃ k, n = k + 1 := ⟨n - 1, by omega⟩
    rw [f_X1_spread_L4, f_X12_spread_L4, C.np, if_neg (ge_j C hy hj), if_neg (ge_j C hy hj)]
    exact ⟨_, rfl, rfl⟩
  | succ m ih =>
    intro n j y1 y2 hn hy hj
    obtain ⟨n, rfl⟩ : ∃ k, n = k + 1 := ⟨n - 1, by omega⟩
    have hp := pl_j C hy hj
    have nx := C.nat
    rw [f_X1_spread_L4, f_X12_spread_L4, C.np, if_pos (lt_j C hy hj), if_pos (lt_j C hy hj)]
    exact lp_spread1 C hp (fun y1 => ih n (j + 1) y1 (y2 + 1) (by omega) (y_suc hy (by omega)) (by omega)) (dI y2) dFu 0 y1 0 (fuel_lt (by have := dI_of hy; omega)) rfl (by omega)
/-- merits -/
theorem R_merit (C : Ct hC hM) (s : sR (hC.1 67) (hM.1 11)) (hat : Pl' hC (hC.1 67 0)) (hx : Pl hC x) (hw : ¬ (w = 6 ∧ x = hC.1 67 0)) (h6 : w = 2 ∨ w = 3 ∨ w = 4 ∨ w = 5 ∨ w = 6) : ∃ v, f_X11_merit w x hC = some v ∧ f_X12_valueOf w x hM = some v ∧ (w = 6 → -18 ≤ v.toInt) := by
  have hn7 := hx.nat C
  have hi := hx.in7 C
  obtain ⟨s1, s2, s3⟩ := s.2.2.2.2.2.2.2 (dI x) hn7.2
  have hm : Pl' hC (-1) := ⟨by rw [tm1]; omega, by rw [tm1]; have := hx.1; have := hx.2; omega⟩
  have d32 : ¬ (3 : Int32) = 2 := by decide
  have d42 : ¬ (4 : Int32) = 2 := by decide
  have d43 : ¬ (4 : Int32) = 3 := by decide
  have d52 : ¬ (5 : Int32) = 2 := by decide
  have d53 : ¬ (5 : Int32) = 3 := by decide
  have d54 : ¬ (5 : Int32) = 4 := by decide
  have d62 : ¬ (6 : Int32) = 2 := by decide
  have d63 : ¬ (6 : Int32) = 3 := by decide
  have d64 : ¬ (6 : Int32) = 4 := by decide
  have d65 : ¬ (6 : Int32) = 5 := by decide
  unfold f_X11_merit f_X12_valueOf
  rcases h6 with rfl | rfl | rfl | rfl | rfl
  · rw [if_pos rfl, if_pos rfl, C_patienceOf C 66 hx, C_troublesOf C 66 hx, if_pos (ix1 hi).2, if_pos (ix0 hi).2, (ix1 hi).1, (ix0 hi).1, ← s2, ← s3]
    exact ⟨_, rfl, rfl, fun z => absurd z (by decide)⟩
  · rw [if_neg d32, if_neg d32, if_pos rfl, if_pos rfl, C_troublesOf C 66 hx, if_pos (ix0 hi).2, (ix0 hi).1, ← s2]
    exact ⟨_, rfl, rfl, fun z => absurd z (by decide)⟩
  · rw [if_neg d42, if_neg d42, if_neg d43, if_neg d43, if_pos rfl, if_pos rfl, C_toldOf C hx in3, M_of C hx in3]
    exact ⟨_, rfl, rfl, fun z => absurd z (by decide)⟩
  · rw [if_neg d52, if_neg d52, if_neg d53, if_neg d53, if_neg d54, if_neg d54, if_pos rfl, if_pos rfl, C_apart C hm hx.p', M_between C hm hx]
    exact ⟨_, rfl, rfl, fun z => absurd z (by decide)⟩
  · have hne : ¬ x = hC.1 67 0 := fun z => hw ⟨rfl, z⟩
    rw [if_neg d62, if_neg d62, if_neg d63, if_neg d63, if_neg d64, if_neg d64, if_neg d65, if_neg d65, show f_X8_place hC = hC.1 67 0 from rfl, if_neg hne, C_apart C hat hx.p']
    unfold f_X12_far f_X12_where
    rw [s.1, M_between C hat hx]
    refine ⟨_, rfl, rfl, fun _ => ?_⟩
    have b := wF_bt C hat hx.p'
    have b1 := b.1
    have b2 := b.2
    rw [i_neg (by omega)]
    omega
theorem C_merit_at (hx : x = hC.1 67 0) : f_X11_merit 6 x hC = some (-100) := by
  unfold f_X11_merit
  rw [if_neg (by decide), if_neg (by decide), if_neg (by decide), if_neg (by decide), show f_X8_place hC = hC.1 67 0 from rfl, if_pos hx]
theorem lp_most (C : Ct hC hM) (s : sR (hC.1 67) (hM.1 11)) (hat : Pl' hC (hC.1 67 0)) (h6 : w = 2 ∨ w = 3 ∨ w = 4 ∨ w = 5 ∨ w = 6) : ∀ (m n n2 j : Nat) (b y : Int32), m < n → m < n2 → y.toInt = j → j + m = dI (hC.1 3 2) → Pl hC b → ¬ (w = 6 ∧ b = hC.1 67 0) → ∃ v, f_X11_placeWithMost_L4 hC n w b y = some v ∧ f_X12_greatest_L4 hM n2 w b y = some v := by
  intro m
  induction m with
  | zero =>
    intro n n2 j b y hn hn2 hy hj hb hbw
    obtain ⟨n, rfl⟩ : ∃ k, n = k + 1 := ⟨n - 1, by omega⟩
    obtain ⟨n2, rfl⟩ : ∃ k, n2 = k + 1 := ⟨n2 - 1, by omega⟩
    rw [f_X11_placeWithMost_L4, f_X12_greatest_L4, C.np, if_neg (ge_j C hy hj), if_neg (ge_j C hy hj)]
    exact ⟨_, rfl, rfl⟩
  | succ m ih =>
    intro n n2 j b y hn hn2 hy hj hb hbw
    obtain ⟨n, rfl⟩ : ∃ k, n = k + 1 := ⟨n - 1, by omega⟩
    obtain ⟨n2, rfl⟩ : ∃ k, n2 = k + 1 := ⟨n2 - 1, by omega⟩
    have hp := pl_j C hy hj
    have nx := C.nat
    have hb1 : ¬ b = -1 := fun z => by have := hb.1; rw [z, tm1] at this; omega
    obtain ⟨vb, eb1, eb2, eb3⟩ := R_merit C s hat hb hbw h6
    rw [f_X11_placeWithMost_L4, f_X12_greatest_L4, C.np, if_pos (lt_j C hy hj), if_pos (lt_j C hy hj), show f_X12_where 11 hM = hC.1 67 0 from s.1, eb1]
    unfold f_X11_placeWithMost_J32 f_X12_greatest_J32 f_X12_greatest_J52 f_X12_greatest_J54
    have next : ∀ b', Pl hC b' → ¬ (w = 6 ∧ b' = hC.1 67 0) → ∃ v, f_X11_placeWithMost_L4 hC n w b' (y + 1) = some v ∧ f_X12_greatest_L4 hM n2 w b' (y + 1) = some v := fun b' h1 h2 => ih n n2 (j + 1) b' (y + 1) (by omega) (by omega) (y_suc hy (by omega)) (by omega) h1 h2
    by_cases hyw : w = 6 ∧ y = hC.1 67 0
    · rw [if_pos hyw.1, if_pos hyw.2]
      rw [show f_X11_merit w y hC = some (-100) by rw [hyw.1]; exact C_merit_at hyw.2]
      simp only [Option.bind_some]
      rw [if_neg (by rw [i_lt, show (-100 : Int32).toInt = -100 from rfl]; have := eb3 hyw.1; omega)]
      exact next b hb hbw
    · obtain ⟨vy, ey1, ey2, ey3⟩ := R_merit C s hat hp hyw h6
      rw [ey1, ey2, eb2]
      simp only [Option.bind_some]
      have eM : ∀ (A B : Option Int32), (if w = 6 then if y = hC.1 67 0 then A else B else B) = B := fun A B => by
        by_cases q : w = 6
        · rw [if_pos q, if_neg (fun z => hyw ⟨q, z⟩)]
        · rw [if_neg q]
      rw [eM, if_neg hb1]
      by_cases q : vb < vy
      · rw [if_pos q, if_pos q]
        exact next y hp hyw
      · rw [if_neg q, if_neg q]
        exact next b hb hbw
theorem R_most (C : Ct hC hM) (s : sR (hC.1 67) (hM.1 11)) (hat : Pl' hC (hC.1 67 0)) (hp : 0 < (hC.1 3 2).toInt) (h6 : w = 2 ∨ w = 3 ∨ w = 4 ∨ w = 5 ∨ w = 6) : ∃ v, f_X11_placeWithMost w hC = some v ∧ f_X12_greatest w hM = some v := by
  unfold f_X11_placeWithMost f_X12_greatest
  have h2 : 2 ≤ (hC.1 3 2).toInt := by
    rcases C.2.1.1 with q | q
    · omega
    · exact q.1
  have nx := C.nat
  have e : dFu = 19998 + 1 + 1 := rfl
  have p0 : Pl hC 0 := ⟨by rw [t0]; omega, by rw [t0]; omega⟩
  have p1 : Pl hC 1 := ⟨by rw [t1]; omega, by rw [t1]; omega⟩
  have eM : f_X12_greatest_L4 hM dFu w (-1) 0 = if w = 6 ∧ 0 = hC.1 67 0 then f_X12_greatest_L4 hM 19999 w (-1) 1 else f_X12_greatest_L4 hM 19999 w 0 1 := by
    rw [e, f_X12_greatest_L4, C.np, if_pos (by rw [i_lt, t0]; exact hp), show f_X12_where 11 hM = hC.1 67 0 from s.1]
    unfold f_X12_greatest_J32 f_X12_greatest_J52 f_X12_greatest_J54
    by_cases q : w = 6
    · by_cases q2 : 0 = hC.1 67 0
      · rw [if_pos q, if_pos q2, if_pos ⟨q, q2⟩]
        rfl
      · rw [if_pos q, if_neg q2, if_pos rfl, if_neg (show ¬ (w = 6 ∧ 0 = hC.1 67 0) from fun z => q2 z.2)]
        rfl
    · rw [if_neg q, if_pos rfl, if_neg (show ¬ (w = 6 ∧ 0 = hC.1 67 0) from fun z => q z.1)]
      rfl
  rw [eM]
  -- the class has one step more of fuel
  by_cases q : w = 6 ∧ (0 : Int32) = hC.1 67 0
  · rw [if_pos q]
    -- place 1 becomes the best of both
    have q1 : ¬ (w = 6 ∧ 1 = hC.1 67 0) := fun z => by have := q.2.trans z.2.symm; exact absurd this (by decide)
    obtain ⟨v1, e1, e2, e3⟩ := R_merit C s hat p1 q1 h6
    have eC : f_X11_placeWithMost_L4 hC dFu w 0 1 = f_X11_placeWithMost_L4 hC 19999 w 1 2 := by
      rw [e, f_X11_placeWithMost_L4, if_pos (by rw [i_lt, t1]; omega), e1, show f_X11_merit w 0 hC = some (-100) by rw [q.1]; exact C_merit_at q.2]
      simp only [Option.bind_some]
      rw [if_pos (by rw [i_lt, show (-100 : Int32).toInt = -100 from rfl]; have := e3 q.1; omega)]
      rfl
    have eM2 : f_X12_greatest_L4 hM 19999 w (-1) 1 = f_X12_greatest_L4 hM 19998 w 1 2 := by
      rw [show (19999 : Nat) = 19998 + 1 from rfl, f_X12_greatest_L4, C.np, if_pos (by rw [i_lt, t1]; omega), show f_X12_where 11 hM = hC.1 67 0 from s.1, if_pos q.1, if_neg (fun z => q1 ⟨q.1, z⟩)]
      unfold f_X12_greatest_J32 f_X12_greatest_J52 f_X12_greatest_J54
      rw [if_pos rfl]
      rfl
    rw [eC, eM2]
    exact lp_most C s hat h6 (dI (hC.1 3 2) - 2) 19999 19998 2 1 2 (by omega) (by omega) rfl (by omega) p1 q1
  · rw [if_neg q]
    exact lp_most C s hat h6 (dI (hC.1 3 2) - 1) dFu 19999 1 0 1 (fuel_lt (by omega)) (by omega) rfl (by omega) p0 q
theorem ok_all : st_all Rel := by
  intro n hC hM hn R x
  have R1 := R.t0
  unfold aC_all aM_all f_X11_all f_X12_all
  rw [Option.bind_some]
  generalize dPut hM 0 0 0 = h1 at R1 ⊢
  have C := R1.ct
  have fin : ∀ v : Int32, dAg (Rel (n + 1)) (Option.map (fun v => (v, hC)) (some v)) (some (v, h1)) := fun v => ag rfl rfl (Rel_mono R1)
  simp only [C_isThere, C.np, decide_eq_true_eq]
  by_cases hp : 0 < (hC.1 3 2).toInt
  · have hp0 : ¬ hC.1 3 2 = 0 := fun z => by rw [z, t0] at hp; omega
    have hat := R1.at' hp
    have s := R1.sr
    rw [if_pos hp, if_neg hp0]
    by_cases a0 : x = 0
    · rw [if_pos a0, if_pos a0, show f_X8_secrets hC = hC.1 67 5 from rfl, s.2.2.2.2.2.1]
      exact fin _
    rw [if_neg a0, if_neg a0]
    by_cases a1 : x = 1
    · obtain ⟨v, e1, e2⟩ := R_tooMuch C 11 s
      rw [if_pos a1, if_pos a1, e1, e2]
      exact fin _
    rw [if_neg a1, if_neg a1]
    by_cases a2 : x = 2
    · obtain ⟨v, e1, e2⟩ := R_most C s hat hp (w := x) (by simp [a2])
      rw [if_pos a2, if_pos a2, e1, e2]
      exact fin _
    rw [if_neg a2, if_neg a2]
    by_cases a3 : x = 3
    · obtain ⟨v, e1, e2⟩ := R_most C s hat hp (w := x) (by simp [a3])
      rw [if_pos a3, if_pos a3, e1, e2]
      exact fin _
    rw [if_neg a3, if_neg a3]
    by_cases a4 : x = 4
    · obtain ⟨v, e1, e2⟩ := R_most C s hat hp (w := x) (by simp [a4])
      rw [if_pos a4, if_pos a4, e1, e2]
      exact fin _
    rw [if_neg a4, if_neg a4]
    by_cases a5 : x = 5
    · obtain ⟨v, e1, e2⟩ := R_most C s hat hp (w := x) (by simp [a5])
      rw [if_pos a5, if_pos a5, e1, e2]
      exact fin _
    rw [if_neg a5, if_neg a5]
    by_cases a6 : x = 6
    · obtain ⟨v, e1, e2⟩ := R_most C s hat hp (w := x) (by simp [a6])
      rw [if_pos a6, if_pos a6, e1, e2]
      exact fin _
    rw [if_neg a6, if_neg a6]
    by_cases a7 : x = 7
    · obtain ⟨v, e1, e2⟩ := lp_reach C s hat (dI (hC.1 3 2)) dFu 0 0 0 (fuel_lt (by have := C.nat; omega)) rfl (by omega)
      rw [if_pos a7, if_pos a7, show f_X8_reach hC = some v from e1, show f_X12_reach h1 = some v from e2]
      exact fin _
    rw [if_neg a7, if_neg a7]
    by_cases a8 : x = 8
    · rw [if_pos a8, if_pos a8, show f_X8_tired hC = hC.1 67 2 from rfl, s.2.2.1, C.2.2.1 0 (by omega)]
      exact fin _
    rw [if_neg a8, if_neg a8]
    by_cases a9 : x = 9
    · obtain ⟨v, e1, e2⟩ := lp_spread C (dI (hC.1 3 2)) dFu 0 0 0 (fuel_lt (by have := C.nat; omega)) rfl (by omega)
      rw [if_pos a9, if_pos a9, show f_X1_spread hC = some v from e1, show f_X12_spread h1 = some v from e2]
      exact fin _
    rw [if_neg a9, if_neg a9]
    exact fin _
  · have hp0 : hC.1 3 2 = 0 := by rw [i_eq, t0]; have := C.ge; omega
    rw [if_neg hp, if_pos hp0]
    exact fin _
end AL
