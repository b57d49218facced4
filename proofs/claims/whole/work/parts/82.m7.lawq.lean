/-! PURE: the class says what a LAW is worth -/
theorem neg_i {c x : Int32} (h : -c = x) : c = -x := by rw [← h, Int32.neg_neg]
theorem join01 {a b : Int32} (ha : a = 0 ∨ a = 1) (hb : b = 0 ∨ b = 1) : (a.toInt64 &&& b.toInt64).toInt = (if a.toInt = 1 ∧ b.toInt = 1 then 1 else 0) ∧ (a.toInt64 ||| b.toInt64).toInt = (if a.toInt = 1 ∨ b.toInt = 1 then 1 else 0) := by
  rcases ha with rfl | rfl <;> rcases hb with rfl | rfl <;> decide
theorem jo38 (x y : Int64) (h : dH) : f_X5_joined 38 x y h = some (x &&& y) := by
  unfold f_X5_joined
  rw [if_pos (show (38 : Int32) = 38 from rfl)]
theorem jo42 (x y : Int64) (h : dH) : f_X5_joined 42 x y h = some (x * y) := by
  unfold f_X5_joined
  rw [if_neg (show ¬ (42 : Int32) = 38 by decide), if_pos (show (42 : Int32) = 42 from rfl)]
theorem jo43 (x y : Int64) (h : dH) : f_X5_joined 43 x y h = some (x + y) := by
  unfold f_X5_joined
  rw [if_neg (show ¬ (43 : Int32) = 38 by decide), if_neg (show ¬ (43 : Int32) = 42 by decide), if_pos (show (43 : Int32) = 43 from rfl)]
theorem jo45 (x y : Int64) (h : dH) : f_X5_joined 45 x y h = some (x - y) := by
  unfold f_X5_joined
  rw [if_neg (show ¬ (45 : Int32) = 38 by decide), if_neg (show ¬ (45 : Int32) = 42 by decide), if_neg (show ¬ (45 : Int32) = 43 by decide), if_pos (show (45 : Int32) = 45 from rfl)]
theorem jo47 (x y : Int64) (h : dH) : f_X5_joined 47 x y h = if lg_cmp y 0 = 0 then some 0 else if ¬ y = 0 then some (x / y) else none := by
  unfold f_X5_joined
  rw [if_neg (show ¬ (47 : Int32) = 38 by decide), if_neg (show ¬ (47 : Int32) = 42 by decide), if_neg (show ¬ (47 : Int32) = 43 by decide), if_neg (show ¬ (47 : Int32) = 45 by decide), if_pos (show (47 : Int32) = 47 from rfl)]
theorem jo60 (x y : Int64) (h : dH) : f_X5_joined 60 x y h = if lg_cmp x y < 0 then some 1 else some 0 := by
  unfold f_X5_joined
  rw [if_neg (show ¬ (60 : Int32) = 38 by decide), if_neg (show ¬ (60 : Int32) = 42 by decide), if_neg (show ¬ (60 : Int32) = 43 by decide), if_neg (show ¬ (60 : Int32) = 45 by decide), if_neg (show ¬ (60 : Int32) = 47 by decide), if_pos (show (60 : Int32) = 60 from rfl)]
theorem jo61 (x y : Int64) (h : dH) : f_X5_joined 61 x y h = if lg_cmp x y = 0 then some 1 else some 0 := by
  unfold f_X5_joined
  rw [if_neg (show ¬ (61 : Int32) = 38 by decide), if_neg (show ¬ (61 : Int32) = 42 by decide), if_neg (show ¬ (61 : Int32) = 43 by decide), if_neg (show ¬ (61 : Int32) = 45 by decide), if_neg (show ¬ (61 : Int32) = 47 by decide), if_neg (show ¬ (61 : Int32) = 60 by decide), if_pos (show (61 : Int32) = 61 from rfl)]
theorem jo62 (x y : Int64) (h : dH) : f_X5_joined 62 x y h = if 0 < lg_cmp x y then some 1 else some 0 := by
  unfold f_X5_joined
  rw [if_neg (show ¬ (62 : Int32) = 38 by decide), if_neg (show ¬ (62 : Int32) = 42 by decide), if_neg (show ¬ (62 : Int32) = 43 by decide), if_neg (show ¬ (62 : Int32) = 45 by decide), if_neg (show ¬ (62 : Int32) = 47 by decide), if_neg (show ¬ (62 : Int32) = 60 by decide), if_neg (show ¬ (62 : Int32) = 61 by decide), if_pos (show (62 : Int32) = 62 from rfl)]
theorem xJ_61 (a b : Int) : xJ (-61) a b = if a = b then 1 else 0 := by
  unfold xJ
  rw [if_neg (show ¬ (-61 : Int32) = -43 by decide), if_neg (show ¬ (-61 : Int32) = -45 by decide), if_neg (show ¬ (-61 : Int32) = -42 by decide), if_neg (show ¬ (-61 : Int32) = -47 by decide), if_pos (show (-61 : Int32) = -61 from rfl)]
theorem xJ_60 (a b : Int) : xJ (-60) a b = if a < b then 1 else 0 := by
  unfold xJ
  rw [if_neg (show ¬ (-60 : Int32) = -43 by decide), if_neg (show ¬ (-60 : Int32) = -45 by decide), if_neg (show ¬ (-60 : Int32) = -42 by decide), if_neg (show ¬ (-60 : Int32) = -47 by decide), if_neg (show ¬ (-60 : Int32) = -61 by decide), if_pos (show (-60 : Int32) = -60 from rfl)]
theorem xJ_62 (a b : Int) : xJ (-62) a b = if b < a then 1 else 0 := by
  unfold xJ
  rw [if_neg (show ¬ (-62 : Int32) = -43 by decide), if_neg (show ¬ (-62 : Int32) = -45 by decide), if_neg (show ¬ (-62 : Int32) = -42 by decide), if_neg (show ¬ (-62 : Int32) = -47 by decide), if_neg (show ¬ (-62 : Int32) = -61 by decide), if_neg (show ¬ (-62 : Int32) = -60 by decide), if_pos (show (-62 : Int32) = -62 from rfl)]
theorem xJ_38 (a b : Int) : xJ (-38) a b = if a = 1 ∧ b = 1 then 1 else 0 := by
  unfold xJ
  rw [if_neg (show ¬ (-38 : Int32) = -43 by decide), if_neg (show ¬ (-38 : Int32) = -45 by decide), if_neg (show ¬ (-38 : Int32) = -42 by decide), if_neg (show ¬ (-38 : Int32) = -47 by decide), if_neg (show ¬ (-38 : Int32) = -61 by decide), if_neg (show ¬ (-38 : Int32) = -60 by decide), if_neg (show ¬ (-38 : Int32) = -62 by decide), if_pos (show (-38 : Int32) = -38 from rfl)]
theorem joinC {c a b : Int32} (h : dH) (hg : (c = -42 ∨ c = -43 ∨ c = -45 ∨ c = -47 ∨ c = -60 ∨ c = -61 ∨ c = -62) ∨ ((a = 0 ∨ a = 1) ∧ (b = 0 ∨ b = 1))) : ∃ x : Int64, f_X5_joined (-c) a.toInt64 b.toInt64 h = some x ∧ x.toInt = xJ c a.toInt b.toInt := by
  by_cases c42 : c = -42
  · rw [c42, show (-(-42 : Int32)) = 42 from rfl, jo42, xJ_42]
    exact ⟨_, rfl, l_mul _ _⟩
  by_cases c43 : c = -43
  · rw [c43, show (-(-43 : Int32)) = 43 from rfl, jo43, xJ_43]
    exact ⟨_, rfl, l_add _ _⟩
  by_cases c45 : c = -45
  · rw [c45, show (-(-45 : Int32)) = 45 from rfl, jo45, xJ_45]
    exact ⟨_, rfl, l_sub _ _⟩
  by_cases c47 : c = -47
  · rw [c47, show (-(-47 : Int32)) = 47 from rfl, jo47, xJ_47]
    by_cases q : b.toInt = 0
    · rw [if_pos (show lg_cmp b.toInt64 0 = 0 by rw [l_cmp_eq]; exact (l_zero _).mpr q), if_pos q]
      exact ⟨0, rfl, rfl⟩
    · rw [if_neg (show ¬ lg_cmp b.toInt64 0 = 0 by rw [l_cmp_eq]; exact fun w => q ((l_zero _).mp w)), if_pos (show ¬ b.toInt64 = 0 from fun w => q ((l_zero _).mp w)), if_neg q]
      exact ⟨_, rfl, l_div _ _⟩
  by_cases c60 : c = -60
  · rw [c60, show (-(-60 : Int32)) = 60 from rfl, jo60, xJ_60]
    by_cases q : a.toInt < b.toInt
    · rw [if_pos (show lg_cmp a.toInt64 b.toInt64 < 0 by rw [l_cmp_lt, l_ofI, l_ofI]; exact q), if_pos q]; exact ⟨1, rfl, rfl⟩
    · rw [if_neg (show ¬ lg_cmp a.toInt64 b.toInt64 < 0 by rw [l_cmp_lt, l_ofI, l_ofI]; exact q), if_neg q]; exact ⟨0, rfl, rfl⟩
  by_cases c61 : c = -61
  · rw [c61, show (-(-61 : Int32)) = 61 from rfl, jo61, xJ_61]
    by_cases q : a.toInt = b.toInt
    · rw [if_pos (show lg_cmp a.toInt64 b.toInt64 = 0 by rw [l_cmp_eq, ← Int64.toInt_inj, l_ofI, l_ofI]; exact q), if_pos q]; exact ⟨1, rfl, rfl⟩
    · rw [if_neg (show ¬ lg_cmp a.toInt64 b.toInt64 = 0 by rw [l_cmp_eq, ← Int64.toInt_inj, l_ofI, l_ofI]; exact q), if_neg q]; exact ⟨0, rfl, rfl⟩
  by_cases c62 : c = -62
  · rw [c62, show (-(-62 : Int32)) = 62 from rfl, jo62, xJ_62]
    by_cases q : b.toInt < a.toInt
    · rw [if_pos (show 0 < lg_cmp a.toInt64 b.toInt64 by rw [l_cmp_gt, l_ofI, l_ofI]; exact q), if_pos q]; exact ⟨1, rfl, rfl⟩
    · rw [if_neg (show ¬ 0 < lg_cmp a.toInt64 b.toInt64 by rw [l_cmp_gt, l_ofI, l_ofI]; exact q), if_neg q]; exact ⟨0, rfl, rfl⟩
  have h01 : (a = 0 ∨ a = 1) ∧ (b = 0 ∨ b = 1) := by
    rcases hg with z | z
    · rcases z with z | z | z | z | z | z | z
      · exact absurd z c42
      · exact absurd z c43
      · exact absurd z c45
      · exact absurd z c47
      · exact absurd z c60
      · exact absurd z c61
      · exact absurd z c62
    · exact z
  by_cases c38 : c = -38
  · rw [c38, show (-(-38 : Int32)) = 38 from rfl, jo38, xJ_38]
    exact ⟨_, rfl, (join01 h01.1 h01.2).1⟩
  · have e : f_X5_joined (-c) a.toInt64 b.toInt64 h = some (a.toInt64 ||| b.toInt64) := by
      unfold f_X5_joined
      rw [if_neg (fun z : -c = 38 => c38 (neg_i z)), if_neg (fun z : -c = 42 => c42 (neg_i z)), if_neg (fun z : -c = 43 => c43 (neg_i z)), if_neg (fun z : -c = 45 => c45 (neg_i z)), if_neg (fun z : -c = 47 => c47 (neg_i z)), if_neg (fun z : -c = 60 => c60 (neg_i z)), if_neg (fun z : -c = 61 => c61 (neg_i z)), if_neg (fun z : -c = 62 => c62 (neg_i z))]
    refine ⟨_, e, ?_⟩
    unfold xJ
    rw [if_neg c43, if_neg c45, if_neg c42, if_neg c47, if_neg c61, if_neg c60, if_neg c62, if_neg c38]
    exact (join01 h01.1 h01.2).2
theorem xW_c (env : Nat → Int32) (v : Int32) (rest st : List Int32) : xW env (v :: rest) false st = (if v = -59 then (match st with | a :: _ => some a | _ => none) else if v = -63 then (match st with | a :: r => xW env rest (decide (a = 0)) r | _ => none) else match xC env v st with | some st => xW env rest false st | none => none) := rfl
theorem xWOK_c (env : Nat → Int32) (v : Int32) (rest st : List Int32) : xWOK env (v :: rest) false st = (if v = -59 then st ≠ [] else if v = -63 then (match st with | a :: r => xWOK env rest (decide (a = 0)) r | [] => False) else xS v st ∧ ∀ st', xC env v st = some st' → xWOK env rest false st') := rfl
theorem idx_let {v : Int32} (h1 : -6 ≤ v.toInt) (h2 : v.toInt < 0) : dIn (-1 - v) 6 ∧ dI (-1 - v) = (-1 - v.toInt).toNat ∧ (-1 - v.toInt).toNat < 6 := by
  have e : (-1 - v).toInt = -1 - v.toInt := by rw [i_sub (by rw [tm1]; omega), tm1]
  generalize (-1 - v) = w at e ⊢
  generalize v.toInt = z at *
  exact ⟨⟨by omega, by omega⟩, dI_of (by omega), by omega⟩
theorem k6 : (-6 : Int32).toInt = -6 := rfl
theorem k59 : (-59 : Int32).toInt = -59 := rfl
theorem k63 : (-63 : Int32).toInt = -63 := rfl
theorem lt_m6 {v : Int32} (h : v.toInt < -6) : v < -6 := by rw [i_lt, k6]; exact h
theorem nlt_m6 {v : Int32} (h : -6 ≤ v.toInt) : ¬ v < -6 := by rw [i_lt, k6]; omega
theorem y_m1 {y : Int32} {n : Nat} (h : y.toInt = ((n + 1 : Nat) : Int)) : (y + (-1)).toInt = n := by rw [i_add (by rw [tm1]; have := i_rng y; omega), tm1]; omega
theorem y_s1 {y : Int32} {n : Nat} (h : y.toInt = ((n + 1 : Nat) : Int)) : (y - 1).toInt = n := by rw [i_sub (by rw [t1]; have := i_rng y; omega), t1]; omega
section LQ
variable {env : Nat → Int32}
theorem lp_worth {t jj N : Nat} (ht : t = 45 + jj) (hj : jj < 5) (hN : N ≤ 240) : ∀ (rest : List Int32) (n p : Nat) (st : List Int32) (skip : Bool) (y2 y4 : Int32) (c : dH), rest.length < n → p + rest.length = N → (c.1 42 2).toInt = jj → (c.1 50 jj).toInt = N → (∀ i, (hi : i < rest.length) → c.1 t (p + i) = rest[i]) → (∀ i, i < 6 → c.1 43 i = env i) → y4.toInt = p → y2.toInt = st.length → st.length ≤ 64 → (∀ i, (hi : i < st.length) → c.1 51 (st.length - 1 - i) = st[i]) → xWOK env rest skip st →
    ∃ c', f_X5_worth_L37 n t y2 skip y4 c = some ((xW env rest skip st).getD 0, c') ∧ (∀ a k, a ≠ 51 → c'.1 a k = c.1 a k) ∧ c'.2 = c.2 := by
  intro rest
  induction rest with
  | nil =>
    intro n p st skip y2 y4 c hn hp h42 h50 hr hv h4 h2 h64 hs hw
    obtain ⟨n, rfl⟩ : ∃ z, n = z + 1 := ⟨n - 1, by omega⟩
    have hp' : p = N := hp
    rw [f_X5_worth_L37, if_pos (dIn_of h42 hj), dI_of h42, if_neg (show ¬ y4 < c.1 50 jj by rw [i_lt, h50]; omega)]
    exact ⟨c, by cases skip <;> rfl, fun _ _ _ => rfl, rfl⟩
  | cons v rest ih =>
    intro n p st skip y2 y4 c hn hp h42 h50 hr hv h4 h2 h64 hs hw
    obtain ⟨n, rfl⟩ : ∃ z, n = z + 1 := ⟨n - 1, by omega⟩
    have hlen : (v :: rest).length = rest.length + 1 := rfl
    rw [hlen] at hn hp
    have ev : c.1 t p = v := hr 0 (by rw [hlen]; omega)
    have hr' : ∀ i, (hi : i < rest.length) → c.1 t (p + 1 + i) = rest[i] := fun i hi => by
      have := hr (i + 1) (by rw [hlen]; omega)
      rw [show p + 1 + i = p + (i + 1) by omega, this]
      rfl
    have y41 : (y4 + 1).toInt = ((p + 1 : Nat) : Int) := by rw [i_add1 (by omega), h4]; omega
    have t64 : (64 : Int32).toInt = 64 := rfl
    have k1 : (1 : Int32).toInt = 1 := rfl
    have k0 : (0 : Int32).toInt = 0 := rfl
    rw [f_X5_worth_L37, if_pos (dIn_of h42 hj), dI_of h42, if_pos (show y4 < c.1 50 jj by rw [i_lt, h50]; omega), if_pos (dIn_of h4 (show p < 240 by omega)), dI_of h4, ev]
    simp only [Option.bind_some]
    cases skip with
    | true =>
      rw [if_pos rfl]
      unfold f_X5_worth_J73 f_X5_worth_J249
      by_cases q : v = -59
      · rw [if_pos q]
        have e : xW env (v :: rest) true st = xW env rest false st := by show xW env rest (decide (v ≠ -59)) st = _; rw [decide_eq_false (fun z => z q)]
        have hw' : xWOK env rest (decide (v ≠ -59)) st := hw
        rw [decide_eq_false (fun z => z q)] at hw'
        rw [e]
        exact ih n (p + 1) st false y2 (y4 + 1) c (by omega) (by omega) h42 h50 hr' hv y41 h2 h64 hs hw'
      · rw [if_neg q]
        have e : xW env (v :: rest) true st = xW env rest true st := by show xW env rest (decide (v ≠ -59)) st = _; rw [decide_eq_true q]
        have hw' : xWOK env rest (decide (v ≠ -59)) st := hw
        rw [decide_eq_true q] at hw'
        rw [e]
        exact ih n (p + 1) st true y2 (y4 + 1) c (by omega) (by omega) h42 h50 hr' hv y41 h2 h64 hs hw'
    | false =>
      rw [if_neg (by decide)]
      have hw' := hw
      rw [xWOK_c] at hw'
      have ew := xW_c env v rest st
      by_cases q59 : v = -59
      · rw [if_pos q59] at hw' ew
        rw [if_pos (show v < -6 by rw [q59]; decide)]
        unfold f_X5_worth_J125
        cases st with
        | nil => exact absurd rfl hw'
        | cons a r =>
          have hl : (a :: r).length = r.length + 1 := rfl
          rw [hl] at h2 h64
          have y21 : (y2 - 1).toInt = r.length := y_s1 h2
          rw [if_neg (show ¬ y2 < 1 by rw [i_lt, k1]; omega), if_pos q59, if_pos (dIn_of y21 (by omega)), dI_of y21, ew]
          have ea := hs 0 (by rw [hl]; omega)
          rw [show (a :: r).length - 1 - 0 = r.length by rw [hl]; omega] at ea
          refine ⟨c, ?_, fun _ _ _ => rfl, rfl⟩
          rw [ea]
          rfl
      · by_cases q63 : v = -63
        · rw [if_neg q59, if_pos q63] at hw' ew
          rw [if_pos (show v < -6 by rw [q63]; decide)]
          unfold f_X5_worth_J125
          cases st with
          | nil => exact absurd hw' id
          | cons a r =>
            have hl : (a :: r).length = r.length + 1 := rfl
            have h0 := hs 0 (by rw [hl]; omega)
            rw [hl] at h2 h64
            have y21 : (y2 + (-1)).toInt = r.length := y_m1 h2
            generalize y2 + (-1) = y3 at y21 ⊢
            have ea := h0
            rw [show (a :: r).length - 1 - 0 = r.length by rw [hl]; omega, show (a :: r)[0] = a from rfl] at ea
            have hs' : ∀ i, (hi : i < r.length) → c.1 51 (r.length - 1 - i) = r[i] := fun i hi => by
              have := hs (i + 1) (by rw [hl]; omega)
              rw [show (a :: r).length - 1 - (i + 1) = r.length - 1 - i by rw [hl]; omega] at this
              exact this
            rw [if_neg (show ¬ y2 < 1 by rw [i_lt, k1]; omega), if_neg q59, if_pos q63, if_pos (dIn_of y21 (by omega)), dI_of y21, ea, ew]
            unfold f_X5_worth_J172 f_X5_worth_J249
            have hw2 : xWOK env rest (decide (a = 0)) r := hw'
            show ∃ c', _ = some ((xW env rest (decide (a = 0)) r).getD 0, c') ∧ _
            by_cases z : a = 0
            · rw [if_pos z]
              rw [decide_eq_true z] at hw2 ⊢
              exact ih n (p + 1) r true _ (y4 + 1) c (by omega) (by omega) h42 h50 hr' hv y41 y21 (by omega) hs' hw2
            · rw [if_neg z]
              rw [decide_eq_false z] at hw2 ⊢
              exact ih n (p + 1) r false _ (y4 + 1) c (by omega) (by omega) h42 h50 hr' hv y41 y21 (by omega) hs' hw2
        · rw [if_neg q59, if_neg q63] at hw' ew
          obtain ⟨xs, xo⟩ := hw'
          by_cases q6 : -6 ≤ v.toInt
          · -- a push
            unfold xS at xs
            rw [if_pos q6] at xs
            rw [if_neg (nlt_m6 q6), if_pos (show y2 < 64 by rw [i_lt, t64]; omega)]
            have push : ∀ u : Int32, xC env v st = some (u :: st) → ∃ c', f_X5_worth_J118 (f_X5_worth_L37 n) t y2 false y4 y2 u c = some ((xW env (v :: rest) false st).getD 0, c') ∧ (∀ a k, a ≠ 51 → c'.1 a k = c.1 a k) ∧ c'.2 = c.2 := fun u hu => by
              unfold f_X5_worth_J118 f_X5_worth_J249
              rw [if_pos (dIn_of h2 (by omega)), dI_of h2, ew, hu]
              simp only [Option.bind_some]
              obtain ⟨c', r1, r2, r3⟩ := ih n (p + 1) (u :: st) false (y2 + 1) (y4 + 1) (dPut c 51 st.length u) (by omega) (by omega) (by rw [dPut_ne (by omega)]; exact h42) (by rw [dPut_ne (by omega)]; exact h50) (fun i hi => by rw [dPut_ne (by omega)]; exact hr' i hi) (fun i hi => by rw [dPut_ne (by omega)]; exact hv i hi) y41 (by rw [i_add1 (by omega), h2]; show _ = ((st.length + 1 : Nat) : Int); omega) (by show st.length + 1 ≤ 64; omega) (fun i hi => by
                have hl : (u :: st).length = st.length + 1 := rfl
                rw [hl] at hi
                rw [show (u :: st).length - 1 - i = st.length - i by rw [hl]; omega]
                cases i with
                | zero => rw [show st.length - 0 = st.length by omega, dPut_at]; rfl
                | succ i =>
                  rw [dPut_ne (by omega), show st.length - (i + 1) = st.length - 1 - i by omega, hs i (by omega)]
                  rfl) (xo _ hu)
              exact ⟨c', r1, fun a k h => by rw [r2 a k h, dPut_ne (fun z => h z.1)], r3⟩
            by_cases q0 : v < 0
            · rw [if_pos q0]
              rw [i_lt, k0] at q0
              obtain ⟨ei1, ei2, ei3⟩ := idx_let q6 q0
              rw [if_pos ei1, ei2, hv _ ei3]
              refine push _ ?_
              unfold xC
              rw [if_neg (by omega), if_pos (by omega)]
            · rw [if_neg q0]
              rw [i_lt, k0] at q0
              refine push _ ?_
              unfold xC
              rw [if_pos (by omega)]
          · rw [if_pos (lt_m6 (by omega))]
            unfold f_X5_worth_J125
            unfold xS at xs
            rw [if_neg q6] at xs
            by_cases q33 : v = -33
            · rw [if_pos q33] at xs
              cases st with
              | nil => exact absurd xs.2.2 (by show ¬ 1 ≤ 0; omega)
              | cons a r =>
                have hl : (a :: r).length = r.length + 1 := rfl
                have h0 := hs 0 (by rw [hl]; omega)
                have h2' := h2
                rw [hl] at h2
                have h64' := h64
                rw [hl] at h64'
                have y21 : (y2 - 1).toInt = r.length := y_s1 h2
                have ea := h0
                rw [show (a :: r).length - 1 - 0 = r.length by rw [hl]; omega, show (a :: r)[0] = a from rfl] at ea
                have hu : xC env v (a :: r) = some ((1 - a) :: r) := by
                  unfold xC
                  rw [if_neg (by omega), if_neg q6, if_pos q33]
                rw [if_neg (show ¬ y2 < 1 by rw [i_lt, k1]; omega), if_neg q59, if_neg q63, if_pos q33, if_pos (dIn_of y21 (by omega)), if_pos (dIn_of y21 (by omega)), dI_of y21, ea, ew, hu]
                simp only [Option.bind_some]
                unfold f_X5_worth_J249
                obtain ⟨c', r1, r2, r3⟩ := ih n (p + 1) ((1 - a) :: r) false y2 (y4 + 1) (dPut c 51 r.length (1 - a)) (by omega) (by omega) (by rw [dPut_ne (by omega)]; exact h42) (by rw [dPut_ne (by omega)]; exact h50) (fun i hi => by rw [dPut_ne (by omega)]; exact hr' i hi) (fun i hi => by rw [dPut_ne (by omega)]; exact hv i hi) y41 h2' h64 (fun i hi => by
                  have hl2 : ((1 - a) :: r).length = r.length + 1 := rfl
                  rw [hl2] at hi
                  rw [show ((1 - a) :: r).length - 1 - i = r.length - i by rw [hl2]; omega]
                  cases i with
                  | zero => rw [show r.length - 0 = r.length by omega, dPut_at]; rfl
                  | succ i =>
                    have := hs (i + 1) (by rw [hl]; omega)
                    rw [show (a :: r).length - 1 - (i + 1) = r.length - (i + 1) by rw [hl]; omega] at this
                    rw [dPut_ne (by omega), this]
                    rfl) (xo _ hu)
                exact ⟨c', r1, fun a k h => by rw [r2 a k h, dPut_ne (fun z => h z.1)], r3⟩
            · rw [if_neg q33] at xs
              cases st with
              | nil => exact absurd xs.2.2 id
              | cons b r0 =>
                cases r0 with
                | nil => exact absurd xs.2.2 id
                | cons a r =>
                  have hg := xs.2.2
                  have hl : (b :: a :: r).length = r.length + 2 := rfl
                  have h0 := hs 0 (by rw [hl]; omega)
                  have h1 := hs 1 (by rw [hl]; omega)
                  rw [hl] at h2 h64
                  have y21 : (y2 + (-1)).toInt = ((r.length + 1 : Nat) : Int) := y_m1 h2
                  have y22 : (y2 + (-1) - 1).toInt = r.length := y_s1 y21
                  generalize y2 + (-1) = y3 at y21 y22 ⊢
                  generalize y3 - 1 = y5 at y22 ⊢
                  have eb := h0
                  rw [show (b :: a :: r).length - 1 - 0 = r.length + 1 by rw [hl]; omega, show (b :: a :: r)[0] = b from rfl] at eb
                  have ea := h1
                  rw [show (b :: a :: r).length - 1 - 1 = r.length by rw [hl]; omega, show (b :: a :: r)[1] = a from rfl] at ea
                  obtain ⟨x, j1, j2⟩ := joinC (c := v) (a := a) (b := b) c hg
                  have hu : xC env v (b :: a :: r) = some (xH (xJ v a.toInt b.toInt) :: r) := xC_join env (by omega) q33
                  rw [if_neg (show ¬ y2 < 1 by rw [i_lt, k1]; omega), if_neg q59, if_neg q63, if_neg q33, if_pos (show 1 < y2 by rw [i_lt, k1]; omega), if_pos (dIn_of y22 (by omega)), if_pos (dIn_of y21 (by omega)), dI_of y22, dI_of y21, ea, eb, j1, ew, hu]
                  rw [Option.bind_some, if_pos (dIn_of y22 (show r.length < 64 by omega)), heC, j2, Option.bind_some]
                  unfold f_X5_worth_J249
                  have xo' := xo _ hu
                  clear hu j2 j1
                  generalize xH (xJ v a.toInt b.toInt) = w at xo' ⊢
                  obtain ⟨c', r1, r2, r3⟩ := ih n (p + 1) (w :: r) false y3 (y4 + 1) (dPut c 51 r.length w) (by omega) (by omega) (by rw [dPut_ne (by omega)]; exact h42) (by rw [dPut_ne (by omega)]; exact h50) (fun i hi => by rw [dPut_ne (by omega)]; exact hr' i hi) (fun i hi => by rw [dPut_ne (by omega)]; exact hv i hi) y41 y21 (by show r.length + 1 ≤ 64; omega) (fun i hi => by
                    have hl2 : (w :: r).length = r.length + 1 := rfl
                    rw [hl2] at hi
                    rw [show (w :: r).length - 1 - i = r.length - i by rw [hl2]; omega]
                    cases i with
                    | zero => rw [show r.length - 0 = r.length by omega, dPut_at]; rfl
                    | succ i =>
                      have := hs (i + 2) (by rw [hl]; omega)
                      rw [show (b :: a :: r).length - 1 - (i + 2) = r.length - (i + 1) by rw [hl]; omega] at this
                      rw [dPut_ne (by omega), this]
                      rfl) xo'
                  exact ⟨c', r1, fun a k h => by rw [r2 a k h, dPut_ne (fun z => h z.1)], r3⟩
end LQ
