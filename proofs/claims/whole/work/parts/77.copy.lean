/-! PURE: loops that copy a stretch -/
theorem dCpy_0 (h : dH) (a b sp dp : Nat) : dCpy h a b sp dp 0 = h := by
  have e : (fun c j => if c = b then va_cpy (h.1 a) (h.1 b) sp dp 0 j else h.1 c j) = h.1 := funext fun c => funext fun j => by
    by_cases q : c = b
    · rw [if_pos q]
      unfold va_cpy
      rw [if_neg (by omega), q]
    · rw [if_neg q]
  unfold dCpy
  rw [e]
theorem dCpy_s (h : dH) {a b sp dp n : Nat} (hab : a = b → dp < sp) : dCpy (dPut h b dp (h.1 a sp)) a b (sp + 1) (dp + 1) n = dCpy h a b sp dp (n + 1) := by
  unfold dCpy
  refine Prod.ext (funext fun c => funext fun j => ?_) rfl
  show (if c = b then va_cpy ((dPut h b dp (h.1 a sp)).1 a) ((dPut h b dp (h.1 a sp)).1 b) (sp + 1) (dp + 1) n j else (dPut h b dp (h.1 a sp)).1 c j) = (if c = b then va_cpy (h.1 a) (h.1 b) sp dp (n + 1) j else h.1 c j)
  by_cases q : c = b
  · rw [if_pos q, if_pos q]
    unfold va_cpy
    by_cases q1 : dp + 1 ≤ j ∧ j < dp + 1 + n
    · rw [if_pos q1, if_pos (by omega), dPut_ne (fun z => by have := hab z.1; omega)]
      rw [show sp + 1 + (j - (dp + 1)) = sp + (j - dp) by omega]
    · rw [if_neg q1]
      by_cases q2 : j = dp
      · rw [q2, dPut_at, if_pos (by omega), Nat.sub_self]
        rfl
      · rw [dPut_ne (fun z => q2 z.2), if_neg (by omega)]
  · rw [if_neg q, if_neg q, dPut_ne (fun z => q z.1)]
theorem dCpy_r (h : dH) {a b sp dp n c j : Nat} : (dCpy h a b sp dp n).1 c j = if c = b ∧ dp ≤ j ∧ j < dp + n then h.1 a (sp + (j - dp)) else h.1 c j := by
  show (if c = b then va_cpy (h.1 a) (h.1 b) sp dp n j else h.1 c j) = _
  by_cases q : c = b
  · rw [if_pos q]
    unfold va_cpy
    by_cases q1 : dp ≤ j ∧ j < dp + n
    · rw [if_pos q1, if_pos ⟨q, q1⟩]
    · rw [if_neg q1, if_neg (fun z => q1 z.2), q]
  · rw [if_neg q, if_neg (fun z => q z.1)]
theorem y_suc {y : Int32} {j : Nat} (hy : y.toInt = j) (hj : j < 100000) : (y + 1).toInt = (j + 1 : Nat) := by
  rw [i_add1 (by omega), hy]
  omega

theorem lp_image : ∀ (m n j : Nat) (y : Int32) (h : dH), m < n → y.toInt = j → j + m = 209 → f_X12_image_L16 n y h = (fun H : dH => some (((dPut H 0 54 1).1 11 27), (dPut H 0 54 1))) (dCpy h 11 23 j j m) := by
  intro m
  induction m with
  | zero =>
    intro n j y h hn hy hj
    obtain ⟨n, rfl⟩ : ∃ k, n = k + 1 := ⟨n - 1, by omega⟩
    rw [dCpy_0, f_X12_image_L16, if_neg (by rw [i_lt, hy]; show ¬ ((j : Int) < 209); omega)]
  | succ m ih =>
    intro n j y h hn hy hj
    obtain ⟨n, rfl⟩ : ∃ k, n = k + 1 := ⟨n - 1, by omega⟩
    rw [f_X12_image_L16, if_pos (by rw [i_lt, hy]; show (j : Int) < 209; omega)]
    rw [if_pos (show dIn y 209 from dIn_of hy (by omega)), if_pos (show dIn y 209 from dIn_of hy (by omega)), Option.bind_some, show dI y = j from dI_of hy, ih n (j + 1) (y + 1) _ (by omega) (y_suc hy (by omega)) (by omega), dCpy_s h (fun z => absurd z (by decide))]

theorem lp_back : ∀ (m n j : Nat) (y : Int32) (h : dH), m < n → y.toInt = j → j + m = 209 → f_X12_back_L16 n y h = (fun H : dH => some (((dPut H 0 35 0).1 11 27), (dPut H 0 35 0))) (dCpy h 23 11 j j m) := by
  intro m
  induction m with
  | zero =>
    intro n j y h hn hy hj
    obtain ⟨n, rfl⟩ : ∃ k, n = k + 1 := ⟨n - 1, by omega⟩
    rw [dCpy_0, f_X12_back_L16, if_neg (by rw [i_lt, hy]; show ¬ ((j : Int) < 209); omega)]
  | succ m ih =>
    intro n j y h hn hy hj
    obtain ⟨n, rfl⟩ : ∃ k, n = k + 1 := ⟨n - 1, by omega⟩
    rw [f_X12_back_L16, if_pos (by rw [i_lt, hy]; show (j : Int) < 209; omega)]
    rw [if_pos (show dIn y 209 from dIn_of hy (by omega)), if_pos (show dIn y 209 from dIn_of hy (by omega)), Option.bind_some, show dI y = j from dI_of hy, ih n (j + 1) (y + 1) _ (by omega) (y_suc hy (by omega)) (by omega), dCpy_s h (fun z => absurd z (by decide))]

theorem lp_copy : ∀ (m n j : Nat) (y : Int32) (h : dH), m < n → y.toInt = j → j + m = 28 → f_X12_copy_L2 n y h = (fun H : dH => some (dPut H 12 28 0)) (dCpy h 11 12 j j m) := by
  intro m
  induction m with
  | zero =>
    intro n j y h hn hy hj
    obtain ⟨n, rfl⟩ : ∃ k, n = k + 1 := ⟨n - 1, by omega⟩
    rw [dCpy_0, f_X12_copy_L2, if_neg (by rw [i_lt, hy]; show ¬ ((j : Int) < 28); omega)]
  | succ m ih =>
    intro n j y h hn hy hj
    obtain ⟨n, rfl⟩ : ∃ k, n = k + 1 := ⟨n - 1, by omega⟩
    rw [f_X12_copy_L2, if_pos (by rw [i_lt, hy]; show (j : Int) < 28; omega)]
    rw [if_pos (show dIn y 209 from dIn_of hy (by omega)), if_pos (show dIn y 209 from dIn_of hy (by omega)), Option.bind_some, show dI y = j from dI_of hy, ih n (j + 1) (y + 1) _ (by omega) (y_suc hy (by omega)) (by omega), dCpy_s h (fun z => absurd z (by decide))]

theorem lp_rule : ∀ (m n j : Nat) (y : Int32) (h : dH), m < n → y.toInt = j → j + m = 3 → f_X12_text_L215 n y h = (fun H : dH => f_X12_text_L240 dFu 0 H) (dCpy h 6 5 j j m) := by
  intro m
  induction m with
  | zero =>
    intro n j y h hn hy hj
    obtain ⟨n, rfl⟩ : ∃ k, n = k + 1 := ⟨n - 1, by omega⟩
    rw [dCpy_0, f_X12_text_L215, if_neg (by rw [i_lt, hy]; show ¬ ((j : Int) < 3); omega)]
  | succ m ih =>
    intro n j y h hn hy hj
    obtain ⟨n, rfl⟩ : ∃ k, n = k + 1 := ⟨n - 1, by omega⟩
    rw [f_X12_text_L215, if_pos (by rw [i_lt, hy]; show (j : Int) < 3; omega)]
    rw [if_pos (show dIn y 3 from dIn_of hy (by omega)), if_pos (show dIn y 3 from dIn_of hy (by omega)), Option.bind_some, show dI y = j from dI_of hy, ih n (j + 1) (y + 1) _ (by omega) (y_suc hy (by omega)) (by omega), dCpy_s h (fun z => absurd z (by decide))]

theorem lp_told : ∀ (m n j : Nat) (y : Int32) (h : dH), m < n → y.toInt = j → j + m = 35 → f_X12_text_L240 n y h = (fun H : dH => f_X12_text_L266 dFu 0 H) (dCpy h 8 7 j j m) := by
  intro m
  induction m with
  | zero =>
    intro n j y h hn hy hj
    obtain ⟨n, rfl⟩ : ∃ k, n = k + 1 := ⟨n - 1, by omega⟩
    rw [dCpy_0, f_X12_text_L240, if_neg (by rw [i_lt, hy]; show ¬ ((j : Int) < 35); omega)]
  | succ m ih =>
    intro n j y h hn hy hj
    obtain ⟨n, rfl⟩ : ∃ k, n = k + 1 := ⟨n - 1, by omega⟩
    rw [f_X12_text_L240, if_pos (by rw [i_lt, hy]; show (j : Int) < 35; omega)]
    rw [if_pos (show dIn y 35 from dIn_of hy (by omega)), if_pos (show dIn y 35 from dIn_of hy (by omega)), Option.bind_some, show dI y = j from dI_of hy, ih n (j + 1) (y + 1) _ (by omega) (y_suc hy (by omega)) (by omega), dCpy_s h (fun z => absurd z (by decide))]
/-- rows laid behind one another: slots 209 * c + j -/
theorem off_i {c j w N : Nat} {q y : Int32} (hq : q.toInt = c) (hy : y.toInt = j) (hw : w < 1000) (hc : c ≤ 1000) (hj : j ≤ 10000) (hN : w * c + j < N) : dI (Int32.ofNat w * q + y) = w * c + j ∧ dIn (Int32.ofNat w * q + y) N := by
  have hwc : w * c ≤ 1000000 := Nat.le_trans (Nat.mul_le_mul (Nat.le_of_lt hw) hc) (by omega)
  have hm : (Int32.ofNat w * q).toInt = ((w * c : Nat) : Int) := by
    rw [i_mul (by rw [i_ofNat (by omega), hq]; have := Int.natCast_mul w c; omega), i_ofNat (by omega), hq]
    exact (Int.natCast_mul w c).symm
  have ha : (Int32.ofNat w * q + y).toInt = ((w * c + j : Nat) : Int) := by
    rw [i_add (by rw [hm, hy]; omega), hm, hy]
    omega
  exact ⟨dI_of ha, dIn_of ha hN⟩
theorem lp_undo : ∀ (m n j c : Nat) (y : Int32) (h : dH), m < n → y.toInt = j → j + m = 209 → (h.1 0 35).toInt = c → c < 40 → f_X12_undo_L26 n y h = (fun H : dH => some ((H.1 0 35), H)) (dCpy h 15 11 (209 * c + j) j m) := by
  intro m
  induction m with
  | zero =>
    intro n j c y h hn hy hj hc hc4
    obtain ⟨n, rfl⟩ : ∃ k, n = k + 1 := ⟨n - 1, by omega⟩
    rw [dCpy_0, f_X12_undo_L26, if_neg (by rw [i_lt, hy]; show ¬ ((j : Int) < 209); omega)]
  | succ m ih =>
    intro n j c y h hn hy hj hc hc4
    obtain ⟨n, rfl⟩ : ∃ k, n = k + 1 := ⟨n - 1, by omega⟩
    have o : dI (209 * h.1 0 35 + y) = 209 * c + j ∧ dIn (209 * h.1 0 35 + y) 8360 := off_i (w := 209) hc hy (by omega) (by omega) (by omega) (by omega)
    rw [f_X12_undo_L26, if_pos (by rw [i_lt, hy]; show (j : Int) < 209; omega)]
    rw [if_pos o.2, if_pos (show dIn y 209 from dIn_of hy (by omega)), Option.bind_some, show dI y = j from dI_of hy, o.1, ih n (j + 1) c (y + 1) _ (by omega) (y_suc hy (by omega)) (by omega) (by rw [dPut_ne (by omega)]; exact hc) hc4, show 209 * c + (j + 1) = 209 * c + j + 1 by omega, dCpy_s h (fun z => absurd z (by decide))]
theorem lp_rem : ∀ (m n j c : Nat) (y : Int32) (h : dH), m < n → y.toInt = j → j + m = 209 → (h.1 0 35).toInt = c → c < 40 → f_X12_remember_L52 n y h = (fun H : dH => some (dPut H 0 35 ((H.1 0 35) + 1))) (dCpy h 11 15 j (209 * c + j) m) := by
  intro m
  induction m with
  | zero =>
    intro n j c y h hn hy hj hc hc4
    obtain ⟨n, rfl⟩ : ∃ k, n = k + 1 := ⟨n - 1, by omega⟩
    rw [dCpy_0, f_X12_remember_L52, if_neg (by rw [i_lt, hy]; show ¬ ((j : Int) < 209); omega)]
  | succ m ih =>
    intro n j c y h hn hy hj hc hc4
    obtain ⟨n, rfl⟩ : ∃ k, n = k + 1 := ⟨n - 1, by omega⟩
    have o : dI (209 * h.1 0 35 + y) = 209 * c + j ∧ dIn (209 * h.1 0 35 + y) 8360 := off_i (w := 209) hc hy (by omega) (by omega) (by omega) (by omega)
    rw [f_X12_remember_L52, if_pos (by rw [i_lt, hy]; show (j : Int) < 209; omega)]
    rw [if_pos (show dIn y 209 from dIn_of hy (by omega)), if_pos o.2, Option.bind_some, show dI y = j from dI_of hy, o.1, ih n (j + 1) c (y + 1) _ (by omega) (y_suc hy (by omega)) (by omega) (by rw [dPut_ne (by omega)]; exact hc) hc4, show 209 * c + (j + 1) = 209 * c + j + 1 by omega, dCpy_s h (fun z => absurd z (by decide))]
theorem lp_shift : ∀ (m n j : Nat) (y : Int32) (h : dH), m < n → y.toInt = j → j + m = 8151 → f_X12_remember_L11 n y h = (fun H : dH => f_X12_remember_J50 (dPut H 0 35 ((H.1 0 35) - 1))) (dCpy h 15 15 (j + 209) j m) := by
  intro m
  induction m with
  | zero =>
    intro n j y h hn hy hj
    obtain ⟨n, rfl⟩ : ∃ k, n = k + 1 := ⟨n - 1, by omega⟩
    rw [dCpy_0, f_X12_remember_L11, if_neg (by rw [i_lt, hy]; show ¬ ((j : Int) < 8151); omega), Option.bind_some]
  | succ m ih =>
    intro n j y h hn hy hj
    obtain ⟨n, rfl⟩ : ∃ k, n = k + 1 := ⟨n - 1, by omega⟩
    have e : (y + 209).toInt = ((j + 209 : Nat) : Int) := by
      rw [i_add (by rw [hy, show (209 : Int32).toInt = 209 from rfl]; omega), hy, show (209 : Int32).toInt = 209 from rfl]
      omega
    rw [f_X12_remember_L11, if_pos (by rw [i_lt, hy]; show (j : Int) < 8151; omega)]
    rw [if_pos (show dIn (y + 209) 8360 from dIn_of e (by omega)), if_pos (show dIn y 8360 from dIn_of hy (by omega)), Option.bind_some, show dI y = j from dI_of hy, show dI (y + 209) = j + 209 from dI_of e, ih n (j + 1) (y + 1) _ (by omega) (y_suc hy (by omega)) (by omega), show j + 1 + 209 = j + 209 + 1 by omega, dCpy_s h (fun _ => by omega)]
theorem lp_keep : ∀ (m n j c : Nat) (x y : Int32) (h : dH), m < n → y.toInt = j → j + m = 29 → x.toInt = c → c < 8 → f_X12_keep_L2 n x y h = some (dCpy h 12 16 j (29 * c + j) m) := by
  intro m
  induction m with
  | zero =>
    intro n j c x y h hn hy hj hc hc4
    obtain ⟨n, rfl⟩ : ∃ k, n = k + 1 := ⟨n - 1, by omega⟩
    rw [dCpy_0, f_X12_keep_L2, if_neg (by rw [i_lt, hy]; show ¬ ((j : Int) < 29); omega)]
  | succ m ih =>
    intro n j c x y h hn hy hj hc hc4
    obtain ⟨n, rfl⟩ : ∃ k, n = k + 1 := ⟨n - 1, by omega⟩
    have o : dI (29 * x + y) = 29 * c + j ∧ dIn (29 * x + y) 232 := off_i (w := 29) hc hy (by omega) (by omega) (by omega) (by omega)
    rw [f_X12_keep_L2, if_pos (by rw [i_lt, hy]; show (j : Int) < 29; omega)]
    rw [if_pos (show dIn y 209 from dIn_of hy (by omega)), if_pos o.2, Option.bind_some, show dI y = j from dI_of hy, o.1, ih n (j + 1) c x (y + 1) _ (by omega) (y_suc hy (by omega)) (by omega) hc hc4, show 29 * c + (j + 1) = 29 * c + j + 1 by omega, dCpy_s h (fun z => absurd z (by decide))]
theorem lp_again : ∀ (m n j c : Nat) (x y : Int32) (h : dH), m < n → y.toInt = j → j + m = 29 → x.toInt = c → c < 8 → f_X12_again_L2 n x y h = some (dCpy h 16 12 (29 * c + j) j m) := by
  intro m
  induction m with
  | zero =>
    intro n j c x y h hn hy hj hc hc4
    obtain ⟨n, rfl⟩ : ∃ k, n = k + 1 := ⟨n - 1, by omega⟩
    rw [dCpy_0, f_X12_again_L2, if_neg (by rw [i_lt, hy]; show ¬ ((j : Int) < 29); omega)]
  | succ m ih =>
    intro n j c x y h hn hy hj hc hc4
    obtain ⟨n, rfl⟩ : ∃ k, n = k + 1 := ⟨n - 1, by omega⟩
    have o : dI (29 * x + y) = 29 * c + j ∧ dIn (29 * x + y) 232 := off_i (w := 29) hc hy (by omega) (by omega) (by omega) (by omega)
    rw [f_X12_again_L2, if_pos (by rw [i_lt, hy]; show (j : Int) < 29; omega)]
    rw [if_pos o.2, if_pos (show dIn y 209 from dIn_of hy (by omega)), Option.bind_some, show dI y = j from dI_of hy, o.1, ih n (j + 1) c x (y + 1) _ (by omega) (y_suc hy (by omega)) (by omega) hc hc4, show 29 * c + (j + 1) = 29 * c + j + 1 by omega, dCpy_s h (fun z => absurd z (by decide))]
/-- the LOG moves up by one -/
theorem lp_log (w : Nat) : ∀ (m n j : Nat) (y : Int32) (h : dH), m < n → y.toInt = j → j + m = 178 → 1 ≤ j → f_X12_goDay_L11 w n y h = (fun H : dH => f_X12_goDay_J46 w (dPut H w 28 ((H.1 w 28) - 1))) (dCpy h w w (28 + j + 3) (28 + j) m) := by
  intro m
  induction m with
  | zero =>
    intro n j y h hn hy hj h1
    obtain ⟨n, rfl⟩ : ∃ k, n = k + 1 := ⟨n - 1, by omega⟩
    rw [dCpy_0, f_X12_goDay_L11, if_pos (by rw [i_lt, hy]; show (177 : Int) < (j : Int); omega), Option.bind_some]
  | succ m ih =>
    intro n j y h hn hy hj h1
    obtain ⟨n, rfl⟩ : ∃ k, n = k + 1 := ⟨n - 1, by omega⟩
    have k28 : (28 : Int32).toInt = 28 := rfl
    have k3 : (3 : Int32).toInt = 3 := rfl
    have e : (28 + y).toInt = ((28 + j : Nat) : Int) := by
      rw [i_add (by rw [hy, k28]; omega), hy, k28]
      omega
    have e3 : (28 + y + 3).toInt = ((28 + j + 3 : Nat) : Int) := by
      rw [i_add (by rw [e, k3]; omega), e, k3]
      omega
    rw [f_X12_goDay_L11, if_neg (by rw [i_lt, hy]; show ¬ ((177 : Int) < (j : Int)); omega)]
    rw [if_pos (show dIn (28 + y + 3) 209 from dIn_of e3 (by omega)), if_pos (show dIn (28 + y) 209 from dIn_of e (by omega)), Option.bind_some, show dI (28 + y) = 28 + j from dI_of e, show dI (28 + y + 3) = 28 + j + 3 from dI_of e3, ih n (j + 1) (y + 1) _ (by omega) (y_suc hy (by omega)) (by omega) (by omega), show 28 + (j + 1) + 3 = 28 + j + 3 + 1 by omega, show 28 + (j + 1) = 28 + j + 1 by omega, dCpy_s h (fun _ => by omega)]
theorem fuel_lt {m : Nat} (h : m < 20000) : m < dFu := h
