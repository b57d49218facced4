/-! PURE: the STEPS of a CITY; its whole text -/
section ME
variable {c d h : dH} {B : Nat → Nat} {L i P t : Nat} {x y : Int32}
def tl (h : dH) (t i w : Nat) : Int32 := if i = 0 then 0 else h.1 (t + 3 + (i - 1)) w
def vl (h : dH) (t i j : Nat) : Int32 := jabs (tl h t i 0 - tl h t j 0) + jabs (tl h t i 1 - tl h t j 1)
theorem tl_c {h' : dH} (e : ∀ a k, t + 3 ≤ a → a ≤ t + 9 → h'.1 a k = h.1 a k) {w : Nat} (hi : i ≤ 7) : tl h' t i w = tl h t i w := by
  unfold tl
  by_cases q : i = 0
  · rw [if_pos q, if_pos q]
  · rw [if_neg q, if_neg q, e _ _ (by omega) (by omega)]
theorem vl_c {h' : dH} (e : ∀ a k, t + 3 ≤ a → a ≤ t + 9 → h'.1 a k = h.1 a k) {j : Nat} (hi : i ≤ 7) (hj : j ≤ 7) : vl h' t i j = vl h t i j := by
  unfold vl
  rw [tl_c e hi, tl_c e hi, tl_c e hj, tl_c e hj]
theorem C_tl (hP : (h.1 t 2).toInt = P) (hP7 : P ≤ 7) (hx : x.toInt = (i : Int) - 1) (hi : i ≤ P) {w : Nat} (hw : w < 5) : f_X1_toldOf t x (Int32.ofNat w) h = some (tl h t i w) := by
  have k4 : (4 : Int32).toInt = 4 := rfl
  have ew : (Int32.ofNat w).toInt = w := i_ofNat (by omega)
  unfold f_X1_toldOf tl
  rw [C_isPlace, hP]
  by_cases q : i = 0
  · rw [if_neg (by rw [decide_eq_true_iff]; omega), if_pos q]
  · rw [if_pos (decide_eq_true (by omega)), if_neg (by rw [i_lt, ew, t0]; omega), if_neg (by rw [i_lt, ew, k4]; omega), if_pos (⟨by omega, by omega⟩ : dIn x 7), if_pos (dIn_of ew (by omega)), if_neg q, dI_of ew, show dI x = i - 1 from dI_of (by omega)]
theorem lp_me1 (ht : t = 3 ∨ t = 22) {a : Nat} (ha : y.toInt = (a : Int) - 1) {kL : Int32 → dH → Option (dH)} : ∀ (m n b : Nat) (y2 : Int32) (h : dH), (h.1 t 2).toInt = P → P ≤ 7 → a ≤ P → y2.toInt = (b : Int) - 1 → b + m = P + 1 → m < n → ∃ h' : dH, f_X1_measure_L12 t kL n y y2 h = kL (y + 1) h' ∧ (∀ r k, r ≠ t + 11 + a → h'.1 r k = h.1 r k) ∧ (∀ j, b ≤ j → j ≤ P → h'.1 (t + 11 + a) j = vl h t a j) ∧ (∀ j, j < b → h'.1 (t + 11 + a) j = h.1 (t + 11 + a) j) := by
  intro m
  induction m with
  | zero =>
    intro n b y2 h hP hP7 haP hy2 hb hn
    obtain ⟨n, rfl⟩ : ∃ z, n = z + 1 := ⟨n - 1, by omega⟩
    rw [f_X1_measure_L12, if_neg (show ¬ y2 < h.1 t 2 by rw [i_lt, hP]; omega)]
    exact ⟨h, rfl, fun _ _ _ => rfl, fun j h1 h2 => by omega, fun _ _ => rfl⟩
  | succ m ih =>
    intro n b y2 h hP hP7 haP hy2 hb hn
    obtain ⟨n, rfl⟩ : ∃ z, n = z + 1 := ⟨n - 1, by omega⟩
    have e1 : (y + 1).toInt = (a : Int) := by rw [i_add1 (by omega), ha]; omega
    have e2 : (y2 + 1).toInt = (b : Int) := by rw [i_add1 (by omega), hy2]; omega
    have o0 : Int32.ofNat 0 = 0 := rfl
    have o1 : Int32.ofNat 1 = 1 := rfl
    have a0 := C_tl (w := 0) hP hP7 ha haP (by omega)
    have a1 := C_tl (w := 1) hP hP7 ha haP (by omega)
    have b0 := C_tl (w := 0) hP hP7 hy2 (show b ≤ P by omega) (by omega)
    have b1 := C_tl (w := 1) hP hP7 hy2 (show b ≤ P by omega) (by omega)
    rw [o0] at a0 b0
    rw [o1] at a1 b1
    rw [f_X1_measure_L12, if_pos (show y2 < h.1 t 2 by rw [i_lt, hP]; omega), if_pos (dIn_of e1 (by omega)), a0, b0, a1, b1]
    simp only [Option.bind_some]
    rw [if_pos (dIn_of e2 (by omega)), dI_of e1, dI_of e2]
    obtain ⟨h', u1, u2, u3, u4⟩ := ih n (b + 1) (y2 + 1) (dPut h (t + 11 + a) b (jabs (tl h t a 0 - tl h t b 0) + jabs (tl h t a 1 - tl h t b 1))) (by rw [dPut_ne (by omega)]; exact hP) hP7 haP (by rw [e2]; omega) (by omega) (by omega)
    refine ⟨h', u1, fun r k hr => by rw [u2 r k hr, dPut_ne (fun z => hr z.1)], fun j h1 h2 => ?_, fun j hj => by rw [u4 j (by omega), dPut_ne (by omega)]⟩
    by_cases q : j = b
    · rw [q, u4 b (by omega), dPut_at]
      rfl
    · rw [u3 j (by omega) h2]
      exact vl_c (fun r k h1 h2 => dPut_ne (by omega)) (by omega) (by omega)
theorem lp_me2 (ht : t = 3 ∨ t = 22) : ∀ (m n a : Nat) (y : Int32) (h : dH), (h.1 t 2).toInt = P → P ≤ 7 → y.toInt = (a : Int) - 1 → a + m = P + 1 → m < n → ∃ h' : dH, f_X1_measure_L2 t n y h = some h' ∧ (∀ r k, ¬ (t + 11 ≤ r ∧ r ≤ t + 18) → h'.1 r k = h.1 r k) ∧ (∀ i j, a ≤ i → i ≤ P → j ≤ P → h'.1 (t + 11 + i) j = vl h t i j) ∧ (∀ i j, i < a → h'.1 (t + 11 + i) j = h.1 (t + 11 + i) j) := by
  intro m
  induction m with
  | zero =>
    intro n a y h hP hP7 hy ha hn
    obtain ⟨n, rfl⟩ : ∃ z, n = z + 1 := ⟨n - 1, by omega⟩
    rw [f_X1_measure_L2, if_neg (show ¬ y < h.1 t 2 by rw [i_lt, hP]; omega)]
    exact ⟨h, rfl, fun _ _ _ => rfl, fun i j h1 h2 _ => by omega, fun _ _ _ => rfl⟩
  | succ m ih =>
    intro n a y h hP hP7 hy ha hn
    obtain ⟨n, rfl⟩ : ∃ z, n = z + 1 := ⟨n - 1, by omega⟩
    rw [f_X1_measure_L2, if_pos (show y < h.1 t 2 by rw [i_lt, hP]; omega)]
    obtain ⟨h1, u1, u2, u3, u4⟩ := lp_me1 ht hy (kL := f_X1_measure_L2 t n) (P + 1) dFu 0 (-1) h hP hP7 (by omega) (by rw [tm1]; omega) (by omega) (fuel_lt (by omega))
    rw [u1]
    obtain ⟨h2, v1, v2, v3, v4⟩ := ih n (a + 1) (y + 1) h1 (by rw [u2 t 2 (by omega)]; exact hP) hP7 (by rw [i_add1 (by omega), hy]; omega) (by omega) (by omega)
    refine ⟨h2, v1, fun r k hr => by rw [v2 r k hr, u2 r k (by omega)], fun i j w1 w2 w3 => ?_, fun i j w1 => by rw [v4 i j (by omega), u2 _ _ (by omega)]⟩
    by_cases q : i = a
    · rw [q, v4 a j (by omega), u3 j (by omega) w3]
    · rw [v3 i j (by omega) w2 w3]
      exact vl_c (fun r k z1 z2 => u2 r k (by omega)) (by omega) (by omega)
theorem C_measure (ht : t = 3 ∨ t = 22) (hP : (h.1 t 2).toInt = P) (hP7 : P ≤ 7) : ∃ h' : dH, f_X1_measure t h = some h' ∧ (∀ r k, ¬ (t + 11 ≤ r ∧ r ≤ t + 18) → h'.1 r k = h.1 r k) ∧ (∀ i j, i ≤ P → j ≤ P → h'.1 (t + 11 + i) j = vl h t i j) := by
  obtain ⟨h', u1, u2, u3, _⟩ := lp_me2 ht (P + 1) dFu 0 (-1) h hP hP7 (by rw [tm1]; omega) (by omega) (fuel_lt (by omega))
  exact ⟨h', u1, u2, fun i j h1 h2 => u3 i j (by omega) h1 h2⟩
/-- two in one place -/
theorem vl_0 {i j : Nat} (b : ∀ i w, i ≤ P → w < 2 → bt 0 9 (tl h t i w)) (hi : i ≤ P) (hj : j ≤ P) : vl h t i j = 0 ↔ tl h t i 0 = tl h t j 0 ∧ tl h t i 1 = tl h t j 1 := by
  have x0 := b i 0 hi (by omega)
  have x1 := b i 1 hi (by omega)
  have y0 := b j 0 hj (by omega)
  have y1 := b j 1 hj (by omega)
  have x01 := x0.1
  have x02 := x0.2
  have x11 := x1.1
  have x12 := x1.2
  have y01 := y0.1
  have y02 := y0.2
  have y11 := y1.1
  have y12 := y1.2
  have s0 : (tl h t i 0 - tl h t j 0).toInt = (tl h t i 0).toInt - (tl h t j 0).toInt := i_sub (by omega)
  have s1 : (tl h t i 1 - tl h t j 1).toInt = (tl h t i 1).toInt - (tl h t j 1).toInt := i_sub (by omega)
  have j0 := i_jabs (x := tl h t i 0 - tl h t j 0) (by omega)
  have j1 := i_jabs (x := tl h t i 1 - tl h t j 1) (by omega)
  rw [s0] at j0
  rw [s1] at j1
  have hs : (vl h t i j).toInt = (jabs (tl h t i 0 - tl h t j 0)).toInt + (jabs (tl h t i 1 - tl h t j 1)).toInt := by
    unfold vl
    refine i_add ?_
    rw [j0, j1]
    split <;> split <;> omega
  rw [i_eq, hs, t0, i_eq, i_eq, j0, j1]
  split <;> split <;> omega
theorem C_ap22 (hP : (h.1 22 2).toInt = P) (hP7 : P ≤ 7) {a b : Nat} (hx : x.toInt = a) (hy : y.toInt = b) (ha : a < P) (hb : b < P) : f_X1_apart 22 x y h = some (h.1 (33 + (a + 1)) (b + 1)) := by
  have e1 : (x + 1).toInt = ((a + 1 : Nat) : Int) := by rw [i_add1 (by omega), hx]; omega
  have e2 : (y + 1).toInt = ((b + 1 : Nat) : Int) := by rw [i_add1 (by omega), hy]; omega
  unfold f_X1_apart
  rw [if_neg (show ¬ x < -1 by rw [i_lt, tm1]; omega), if_pos (show x < h.1 22 2 by rw [i_lt, hP]; omega), if_neg (show ¬ y < -1 by rw [i_lt, tm1]; omega), if_pos (show y < h.1 22 2 by rw [i_lt, hP]; omega), if_pos (dIn_of e1 (by omega)), if_pos (dIn_of e2 (by omega)), dI_of e1, dI_of e2]
theorem lp_two1 (hP : (c.1 22 2).toInt = P) (hP7 : P ≤ 7) (v : ∀ a b, a < P → b < P → (c.1 (33 + (a + 1)) (b + 1) = 0 ↔ d.1 8 (5 * a) = d.1 8 (5 * b) ∧ d.1 8 (5 * a + 1) = d.1 8 (5 * b + 1))) {a : Nat} (ha : x.toInt = a) (haP : a < P) {kC kM : Int32 → Option Bool} {z : Bool} (hk : ∃ b : Bool, kC (x + 1) = some b ∧ kM (x + 1) = some (if b then false else z)) :
    ∀ (m n n2 b : Nat) (y : Int32), y.toInt = b → b + m = a → m < n → m < n2 → ∃ q : Bool, f_X1_hasTwoInOne_L12 22 kC c n x y = some q ∧ f_X12_isWhole_L12 kM d n2 x y = some (if q then false else z) := by
  intro m
  have k5 : (5 : Int32).toInt = 5 := rfl
  induction m with
  | zero =>
    intro n n2 b y hy hb hn hn2
    obtain ⟨n, rfl⟩ : ∃ z, n = z + 1 := ⟨n - 1, by omega⟩
    obtain ⟨n2, rfl⟩ : ∃ z, n2 = z + 1 := ⟨n2 - 1, by omega⟩
    have q : ¬ y < x := by rw [i_lt]; omega
    rw [f_X1_hasTwoInOne_L12, f_X12_isWhole_L12, if_neg q, if_neg q]
    exact hk
  | succ m ih =>
    intro n n2 b y hy hb hn hn2
    obtain ⟨n, rfl⟩ : ∃ z, n = z + 1 := ⟨n - 1, by omega⟩
    obtain ⟨n2, rfl⟩ : ∃ z, n2 = z + 1 := ⟨n2 - 1, by omega⟩
    have q : y < x := by rw [i_lt]; omega
    have x5 : (5 * x).toInt = ((5 * a : Nat) : Int) := by rw [i_mul (by rw [k5, ha]; omega), k5, ha]; omega
    have y5 : (5 * y).toInt = ((5 * b : Nat) : Int) := by rw [i_mul (by rw [k5, hy]; omega), k5, hy]; omega
    have x51 : (5 * x + 1).toInt = ((5 * a + 1 : Nat) : Int) := by rw [i_add1 (by omega), x5]; omega
    have y51 : (5 * y + 1).toInt = ((5 * b + 1 : Nat) : Int) := by rw [i_add1 (by omega), y5]; omega
    have vv := v a b haP (by omega)
    rw [f_X1_hasTwoInOne_L12, f_X12_isWhole_L12, if_pos q, if_pos q, C_ap22 hP hP7 ha hy haP (by omega), Option.bind_some]
    unfold f_X12_isWhole_J61
    simp only [if_pos (dIn_of x5 (show 5 * a < 35 by omega)), if_pos (dIn_of y5 (show 5 * b < 35 by omega)), if_pos (dIn_of x51 (show 5 * a + 1 < 35 by omega)), if_pos (dIn_of y51 (show 5 * b + 1 < 35 by omega)), dI_of x5, dI_of y5, dI_of x51, dI_of y51]
    have nx := ih n n2 (b + 1) (y + 1) (y_suc hy (by omega)) (by omega) (by omega) (by omega)
    by_cases z1 : d.1 8 (5 * a) = d.1 8 (5 * b)
    · rw [if_pos z1]
      by_cases z2 : d.1 8 (5 * a + 1) = d.1 8 (5 * b + 1)
      · rw [if_pos z2, if_pos (vv.mpr ⟨z1, z2⟩)]
        exact ⟨true, rfl, rfl⟩
      · rw [if_neg z2, if_neg (fun w => z2 (vv.mp w).2)]
        exact nx
    · rw [if_neg z1, if_neg (fun w => z1 (vv.mp w).1)]
      exact nx
theorem lp_two2 (hP : (c.1 22 2).toInt = P) (e25 : d.1 0 25 = c.1 22 2) (hP7 : P ≤ 7) (v : ∀ a b, a < P → b < P → (c.1 (33 + (a + 1)) (b + 1) = 0 ↔ d.1 8 (5 * a) = d.1 8 (5 * b) ∧ d.1 8 (5 * a + 1) = d.1 8 (5 * b + 1))) : ∀ (m n n2 a : Nat) (x : Int32), x.toInt = a → a + m = P → m < n → m < n2 → ∃ q : Bool, f_X1_hasTwoInOne_L2 22 c n x = some q ∧ f_X12_isWhole_L2 d n2 x = some (if q then false else decide (1 < P)) := by
  intro m
  induction m with
  | zero =>
    intro n n2 a x hx ha hn hn2
    obtain ⟨n, rfl⟩ : ∃ z, n = z + 1 := ⟨n - 1, by omega⟩
    obtain ⟨n2, rfl⟩ : ∃ z, n2 = z + 1 := ⟨n2 - 1, by omega⟩
    have q : ¬ x < c.1 22 2 := by rw [i_lt, hP]; omega
    rw [f_X1_hasTwoInOne_L2, f_X12_isWhole_L2, e25, if_neg q, if_neg q]
    refine ⟨false, rfl, ?_⟩
    by_cases z : 1 < c.1 22 2
    · rw [if_pos z, if_neg (by decide), decide_eq_true (show 1 < P by rw [i_lt, hP, t1] at z; omega)]
    · rw [if_neg z, if_neg (by decide), decide_eq_false (show ¬ 1 < P by rw [i_lt, hP, t1] at z; omega)]
  | succ m ih =>
    intro n n2 a x hx ha hn hn2
    obtain ⟨n, rfl⟩ : ∃ z, n = z + 1 := ⟨n - 1, by omega⟩
    obtain ⟨n2, rfl⟩ : ∃ z, n2 = z + 1 := ⟨n2 - 1, by omega⟩
    have q : x < c.1 22 2 := by rw [i_lt, hP]; omega
    rw [f_X1_hasTwoInOne_L2, f_X12_isWhole_L2, e25, if_pos q, if_pos q]
    exact lp_two1 hP hP7 v hx (by omega) (ih n n2 (a + 1) (x + 1) (y_suc hx (by omega)) (by omega) (by omega) (by omega)) a dFu dFu 0 0 rfl (by omega) (fuel_lt (by omega)) (fuel_lt (by omega))
def kgC (a k : Nat) : Prop := kcC a k ∧ ¬ (33 ≤ a ∧ a ≤ 40)
/-- the whole text of a CITY -/
theorem lp_city : ∀ (m nf nf2 i P h : Nat) (y : Int32) (c d : dH), P + h + m = 9 → m < nf → 2 * m < nf2 → y.toInt = ((P + h : Nat) : Int) → CR P h c d → PC c B L → PM d B L → dXt c → (c.1 1 2).toInt = i → (d.1 0 10).toInt = i → i ≤ L → d.1 0 11 = -1 →
    ∃ (r : Int32) (c' d' : dH), f_X2_findFault_L42 nf y c = some (r, c') ∧ f_X12_readCity_L50 nf2 true d = some d' ∧ d'.1 0 11 = r ∧ (∀ a k, kgC a k → c'.1 a k = c.1 a k) ∧ (∀ a k, kcM a k → d'.1 a k = d.1 a k) ∧ d'.2 = d.2 ∧ (r = -1 → ∃ P' h' : Nat, 2 ≤ P' ∧ CR P' h' c' d') := by
  intro m
  induction m with
  | zero =>
    intro nf nf2 i P h y c d hm hnf hnf2 hy R
    have r3 := R.2.2.1
    have r6 := R.2.2.2.2.2.1
    omega
  | succ m ih =>
    intro nf nf2 i P h y c d hm hnf hnf2 hy R Pc Pd X hi hj hL hf
    obtain ⟨nf, rfl⟩ : ∃ z, nf = z + 1 := ⟨nf - 1, by omega⟩
    obtain ⟨nf2, rfl⟩ : ∃ z, nf2 = z + 1 := ⟨nf2 - 1, by omega⟩
    have hP := Pc.2.1
    have k8 : (8 : Int32).toInt = 8 := rfl
    have k2 : (2 : Int32).toInt = 2 := rfl
    obtain ⟨ok, j, c1, d1, e1, e2, at1, jL, fc, fd, fd2, oc⟩ := R_clause R Pc Pd X hi hj hL hf
    have pl := pS_le (B := B) jL hP
    rw [f_X2_findFault_L42, f_X12_readCity_L50, if_neg (show ¬ 8 < y by rw [i_lt, k8, hy]; omega), if_pos rfl, if_pos hf, e1, e2, Option.bind_some, Option.bind_some]
    dsimp only
    unfold f_X12_readCity_J87 f_X12_readCity_J88
    simp only [Bool.false_eq_true, if_false, if_true]
    have nej : ∀ j, j ≤ L → Int32.ofNat j = -1 → False := fun j hj z => by rw [i_eq, i_ofNat (by omega), tm1] at z; omega
    have frC : ∀ a k, kgC a k → c1.1 a k = c.1 a k := fun a k hh => fc a k hh.1
    obtain ⟨nf2, rfl⟩ : ∃ z, nf2 = z + 1 := ⟨nf2 - 1, by omega⟩
    -- the reference at its end
    have stop : ∀ D : dH, f_X12_readCity_L50 (nf2 + 1) false D = f_X12_readCity_J106 D := fun D => by rw [f_X12_readCity_L50, if_neg (by decide)]
    rw [stop]
    have Pc1 : PC c1 B L := PC_c (fc 1 1 ⟨by omega, by omega, by omega, by omega, by omega⟩) (fun k => fc 2 k ⟨by omega, by omega, by omega, by omega, by omega⟩) Pc
    have Pd1 : PM d1 B L := PM_c (fd 0 9 ⟨by omega, by omega, by omega⟩) (fd 0 8 ⟨by omega, by omega, by omega⟩) (by rw [fd2]) (fun k => fd 1 k ⟨by omega, by omega, by omega⟩) (fun k => fd 2 k ⟨by omega, by omega, by omega⟩) Pd
    rcases oc with ⟨o1, o2, o3, P', h', o4, o5⟩ | ⟨o1, o2, o3, o4⟩ | ⟨o1, o2⟩
    · -- well
      rw [o1, if_pos rfl, if_pos o2]
      obtain ⟨c2, g1, g2, g3⟩ := C_sign Pc1 at1 jL
      obtain ⟨d2, w1, w2, w3, w4⟩ := M_look Pd1 o3 (by omega)
      have pp : pS B L (pS B L j) = pS B L j := pS_pS jL hP
      rw [pp] at w1 w2
      rw [g1, w1, Option.bind_some, Option.bind_some]
      dsimp only
      have Pc2 : PC c2 B L := PC_c (g3 1 1 (by omega)) (fun k => g3 2 k (by omega)) Pc1
      have Pd2 : PM d2 B L := PM_c (w3 0 9 (by omega)) (w3 0 8 (by omega)) (by rw [w4]) (fun k => w3 1 k (by omega)) (fun k => w3 2 k (by omega)) Pd1
      have d211 : d2.1 0 11 = -1 := by rw [w3 0 11 (by omega)]; exact o2
      have CR2 : CR P' h' c2 d2 := by
        obtain ⟨r1, r2, r3, r4, r5, r6, r7, r8, r9⟩ := o5
        refine ⟨by rw [g3 22 2 (by omega)]; exact r1, by rw [g3 22 2 (by omega), w3 0 25 (by omega)]; exact r2, r3, by rw [g3 41 2 (by omega)]; exact r4, by rw [g3 41 2 (by omega), w3 0 27 (by omega)]; exact r5, r6, fun k hk => by rw [g3 23 k (by omega), w3 6 _ (by omega)]; exact r7 k hk, fun p hp k hk => by rw [g3 _ _ (by omega), w3 8 _ (by omega)]; exact r8 p hp k hk, fun z k hk => by rw [g3 23 k (by omega)]; exact r9 z k hk⟩
      have frC2 : ∀ a k, kgC a k → c2.1 a k = c.1 a k := fun a k hh => by rw [g3 a k (fun z => hh.1.1 ⟨z.1, Or.inl z.2⟩), frC a k hh]
      have frM2 : ∀ a k, kcM a k → d2.1 a k = d.1 a k := fun a k hh => by rw [w3 a k (fun z => hh.1 ⟨z.1, Or.inl z.2⟩), fd a k hh]
      -- its end, where no ; stands
      have fin : f_X12_readCity_J106 d2 = (if sg B L (pS B L j) = -1 then (f_X12_isWhole d2).bind fun v18 => if v18 = true then some d2 else (f_X12_fails d2).bind fun rv24 => some rv24.2 else (f_X12_fails d2).bind fun rv24 => some rv24.2) := by
        obtain ⟨d3, y1, y2, y3, y4⟩ := M_look Pd2 w2 (by omega)
        rw [pp] at y1 y2
        have e3 : d3 = d2 := by
          refine Prod.ext (funext fun a => funext fun k => ?_) y4
          by_cases q : a = 0 ∧ k = 10
          · rw [q.1, q.2, i_eq, y2, w2]
          · exact y3 a k q
        unfold f_X12_readCity_J106 f_X12_readCity_J129
        rw [if_pos d211, y1, Option.bind_some, e3]
      have ep : d2.1 0 10 = Int32.ofNat (pS B L j) := (oNat w2).resolve_right (by omega)
      have ec : c2.1 1 2 = Int32.ofNat (pS B L j) := (oNat g2).resolve_right (by omega)
      by_cases qe : sg B L (pS B L j) = -1
      · have q59 : ¬ sg B L (pS B L j) = 59 := by rw [qe]; decide
        have hend : pS B L j = L := by have := (sg_m1 Pc.2.2.2).mp qe; omega
        rw [if_pos qe, if_neg q59, stop, fin, if_pos qe]
        obtain ⟨r1, r2, r3, r4, r5, r6, r7, r8, r9⟩ := id CR2
        obtain ⟨c3, s1, s2, s3⟩ := C_measure (Or.inr rfl) r1 r3
        rw [s1, Option.bind_some, s2 22 2 (by omega)]
        have c311 : c3.1 1 1 = c2.1 1 1 := s2 1 1 (by omega)
        have len : c3.1 1 1 = d2.1 0 10 := by
          rw [c311, i_eq, Pc2.1, w2, hend]
        have fails : (f_X12_fails d2).bind (fun rv24 => some rv24.2) = some (dPut d2 0 11 (d2.1 0 10)) := by rw [M_fails d211]; rfl
        have CR3 : CR P' h' c3 d2 := ⟨by rw [s2 22 2 (by omega)]; exact r1, by rw [s2 22 2 (by omega)]; exact r2, r3, by rw [s2 41 2 (by omega)]; exact r4, by rw [s2 41 2 (by omega)]; exact r5, r6, fun k hk => by rw [s2 23 k (by omega)]; exact r7 k hk, fun p hp k hk => by rw [s2 _ _ (by omega)]; exact r8 p hp k hk, fun z k hk => by rw [s2 23 k (by omega)]; exact r9 z k hk⟩
        have frC3 : ∀ a k, kgC a k → c3.1 a k = c.1 a k := fun a k hh => by rw [s2 a k hh.2, frC2 a k hh]
        have bnd : ∀ i w, i ≤ P' → w < 2 → bt 0 9 (tl c2 22 i w) := fun i w hi hw => by
          unfold tl
          by_cases z : i = 0
          · rw [if_pos z]; exact ⟨by decide, by decide⟩
          · rw [if_neg z]
            have := (r8 (i - 1) (by omega) w (by omega)).2
            refine ⟨this.1, ?_⟩
            have h2 := this.2
            unfold HIp at h2
            rw [if_neg (by omega), if_neg (by omega)] at h2
            exact h2
        have vv : ∀ a b, a < P' → b < P' → (c3.1 (33 + (a + 1)) (b + 1) = 0 ↔ d2.1 8 (5 * a) = d2.1 8 (5 * b) ∧ d2.1 8 (5 * a + 1) = d2.1 8 (5 * b + 1)) := fun a b ha hb => by
          rw [s3 (a + 1) (b + 1) (by omega) (by omega), vl_0 bnd (by omega) (by omega)]
          have t1' : ∀ p w, p < P' → w < 5 → tl c2 22 (p + 1) w = d2.1 8 (5 * p + w) := fun p w hp hw => by
            unfold tl
            rw [if_neg (by omega)]
            exact (r8 p hp w hw).1
          rw [t1' a 0 ha (by omega), t1' b 0 hb (by omega), t1' a 1 ha (by omega), t1' b 1 hb (by omega)]
          exact Iff.rfl
        obtain ⟨q, y1, y2⟩ := lp_two2 (d := d2) CR3.1 (by rw [← CR3.2.1]) r3 vv P' dFu dFu 0 0 rfl (by omega) (fuel_lt (by omega)) (fuel_lt (by omega))
        have y1' : f_X1_hasTwoInOne 22 c3 = some q := y1
        have y2' : f_X12_isWhole d2 = some (if q then false else decide (1 < P')) := y2
        rw [y1', y2', Option.bind_some, Option.bind_some, fails]
        have bad : ∃ (r : Int32) (c' d' : dH), some (c3.1 1 1, c3) = some (r, c') ∧ some (dPut d2 0 11 (d2.1 0 10)) = some d' ∧ d'.1 0 11 = r ∧ (∀ a k, kgC a k → c'.1 a k = c.1 a k) ∧ (∀ a k, kcM a k → d'.1 a k = d.1 a k) ∧ d'.2 = d.2 ∧ (r = -1 → ∃ P' h' : Nat, 2 ≤ P' ∧ CR P' h' c' d') := ⟨_, c3, _, rfl, rfl, by rw [dPut_at, len], frC3, fun a k hh => by rw [dPut_ne (fun z => hh.1 ⟨z.1, Or.inr (Or.inl z.2)⟩), frM2 a k hh], w4.trans fd2, fun z => by rw [len, ep] at z; exact absurd z (nej _ (by omega))⟩
        by_cases p2 : c2.1 22 2 < 2
        · have p2' := p2
          rw [i_lt, r1, k2] at p2'
          rw [if_pos p2]
          have e1 : (if (if q = true then false else decide (1 < P')) = true then some d2 else some (dPut d2 0 11 (d2.1 0 10))) = some (dPut d2 0 11 (d2.1 0 10)) := by
            rw [decide_eq_false (show ¬ 1 < P' by omega)]
            cases q <;> rfl
          rw [e1]
          exact bad
        · have p2' := p2
          rw [i_lt, r1, k2] at p2'
          rw [if_neg p2, decide_eq_true (show 1 < P' by omega)]
          cases q with
          | true => exact bad
          | false => exact ⟨-1, c3, d2, rfl, rfl, d211, frC3, frM2, w4.trans fd2, fun _ => ⟨P', h', by omega, CR3⟩⟩
      · rw [if_neg qe]
        obtain ⟨c3, y1, y2, y3⟩ := C_take Pc2 g2 (by omega) 59
        rw [pp] at y1 y2
        rw [y1, Option.bind_some]
        dsimp only
        by_cases q59 : sg B L (pS B L j) = 59
        · have hin : pS B L j < L := by
            by_cases q : pS B L j < L
            · exact q
            · exact absurd (sg_out q) qe
          rw [if_pos q59] at y2
          rw [decide_eq_true q59, if_pos rfl, if_pos q59, Option.bind_some]
          have CR3 : CR P' h' c3 (dPut d2 0 10 (d2.1 0 10 + 1)) := by
            obtain ⟨r1, r2, r3, r4, r5, r6, r7, r8, r9⟩ := CR2
            refine ⟨by rw [y3 22 2 (by omega)]; exact r1, by rw [y3 22 2 (by omega), dPut_ne (by omega)]; exact r2, r3, by rw [y3 41 2 (by omega)]; exact r4, by rw [y3 41 2 (by omega), dPut_ne (by omega)]; exact r5, r6, fun k hk => by rw [y3 23 k (by omega), dPut_ne (by omega)]; exact r7 k hk, fun p hp k hk => by rw [y3 _ _ (by omega), dPut_ne (by omega)]; exact r8 p hp k hk, fun z k hk => by rw [y3 23 k (by omega)]; exact r9 z k hk⟩
          obtain ⟨r, c4, d4, z1, z2, z3, z4, z5, z6, z7⟩ := ih nf (nf2 + 1) (pS B L j + 1) P' h' (y + 1) c3 (dPut d2 0 10 (d2.1 0 10 + 1)) (by omega) (by omega) (by omega) (by rw [i_add1 (by omega), hy]; omega) CR3 (PC_c (y3 1 1 (by omega)) (fun k => y3 2 k (by omega)) Pc2) (PM_c (dPut_ne (by omega)) (dPut_ne (by omega)) rfl (fun k => dPut_ne (by omega)) (fun k => dPut_ne (by omega)) Pd2) (fun a k ha => by rw [y3 a k (by omega), frC2 a k ⟨⟨by omega, by omega, by omega, by omega, by omega⟩, by omega⟩]; exact X a k ha) y2 (by rw [dPut_at, i_add1 (by omega), w2]; omega) (by omega) (by rw [dPut_ne (by omega)]; exact d211)
          exact ⟨r, c4, d4, z1, z2, z3, fun a k hh => by rw [z4 a k hh, y3 a k (fun z => hh.1.1 ⟨z.1, Or.inl z.2⟩), frC2 a k hh], fun a k hh => by rw [z5 a k hh, dPut_ne (fun z => hh.1 ⟨z.1, Or.inl z.2⟩), frM2 a k hh], z6.trans (w4.trans fd2), z7⟩
        · rw [if_neg q59] at y2
          rw [decide_eq_false q59, if_neg (show ¬ false = true by decide), if_neg q59, stop, fin, if_neg qe, M_fails d211, Option.bind_some]
          have ec3 : c3.1 1 2 = Int32.ofNat (pS B L j) := (oNat y2).resolve_right (by omega)
          refine ⟨_, c3, _, rfl, rfl, by rw [dPut_at, ep, ec3], fun a k hh => by rw [y3 a k (fun z => hh.1.1 ⟨z.1, Or.inl z.2⟩), frC2 a k hh], fun a k hh => by rw [dPut_ne (fun z => hh.1 ⟨z.1, Or.inr (Or.inl z.2)⟩), frM2 a k hh], w4.trans fd2, fun z => by rw [ec3] at z; exact absurd z (nej _ (by omega))⟩
    · -- a letter too many
      have n11 : ¬ d1.1 0 11 = -1 := by rw [o2]; exact nej _ (by omega)
      rw [o1, if_pos rfl, if_neg n11]
      obtain ⟨c2, g1, g2, g3⟩ := C_sign Pc1 at1 jL
      have Pc2 : PC c2 B L := PC_c (g3 1 1 (by omega)) (fun k => g3 2 k (by omega)) Pc1
      obtain ⟨c3, y1, y2, y3⟩ := C_take Pc2 g2 (by omega) 59
      rw [pS_pS jL hP, if_neg o4] at y2
      rw [pS_pS jL hP, decide_eq_false o4] at y1
      rw [g1, Option.bind_some]
      dsimp only
      rw [if_neg o3, y1, Option.bind_some, if_neg (show ¬ false = true by decide)]
      unfold f_X12_readCity_J106
      rw [if_neg n11]
      have ec3 : c3.1 1 2 = Int32.ofNat (pS B L j) := (oNat y2).resolve_right (by omega)
      exact ⟨_, c3, d1, rfl, rfl, by rw [o2]; exact ec3.symm, fun a k hh => by rw [y3 a k (fun z => hh.1.1 ⟨z.1, Or.inl z.2⟩), g3 a k (fun z => hh.1.1 ⟨z.1, Or.inl z.2⟩), frC a k hh], fd, fd2, fun z => by rw [show c3.1 1 2 = Int32.ofNat (pS B L j) from ec3] at z; exact absurd z (nej _ (by omega))⟩
    · -- wrong
      have n11 : ¬ d1.1 0 11 = -1 := by rw [o2]; exact nej _ (by omega)
      rw [o1, if_neg (show ¬ false = true by decide), if_neg n11]
      unfold f_X12_readCity_J106
      rw [if_neg n11]
      have ec : c1.1 1 2 = Int32.ofNat j := (oNat at1).resolve_right (by omega)
      exact ⟨_, c1, d1, rfl, rfl, by rw [o2]; exact ec.symm, frC, fd, fd2, fun z => by rw [show c1.1 1 2 = Int32.ofNat j from ec] at z; exact absurd z (nej _ (by omega))⟩
end ME
