/-! PURE: WAYS, ASK, ALWAYS -/
section WY
variable {K : Int} {n : Nat} {hC hM c d : dH} {x y us t : Int32}
def Wy (hC hM : dH) (us : Int32) (j : Nat) (N0 : Int32) (c d : dH) : Prop :=
  (∀ a k, a ≠ 81 → a ≠ 82 → ¬ (a = 77 ∧ (k = 1 ∨ k = 2 ∨ k = 3)) → c.1 a k = hC.1 a k) ∧
  (∀ a k, a ≠ 19 → a ≠ 20 → ¬ (a = 0 ∧ (k = 38 ∨ k = 48 ∨ k = 51)) → d.1 a k = hM.1 a k) ∧ d.2 = hM.2 ∧
  (c.1 77 1 = d.1 0 48 ∧ c.1 77 2 = d.1 0 38 ∧ c.1 77 3 = d.1 0 51) ∧
  (∀ p, p < 7 → c.1 81 p = if bI us p then d.1 19 p else 1000) ∧
  (∀ p, p < dI (hC.1 3 2) → d.1 20 p = if p < j then 2 * c.1 82 p - c.1 77 1 else 2 * c.1 82 p - N0)
def WB (K : Int) (hC hM : dH) : Prop := RelK K hC hM ∧ hC.1 77 10 = hM.1 0 49 ∧ hC.1 77 11 = hM.1 0 50 ∧ (hC.1 77 11).toInt ≤ 60
theorem Wy.eC {j : Nat} {N0 : Int32} (W : Wy hC hM us j N0 c d) : eC hC c := fun a k hk => W.1 a k (fun z => by rw [z] at hk; cases hk) (fun z => by rw [z] at hk; cases hk) (fun z => by
  obtain ⟨z1, z2 | z2 | z2⟩ := z <;> rw [z1, z2] at hk <;> cases hk)
theorem Wy.eM {j : Nat} {N0 : Int32} (W : Wy hC hM us j N0 c d) : eM hM d := ⟨fun a k hk => W.2.1 a k (fun z => by rw [z] at hk; cases hk) (fun z => by rw [z] at hk; cases hk) (fun z => by
  obtain ⟨z1, z2 | z2 | z2⟩ := z <;> rw [z1, z2] at hk <;> cases hk), fun m => mOK_e (fun a k hk => W.2.1 a k (fun z => by rw [z] at hk; cases hk) (fun z => by rw [z] at hk; cases hk) (fun z => by
  obtain ⟨z1, z2 | z2 | z2⟩ := z <;> rw [z1, z2] at hk <;> cases hk)) (by rw [W.2.2.1]) m⟩
theorem Wy.rel {j : Nat} {N0 : Int32} (R : RelK K hC hM) (W : Wy hC hM us j N0 c d) : RelK K c d := RelK_e R W.eC W.eM
theorem Wy.np {j : Nat} {N0 : Int32} (W : Wy hC hM us j N0 c d) : c.1 3 2 = hC.1 3 2 := W.1 3 2 (by omega) (by omega) (by omega)
theorem k1000 : (1000 : Int32).toInt = 1000 := rfl
theorem C_hasBeen {j : Nat} {N0 : Int32} (R : RelK K hC hM) (W : Wy hC hM us j N0 c d) (hx : Pl hC x) (ht : t.toInt ≤ 60) : f_X10_hasBeen x t c = some (bI us (dI x) && !decide (t < d.1 19 (dI x))) := by
  have hn := hx.nat R.ct
  unfold f_X10_hasBeen
  rw [C_pl (Pl_c W.np hx), if_pos rfl, if_pos (hx.in7 R.ct), W.2.2.2.2.1 (dI x) hn.2]
  cases bI us (dI x) with
  | false =>
    rw [if_neg (show ¬ false = true by decide), if_pos (by rw [i_lt, k1000]; omega)]
    rfl
  | true =>
    rw [if_pos (show true = true from rfl), Bool.true_and]
    by_cases q : t < d.1 19 (dI x)
    · rw [if_pos q, decide_eq_true q]; rfl
    · rw [if_neg q, decide_eq_false q]; rfl
theorem M_hasB (hx : Pl hC x) (C : Ct hC hM) (h : dH) : f_X12_has us x h = bI us (dI x) := by
  have hn := hx.nat C
  rw [has_isIn us x h h]
  have e : x = Int32.ofNat (dI x) := i_nat hx.1
  have h2 := isIn_b us h hn.2
  rw [← e] at h2
  exact h2
theorem lp_fits {N0 : Int32} {j0 : Nat} (R : RelK K hC hM) (W : Wy hC hM us j0 N0 c d) : ∀ (m n n2 j : Nat) (y : Int32), m < n → m < n2 → y.toInt = j → j + m = dI (c.1 77 0) → ∃ b : Bool, f_X10_fits_L2 c n y = some b ∧ f_X12_isNoted_L2 d n2 us y = some b := by
  intro m
  have Rc := W.rel R
  obtain ⟨p1, p2, p3⟩ := Rc.pu
  have p21 := p2.1
  have p22 := p2.2
  have dp := dI_c p21
  induction m with
  | zero =>
    intro n n2 j y hn hn2 hy hj
    obtain ⟨n, rfl⟩ : ∃ z, n = z + 1 := ⟨n - 1, by omega⟩
    obtain ⟨n2, rfl⟩ : ∃ z, n2 = z + 1 := ⟨n2 - 1, by omega⟩
    have a : ¬ y < c.1 77 0 := by rw [i_lt]; omega
    rw [f_X10_fits_L2, f_X12_isNoted_L2, ← p1, if_neg a, if_neg a]
    exact ⟨true, rfl, rfl⟩
  | succ m ih =>
    intro n n2 j y hn hn2 hy hj
    obtain ⟨n, rfl⟩ : ∃ z, n = z + 1 := ⟨n - 1, by omega⟩
    obtain ⟨n2, rfl⟩ : ∃ z, n2 = z + 1 := ⟨n2 - 1, by omega⟩
    have a : y < c.1 77 0 := by rw [i_lt]; omega
    have dy : dI y = j := dI_of hy
    have hy10 : dIn y 10 := ⟨by omega, by omega⟩
    obtain ⟨q1, q2, q3, q4, q5, q6⟩ := p3 j (by omega)
    have hx : Pl hC (c.1 78 j) := by
      show 0 ≤ (c.1 78 j).toInt ∧ (c.1 78 j).toInt < (hC.1 3 2).toInt
      rw [← W.np]
      exact q4
    have hi7 := hx.in7 R.ct
    have nx := ih n n2 (j + 1) (y + 1) (by omega) (by omega) (y_suc hy (by omega)) (by omega)
    have e1 := C_hasBeen R W hx q6.2
    have e2 := M_hasB (us := us) hx R.ct d
    rw [f_X10_fits_L2, f_X12_isNoted_L2, ← p1, if_pos a, if_pos a]
    unfold f_X12_isNoted_J44 f_X12_isNoted_J45
    simp only [if_pos hy10, dy, ← q1, ← q2, ← q3, Option.bind_some, e1, e2, if_pos hi7]
    have fin : ∀ b : Bool, ∃ b' : Bool, (if bi b = c.1 80 j then f_X10_fits_L2 c n (y + 1) else some false) = some b' ∧ (if bi b = c.1 80 j then f_X12_isNoted_L2 d n2 us (y + 1) else some false) = some b' := fun b => by
      by_cases z : bi b = c.1 80 j
      · rw [if_pos z, if_pos z]
        exact nx
      · rw [if_neg z, if_neg z]
        exact ⟨false, rfl, rfl⟩
    cases hb : bI us (dI (c.1 78 j)) with
    | false =>
      simp only [Bool.false_and, Bool.false_eq_true, if_false]
      exact fin false
    | true =>
      simp only [Bool.true_and, if_true]
      by_cases z : c.1 79 j < d.1 19 (dI (c.1 78 j))
      · rw [if_pos z, decide_eq_true z]
        exact fin false
      · rw [if_neg z, decide_eq_false z]
        exact fin true
theorem lean1 {l yv n0 : Int32} (h : l = 2 * yv - n0) : l + 1 = 2 * (yv + 1) - (n0 + 1) := by subst h; grind
theorem lean2 {l yv n0 : Int32} (h : l = 2 * yv - n0) : l + (-1) = 2 * yv - (n0 + 1) := by subst h; grind
theorem lp_tal {N0 : Int32} (B : WB K hC hM) {rc : Int32 → Int32 → Int32 → Int32 → Int32 → dH → Option (dH)} : ∀ (m n n2 j : Nat) (y : Int32) (c d : dH), m < n → m < n2 → y.toInt = j → j + m = dI (hC.1 3 2) → Wy hC hM us j N0 c d → c.1 77 1 = N0 + 1 → ∃ c' d' : dH, f_X10_tally_L38 n y c = some c' ∧ f_X12_goWays_L55 rc n2 us y d = some d' ∧ Wy hC hM us (dI (hC.1 3 2)) N0 c' d' ∧ c'.1 77 1 = N0 + 1 := by
  obtain ⟨R, B1, B2, B3⟩ := B
  intro m
  induction m with
  | zero =>
    intro n n2 j y c d hn hn2 hy hj W hN
    obtain ⟨n, rfl⟩ : ∃ z, n = z + 1 := ⟨n - 1, by omega⟩
    obtain ⟨n2, rfl⟩ : ∃ z, n2 = z + 1 := ⟨n2 - 1, by omega⟩
    have C := (W.rel R).ct
    have hj' : j + 0 = dI (c.1 3 2) := by rw [W.np]; exact hj
    rw [f_X10_tally_L38, f_X12_goWays_L55, C.np, if_neg (ge_j C hy hj'), if_neg (ge_j C hy hj')]
    have : j = dI (hC.1 3 2) := by omega
    exact ⟨c, d, rfl, rfl, this ▸ W, hN⟩
  | succ m ih =>
    intro n n2 j y c d hn hn2 hy hj W hN
    obtain ⟨n, rfl⟩ : ∃ z, n = z + 1 := ⟨n - 1, by omega⟩
    obtain ⟨n2, rfl⟩ : ∃ z, n2 = z + 1 := ⟨n2 - 1, by omega⟩
    have C := (W.rel R).ct
    have hj' : j + (m + 1) = dI (c.1 3 2) := by rw [W.np]; exact hj
    have hx := pl_j R.ct hy hj
    have nx := R.ct.nat
    have dy : dI y = j := dI_of hy
    have hi7 := hx.in7 R.ct
    have ea : c.1 77 11 = hC.1 77 11 := W.1 77 11 (by omega) (by omega) (by omega)
    have eb : d.1 0 50 = hC.1 77 11 := by rw [W.2.1 0 50 (by omega) (by omega) (by omega)]; exact B2.symm
    have e1 := C_hasBeen (t := hC.1 77 11) R W hx B3
    have e2 := M_hasB (us := us) hx R.ct d
    rw [f_X10_tally_L38, f_X12_goWays_L55, C.np, if_pos (lt_j C hy hj'), if_pos (lt_j C hy hj'), ea, eb, e1, e2]
    unfold f_X12_goWays_J100 f_X12_goWays_J101 f_X10_tally_J71
    simp only [if_pos hi7, Option.bind_some, dy]
    have l0 := W.2.2.2.2.2 j (by omega)
    rw [if_neg (by omega)] at l0
    obtain ⟨f1, f2, f3, ⟨g1, g2, g3⟩, h1, h2⟩ := W
    have yes : ∃ c' d' : dH, f_X10_tally_L38 n (y + 1) (dPut c 82 j (c.1 82 j + 1)) = some c' ∧ f_X12_goWays_L55 rc n2 us (y + 1) (dPut d 20 j (d.1 20 j + 1)) = some d' ∧ Wy hC hM us (dI (hC.1 3 2)) N0 c' d' ∧ c'.1 77 1 = N0 + 1 := by
      refine ih n n2 (j + 1) (y + 1) _ _ (by omega) (by omega) (y_suc hy (by omega)) (by omega) ⟨fun a k q1 q2 q3 => ?_, fun a k q1 q2 q3 => ?_, f3, ⟨g1, g2, g3⟩, fun p hp => ?_, fun p hp => ?_⟩ ?_
      · rw [dPut_ne (by omega)]; exact f1 a k q1 q2 q3
      · rw [dPut_ne (by omega)]; exact f2 a k q1 q2 q3
      · rw [dPut_ne (by omega), dPut_ne (by omega)]; exact h1 p hp
      · rw [dPut_ne (b := 77) (by omega), hN]
        by_cases q : p = j
        · rw [q, dPut_at, dPut_at, if_pos (by omega)]
          exact lean1 l0
        · rw [dPut_ne (by omega), dPut_ne (by omega), h2 p hp, hN]
          by_cases q2 : p < j
          · rw [if_pos q2, if_pos (by omega)]
          · rw [if_neg q2, if_neg (by omega)]
      · rw [dPut_ne (by omega)]; exact hN
    have no : ∃ c' d' : dH, f_X10_tally_L38 n (y + 1) c = some c' ∧ f_X12_goWays_L55 rc n2 us (y + 1) (dPut d 20 j (d.1 20 j + -1)) = some d' ∧ Wy hC hM us (dI (hC.1 3 2)) N0 c' d' ∧ c'.1 77 1 = N0 + 1 := by
      refine ih n n2 (j + 1) (y + 1) _ _ (by omega) (by omega) (y_suc hy (by omega)) (by omega) ⟨f1, fun a k q1 q2 q3 => ?_, f3, ⟨g1, g2, g3⟩, fun p hp => ?_, fun p hp => ?_⟩ hN
      · rw [dPut_ne (by omega)]; exact f2 a k q1 q2 q3
      · rw [dPut_ne (by omega)]; exact h1 p hp
      · rw [hN]
        by_cases q : p = j
        · rw [q, dPut_at, if_pos (by omega)]
          exact lean2 l0
        · rw [dPut_ne (by omega), h2 p hp, hN]
          by_cases q2 : p < j
          · rw [if_pos q2, if_pos (by omega)]
          · rw [if_neg q2, if_neg (by omega)]
    cases hb : bI us j with
    | false =>
      simp only [Bool.false_and, Bool.false_eq_true, if_false]
      exact no
    | true =>
      simp only [Bool.true_and, if_true]
      by_cases z : hC.1 77 11 < d.1 19 j
      · rw [if_pos z, decide_eq_true z]
        exact no
      · rw [if_neg z, decide_eq_false z]
        exact yes
/-- all told of one way -/
theorem R_leaf (B : WB K hC hM) {N0 row : Int32} {rc : Int32 → Int32 → Int32 → Int32 → Int32 → dH → Option (dH)} (W : Wy hC hM us 0 (c.1 77 1) c d) : ∃ c' d' : dH, ((f_X10_fits c).bind fun v1 => if v1 then (f_X10_tally us row c).bind fun h3 => some h3 else some c) = some c' ∧ ((f_X12_isNoted us d).bind fun v1 => if v1 then (if d.1 0 48 = d.1 0 49 then (some (dPut d 0 38 row)).bind fun h2 => f_X12_goWays_J31 rc us h2 else f_X12_goWays_J31 rc us d) else some d) = some d' ∧ Wy hC hM us 0 (c'.1 77 1) c' d' ∧ (c'.1 77 1 = c.1 77 1 ∨ c'.1 77 1 = c.1 77 1 + 1) := by
  obtain ⟨R, B1, B2, B3⟩ := id B
  have Rc := W.rel R
  have p2 := Rc.pu.2.1
  have p21 := p2.1
  have p22 := p2.2
  have nx := R.ct.nat
  obtain ⟨b, e1, e2⟩ := lp_fits R W (dI (c.1 77 0)) dFu dFu 0 0 (fuel_lt (by have := dI_c p21; omega)) (fuel_lt (by have := dI_c p21; omega)) rfl (by omega)
  have e1' : f_X10_fits c = some b := e1
  have e2' : f_X12_isNoted us d = some b := e2
  rw [e1', e2', Option.bind_some, Option.bind_some]
  cases b with
  | false =>
    rw [if_neg (show ¬ false = true by decide), if_neg (show ¬ false = true by decide)]
    exact ⟨c, d, rfl, rfl, W, Or.inl rfl⟩
  | true =>
    rw [if_pos rfl, if_pos rfl]
    -- both, behind what was found
    have fin : ∀ c1 d1 : dH, Wy hC hM us 0 (c1.1 77 1) c1 d1 → ∃ c' d' : dH, ((f_X10_tally_J16 us c1).bind fun h3 => some h3) = some c' ∧ f_X12_goWays_J31 rc us d1 = some d' ∧ Wy hC hM us 0 (c'.1 77 1) c' d' ∧ c'.1 77 1 = c1.1 77 1 + 1 := by
      intro c1 d1 W1
      unfold f_X10_tally_J16 f_X12_goWays_J31
      simp only [Option.bind_some]
      obtain ⟨f1, f2, f3, ⟨g1, g2, g3⟩, h1, h2⟩ := W1
      have W2 : Wy hC hM us 0 (c1.1 77 1) (dPut (dPut c1 77 1 (c1.1 77 1 + 1)) 77 3 ((dPut c1 77 1 (c1.1 77 1 + 1)).1 77 3 &&& us)) (dPut (dPut d1 0 48 (d1.1 0 48 + 1)) 0 51 ((dPut d1 0 48 (d1.1 0 48 + 1)).1 0 51 &&& us)) := by
        refine ⟨fun a k q1 q2 q3 => ?_, fun a k q1 q2 q3 => ?_, f3, ⟨?_, ?_, ?_⟩, fun p hp => ?_, fun p hp => ?_⟩
        · rw [dPut_ne (by omega), dPut_ne (by omega)]; exact f1 a k q1 q2 q3
        · rw [dPut_ne (by omega), dPut_ne (by omega)]; exact f2 a k q1 q2 q3
        · rw [dPut_ne (by omega), dPut_at, dPut_ne (by omega), dPut_at, g1]
        · rw [dPut_ne (by omega), dPut_ne (by omega), dPut_ne (by omega), dPut_ne (by omega), g2]
        · rw [dPut_at, dPut_at, dPut_ne (by omega), dPut_ne (by omega), g3]
        · rw [dPut_ne (by omega), dPut_ne (by omega), dPut_ne (by omega), dPut_ne (by omega)]; exact h1 p hp
        · rw [dPut_ne (a := 0) (b := 20) (by omega), dPut_ne (a := 0) (b := 20) (by omega), dPut_ne (a := 77) (b := 82) (by omega), dPut_ne (a := 77) (b := 82) (by omega), if_neg (by omega)]
          have := h2 p hp
          rw [if_neg (by omega)] at this
          exact this
      obtain ⟨c', d', u1, u2, u3, u4⟩ := lp_tal B (rc := rc) (dI (hC.1 3 2)) dFu dFu 0 0 _ _ (fuel_lt (by omega)) (fuel_lt (by omega)) rfl (by omega) W2 (by rw [dPut_ne (by omega), dPut_at])
      rw [u1, u2]
      refine ⟨c', d', rfl, rfl, ⟨u3.1, u3.2.1, u3.2.2.1, u3.2.2.2.1, u3.2.2.2.2.1, fun p hp => ?_⟩, u4⟩
      have := u3.2.2.2.2.2 p hp
      rw [if_pos hp] at this
      rw [if_neg (by omega)]
      exact this
    unfold f_X10_tally
    have ew : d.1 0 49 = c.1 77 10 := by rw [W.2.1 0 49 (by omega) (by omega) (by omega), W.1 77 10 (by omega) (by omega) (by omega)]; exact B1.symm
    rw [ew, ← W.2.2.2.1.1]
    by_cases z : c.1 77 1 = c.1 77 10
    · rw [if_pos z, if_pos z, Option.bind_some, Option.bind_some]
      have e77 : (dPut c 77 2 row).1 77 1 = c.1 77 1 := dPut_ne (by omega)
      have W' : Wy hC hM us 0 ((dPut c 77 2 row).1 77 1) (dPut c 77 2 row) (dPut d 0 38 row) := by
       rw [e77]
       obtain ⟨f1, f2, f3, ⟨g1, g2, g3⟩, h1, h2⟩ := W
       refine ⟨fun a k q1 q2 q3 => ?_, fun a k q1 q2 q3 => ?_, f3, ⟨?_, ?_, ?_⟩, fun p hp => ?_, fun p hp => ?_⟩
       · rw [dPut_ne (by omega)]; exact f1 a k q1 q2 q3
       · rw [dPut_ne (by omega)]; exact f2 a k q1 q2 q3
       · rw [dPut_ne (by omega), dPut_ne (by omega), g1]
       · rw [dPut_at, dPut_at]
       · rw [dPut_ne (by omega), dPut_ne (by omega), g3]
       · rw [dPut_ne (by omega), dPut_ne (by omega)]; exact h1 p hp
       · rw [dPut_ne (a := 0) (b := 20) (by omega), dPut_ne (a := 77) (b := 82) (by omega), e77]
         exact h2 p hp
      obtain ⟨c', d', z1, z2, z3, z4⟩ := fin _ _ W'
      exact ⟨c', d', z1, z2, z3, Or.inr (by rw [z4, e77])⟩
    · rw [if_neg z, if_neg z]
      obtain ⟨c', d', z1, z2, z3, z4⟩ := fin c d W
      exact ⟨c', d', z1, z2, z3, Or.inr z4⟩
def bnd (b P : Int) : Nat → Int
  | 0 => b
  | m + 1 => bnd (b + P) P m
theorem bnd_eq {P : Int} : ∀ (m : Nat) (b : Int), bnd b P m = b + m * P := by
  intro m
  induction m with
  | zero => intro b; show b = b + (0 : Nat) * P; omega
  | succ m ih =>
    intro b
    show bnd (b + P) P m = _
    rw [ih (b + P), show ((m + 1 : Nat) : Int) = (m : Int) + 1 from rfl, Int.add_mul, Int.one_mul]
    omega
theorem lp_go (B : WB K hC hM) {left f ho row : Int32} (hf : Pl' hC f) {P bm : Int} (hP : 0 ≤ P ∧ P ≤ 400) {rcC rcM : Int32 → Int32 → Int32 → Int32 → Int32 → dH → Option (dH)} (hrec : ∀ (f ho us row : Int32) (c d : dH) (b : Int), Pl' hC f → Wy hC hM us 0 (c.1 77 1) c d → bt 0 b (c.1 77 1) → b ≤ bm → ∃ c' d' : dH, rcC (left - 1) f ho us row c = some c' ∧ rcM (left - 1) f ho us row d = some d' ∧ Wy hC hM us 0 (c'.1 77 1) c' d' ∧ bt 0 (b + P) (c'.1 77 1)) : ∀ (m n n2 j : Nat) (y : Int32) (c d : dH) (b : Int), m < n → m < n2 → y.toInt = j → j + m = dI (hC.1 3 2) → Wy hC hM us 0 (c.1 77 1) c d → bt 0 b (c.1 77 1) → b + 400 * m ≤ bm → ∃ c' d' : dH, f_X10_goOn_L23 rcC n left f ho us row y c = some c' ∧ f_X12_goWays_L113 rcM n2 left f ho us row y d = some d' ∧ Wy hC hM us 0 (c'.1 77 1) c' d' ∧ bt 0 (bnd b P m) (c'.1 77 1) := by
  obtain ⟨R, B1, B2, B3⟩ := B
  intro m
  induction m with
  | zero =>
    intro n n2 j y c d b hn hn2 hy hj W hb hb2
    obtain ⟨n, rfl⟩ : ∃ z, n = z + 1 := ⟨n - 1, by omega⟩
    obtain ⟨n2, rfl⟩ : ∃ z, n2 = z + 1 := ⟨n2 - 1, by omega⟩
    have C := (W.rel R).ct
    have hj' : j + 0 = dI (c.1 3 2) := by rw [W.np]; exact hj
    rw [f_X10_goOn_L23, f_X12_goWays_L113, C.np, if_neg (ge_j C hy hj'), if_neg (ge_j C hy hj')]
    exact ⟨c, d, rfl, rfl, W, hb⟩
  | succ m ih =>
    intro n n2 j y c d b hn hn2 hy hj W hb hb2
    obtain ⟨n, rfl⟩ : ∃ z, n = z + 1 := ⟨n - 1, by omega⟩
    obtain ⟨n2, rfl⟩ : ∃ z, n2 = z + 1 := ⟨n2 - 1, by omega⟩
    have Rc := W.rel R
    have C := Rc.ct
    have hj' : j + (m + 1) = dI (c.1 3 2) := by rw [W.np]; exact hj
    have hx := pl_j R.ct hy hj
    have hxc : Pl c y := Pl_c W.np hx
    have hfc : Pl' c f := Pl'_c W.np hf
    have nx := R.ct.nat
    have dy : dI y = j := dI_of hy
    have ey : y = Int32.ofNat j := by rw [i_eq, hy, i_ofNat (by omega)]
    have hi7 := hx.in7 R.ct
    rw [f_X10_goOn_L23, f_X12_goWays_L113, C.np, if_pos (lt_j C hy hj'), if_pos (lt_j C hy hj'), has_isIn us y d c]
    unfold f_X10_goOn_J106 f_X12_goWays_J184
    have next := fun c d W hb => ih n n2 (j + 1) (y + 1) c d (b + P) (by omega) (by omega) (y_suc hy (by omega)) (by omega) W hb (by omega)
    by_cases hu : f_X11_isIn us y c = true
    · rw [if_pos hu, if_pos hu]
      exact next c d W ⟨hb.1, by have := hb.2; omega⟩
    · have hu' : bI us j = false := by
        have := Bool.eq_false_iff.mpr hu
        rw [ey, isIn_b us c (by omega)] at this
        exact this
      rw [if_neg hu, if_neg hu, C_apart C hfc hxc.p', M_between C hfc hxc]
      simp only [Option.bind_some, if_pos hi7, dy, dPut_at]
      generalize ho + wF c f y = th
      obtain ⟨f1, f2, f3, ⟨g1, g2, g3⟩, h1, h2⟩ := W
      have e77 : (dPut c 81 j th).1 77 1 = c.1 77 1 := dPut_ne (by omega)
      have W1 : Wy hC hM (us ||| 1 <<< (y &&& 31)) 0 ((dPut c 81 j th).1 77 1) (dPut c 81 j th) (dPut d 19 j th) := by
        rw [e77]
        refine ⟨fun a k q1 q2 q3 => ?_, fun a k q1 q2 q3 => ?_, f3, ⟨?_, ?_, ?_⟩, fun p hp => ?_, fun p hp => ?_⟩
        · rw [dPut_ne (by omega)]; exact f1 a k q1 q2 q3
        · rw [dPut_ne (by omega)]; exact f2 a k q1 q2 q3
        · rw [dPut_ne (by omega), dPut_ne (by omega), g1]
        · rw [dPut_ne (by omega), dPut_ne (by omega), g2]
        · rw [dPut_ne (by omega), dPut_ne (by omega), g3]
        · rw [ey, bI_or us (by omega) hp]
          by_cases q : p = j
          · rw [q, dPut_at, dPut_at, decide_eq_true rfl, Bool.or_true, if_pos rfl]
          · rw [dPut_ne (by omega), dPut_ne (by omega), decide_eq_false (show ¬ j = p by omega), Bool.or_false]
            exact h1 p hp
        · rw [dPut_ne (a := 19) (b := 20) (by omega), dPut_ne (a := 81) (b := 82) (by omega), e77]
          exact h2 p hp
      obtain ⟨c2, d2, u1, u2, u3, u4⟩ := hrec y (th + 1) (us ||| 1 <<< (y &&& 31)) (row * 10 + y) _ _ b hx.p' W1 (by rw [e77]; exact hb) (by omega)
      rw [Int32.mul_comm 10 row, u1, u2]
      simp only [Option.bind_some]
      obtain ⟨f1, f2, f3, ⟨g1, g2, g3⟩, h1, h2⟩ := u3
      have e77' : (dPut c2 81 j 1000).1 77 1 = c2.1 77 1 := dPut_ne (by omega)
      refine next _ d2 ?_ (by rw [e77']; exact u4)
      rw [e77']
      refine ⟨fun a k q1 q2 q3 => ?_, f2, f3, ⟨?_, ?_, ?_⟩, fun p hp => ?_, fun p hp => ?_⟩
      · rw [dPut_ne (by omega)]; exact f1 a k q1 q2 q3
      · rw [dPut_ne (by omega), g1]
      · rw [dPut_ne (by omega), g2]
      · rw [dPut_ne (by omega), g3]
      · by_cases q : p = j
        · rw [q, dPut_at, hu', if_neg (by decide)]
        · rw [dPut_ne (by omega)]
          have := h1 p hp
          rw [ey, bI_or us (by omega) hp, decide_eq_false (show ¬ j = p by omega), Bool.or_false] at this
          exact this
      · rw [dPut_ne (a := 81) (b := 82) (by omega), e77']
        exact h2 p hp
theorem R_go (B : WB K hC hM) : ∀ (l fu : Nat) (left f ho us row : Int32) (c d : dH) (b : Int), l < fu → l ≤ 4 → left.toInt = l → Pl' hC f → Wy hC hM us 0 (c.1 77 1) c d → bt 0 b (c.1 77 1) → b ≤ 100000 - 3000 * l → ∃ c' d' : dH, g_X10_goOn fu left f ho us row c = some c' ∧ g_X12_goWays fu left f ho us row d = some d' ∧ Wy hC hM us 0 (c'.1 77 1) c' d' ∧ bt 0 (b + (7 ^ l : Nat)) (c'.1 77 1) := by
  intro l
  induction l with
  | zero =>
    intro fu left f ho us row c d b hfu hl4 hl hf W hb hb2
    obtain ⟨fu, rfl⟩ : ∃ z, fu = z + 1 := ⟨fu - 1, by omega⟩
    have e0 : left = 0 := by rw [i_eq, hl, t0]; rfl
    show ∃ c' d' : dH, f_X10_goOn (g_X10_goOn fu) left f ho us row c = some c' ∧ f_X12_goWays (g_X12_goWays fu) left f ho us row d = some d' ∧ Wy hC hM us 0 (c'.1 77 1) c' d' ∧ bt 0 (b + (1 : Nat)) (c'.1 77 1)
    unfold f_X10_goOn f_X12_goWays
    rw [if_pos e0, if_pos e0]
    obtain ⟨c', d', e1, e2, W', q⟩ := R_leaf B (N0 := 0) (row := row) (rc := g_X12_goWays fu) W
    have b1 := hb.1
    have b2 := hb.2
    refine ⟨c', d', e1, e2, W', ?_⟩
    rcases q with q | q
    · rw [q]; exact ⟨by omega, by omega⟩
    · have e : (c.1 77 1 + 1).toInt = (c.1 77 1).toInt + 1 := i_add1 (by omega)
      rw [q]; exact ⟨by omega, by omega⟩
  | succ l ih =>
    intro fu left f ho us row c d b hfu hl4 hl hf W hb hb2
    obtain ⟨fu, rfl⟩ : ∃ z, fu = z + 1 := ⟨fu - 1, by omega⟩
    have e0 : ¬ left = 0 := by rw [i_eq, hl, t0]; omega
    have nx := B.1.ct.nat
    have hP : (7 ^ l : Nat) ≤ 400 := by
      rcases (show l = 0 ∨ l = 1 ∨ l = 2 ∨ l = 3 by omega) with rfl | rfl | rfl | rfl <;> decide
    have hP4 : (7 ^ (l + 1) : Nat) = 7 * 7 ^ l := by rw [Nat.pow_succ, Nat.mul_comm]
    have hl1 : (left - 1).toInt = l := by rw [i_sub (by rw [t1]; omega), t1]; omega
    have hrec := fun (f ho us row : Int32) (c d : dH) (b : Int) (hf : Pl' hC f) (W : Wy hC hM us 0 (c.1 77 1) c d) (hb : bt 0 b (c.1 77 1)) (hb2 : b ≤ 100000 - 3000 * l) => ih fu (left - 1) f ho us row c d b (by omega) (by omega) hl1 hf W hb hb2
    rw [hP4]
    generalize (7 ^ l : Nat) = P at hP hrec ⊢
    show ∃ c' d' : dH, f_X10_goOn (g_X10_goOn fu) left f ho us row c = some c' ∧ f_X12_goWays (g_X12_goWays fu) left f ho us row d = some d' ∧ Wy hC hM us 0 (c'.1 77 1) c' d' ∧ bt 0 (b + ((7 * P : Nat) : Int)) (c'.1 77 1)
    unfold f_X10_goOn f_X12_goWays
    rw [if_neg e0, if_neg e0]
    obtain ⟨c', d', e1, e2, W', hb'⟩ := lp_go B hf (P := (P : Int)) (bm := 100000 - 3000 * (l : Int)) ⟨by omega, by omega⟩ (rcC := g_X10_goOn fu) (rcM := g_X12_goWays fu) (left := left) (ho := ho) (row := row) hrec (dI (hC.1 3 2)) dFu dFu 0 0 c d b (fuel_lt (by omega)) (fuel_lt (by omega)) rfl (by omega) W hb (by omega)
    refine ⟨c', d', e1, e2, W', hb'.1, ?_⟩
    have h2 := hb'.2
    rw [bnd_eq] at h2
    have h3 : ((dI (hC.1 3 2) : Nat) : Int) * (P : Int) ≤ 7 * (P : Int) := Int.mul_le_mul_of_nonneg_right (by omega) (by omega)
    omega
theorem lp_gat {left : Int32} : ∀ (m n j : Nat) (y : Int32) (h : dH), m < n → y.toInt = j → j + m = 7 → ∃ h' : dH, f_X10_gather_L38 n left y h = ((r_X10_goOn 6) left (-1) 0 0 0 h').bind (fun h7 => some h7) ∧ (∀ a k, a ≠ 81 → a ≠ 82 → h'.1 a k = h.1 a k) ∧ (∀ p, p < 7 → j ≤ p → h'.1 81 p = 1000 ∧ h'.1 82 p = 0) ∧ (∀ p, p < j → h'.1 81 p = h.1 81 p ∧ h'.1 82 p = h.1 82 p) := by
  intro m
  have k7 : (7 : Int32).toInt = 7 := rfl
  induction m with
  | zero =>
    intro n j y h hn hy hj
    obtain ⟨n, rfl⟩ : ∃ z, n = z + 1 := ⟨n - 1, by omega⟩
    rw [f_X10_gather_L38, if_neg (by rw [i_lt, k7]; omega)]
    exact ⟨h, rfl, fun _ _ _ _ => rfl, fun p h1 h2 => by omega, fun _ _ => ⟨rfl, rfl⟩⟩
  | succ m ih =>
    intro n j y h hn hy hj
    obtain ⟨n, rfl⟩ : ∃ z, n = z + 1 := ⟨n - 1, by omega⟩
    have hi7 : dIn y 7 := ⟨by omega, by omega⟩
    rw [f_X10_gather_L38, if_pos (by rw [i_lt, k7]; omega), if_pos hi7, Option.bind_some, if_pos hi7, Option.bind_some, dI_of hy]
    obtain ⟨h', e, q1, q2, q3⟩ := ih n (j + 1) (y + 1) (dPut (dPut h 81 j 1000) 82 j 0) (by omega) (y_suc hy (by omega)) (by omega)
    refine ⟨h', e, fun a k z1 z2 => by rw [q1 a k z1 z2, dPut_ne (by omega), dPut_ne (by omega)], fun p z1 z2 => ?_, fun p z1 => ?_⟩
    · by_cases z : p = j
      · rw [(q3 p (by omega)).1, (q3 p (by omega)).2, z, dPut_ne (by omega), dPut_at, dPut_at]
        exact ⟨rfl, rfl⟩
      · exact q2 p z1 (by omega)
    · rw [(q3 p (by omega)).1, (q3 p (by omega)).2, dPut_ne (by omega), dPut_ne (by omega), dPut_ne (by omega), dPut_ne (by omega)]
      exact ⟨rfl, rfl⟩
theorem lp_lay {left : Int32} : ∀ (m n j : Nat) (y : Int32) (h : dH), m < n → y.toInt = j → j + m = 7 → ∃ h' : dH, f_X12_laysWays_L56 n left y h = ((r_X12_goWays 6) left (-1) 0 0 0 h').bind (fun h9 => some (true, h9)) ∧ (∀ a k, a ≠ 20 → h'.1 a k = h.1 a k) ∧ h'.2 = h.2 ∧ (∀ p, p < 7 → j ≤ p → h'.1 20 p = 0) ∧ (∀ p, p < j → h'.1 20 p = h.1 20 p) := by
  intro m
  have k7 : (7 : Int32).toInt = 7 := rfl
  induction m with
  | zero =>
    intro n j y h hn hy hj
    obtain ⟨n, rfl⟩ : ∃ z, n = z + 1 := ⟨n - 1, by omega⟩
    rw [f_X12_laysWays_L56, if_neg (by rw [i_lt, k7]; omega)]
    exact ⟨h, rfl, fun _ _ _ => rfl, rfl, fun p h1 h2 => by omega, fun _ _ => rfl⟩
  | succ m ih =>
    intro n j y h hn hy hj
    obtain ⟨n, rfl⟩ : ∃ z, n = z + 1 := ⟨n - 1, by omega⟩
    have hi7 : dIn y 7 := ⟨by omega, by omega⟩
    rw [f_X12_laysWays_L56, if_pos (by rw [i_lt, k7]; omega), if_pos hi7, Option.bind_some, dI_of hy]
    obtain ⟨h', e, q1, q0, q2, q3⟩ := ih n (j + 1) (y + 1) (dPut h 20 j 0) (by omega) (y_suc hy (by omega)) (by omega)
    refine ⟨h', e, fun a k z1 => by rw [q1 a k z1, dPut_ne (by omega)], q0, fun p z1 z2 => ?_, fun p z1 => ?_⟩
    · by_cases z : p = j
      · rw [q3 p (by omega), z, dPut_at]
      · exact q2 p z1 (by omega)
    · rw [q3 p (by omega), dPut_ne (by omega)]
theorem C_gat (k w a : Int32) (hC : dH) : ∃ A c0 : dH, f_X10_gather k w a hC = g_X10_goOn 6 k (-1) 0 0 0 c0 ∧ eC hC A ∧ A.1 77 10 = w ∧ A.1 77 11 = a ∧ A.1 77 1 = 0 ∧ A.1 77 2 = -1 ∧ A.1 77 3 = 1 <<< (hC.1 3 2 &&& 31) - 1 ∧ (∀ a k, a ≠ 81 → a ≠ 82 → c0.1 a k = A.1 a k) ∧ (∀ p, p < 7 → c0.1 81 p = 1000 ∧ c0.1 82 p = 0) := by
  unfold f_X10_gather
  rw [Option.bind_some, Option.bind_some, Option.bind_some, Option.bind_some, Option.bind_some]
  have e32 : (dPut (dPut (dPut (dPut hC 77 10 w) 77 11 a) 77 1 0) 77 2 (-1)).1 3 2 = hC.1 3 2 := by rw [dPut_ne (by omega), dPut_ne (by omega), dPut_ne (by omega), dPut_ne (by omega)]
  rw [e32]
  generalize eA : dPut (dPut (dPut (dPut (dPut hC 77 10 w) 77 11 a) 77 1 0) 77 2 (-1)) 77 3 (1 <<< (hC.1 3 2 &&& 31) - 1) = A
  obtain ⟨c0, u1, u2, u3, _⟩ := lp_gat (left := k) 7 dFu 0 0 A (fuel_lt (by omega)) rfl rfl
  refine ⟨A, c0, ?_, ?_, ?_, ?_, ?_, ?_, ?_, u2, fun p hp => u3 p hp (by omega)⟩
  · rw [u1, bindS]
    unfold r_X10_goOn
    exact rfl
  · rw [← eA]
    exact eC_tr (eC_tr (eC_tr (eC_tr (eC_put rfl) (eC_put rfl)) (eC_put rfl)) (eC_put rfl)) (eC_put rfl)
  · rw [← eA, dPut_ne (by omega), dPut_ne (by omega), dPut_ne (by omega), dPut_ne (by omega), dPut_at]
  · rw [← eA, dPut_ne (by omega), dPut_ne (by omega), dPut_ne (by omega), dPut_at]
  · rw [← eA, dPut_ne (by omega), dPut_ne (by omega), dPut_at]
  · rw [← eA, dPut_ne (by omega), dPut_at]
  · rw [← eA, dPut_at]
theorem M_lay (C : Ct hC hM) (hp : 0 < (hC.1 3 2).toInt) {k w a : Int32} (hk : 1 ≤ k.toInt ∧ k.toInt ≤ 4) : ∃ B d0 : dH, f_X12_laysWays k w a hM = ((g_X12_goWays 6) k (-1) 0 0 0 d0).bind (fun h9 => some (true, h9)) ∧ eM hM B ∧ B.1 0 48 = 0 ∧ B.1 0 49 = w ∧ B.1 0 50 = a ∧ B.1 0 38 = -1 ∧ B.1 0 51 = 1 <<< (hC.1 3 2 &&& 31) - 1 ∧ (∀ a k, a ≠ 20 → d0.1 a k = B.1 a k) ∧ d0.2 = B.2 ∧ (∀ p, p < 7 → d0.1 20 p = 0) := by
  have hp0 : ¬ hC.1 3 2 = 0 := fun z => by rw [z, t0] at hp; omega
  have k1 : (1 : Int64).toInt = 1 := rfl
  have k4 : (4 : Int64).toInt = 4 := rfl
  unfold f_X12_laysWays
  rw [C.np, if_neg hp0, M_isIn, k1, k4, if_pos (decide_eq_true hk), Option.bind_some, Option.bind_some, Option.bind_some, Option.bind_some, Option.bind_some]
  have e24 : (dPut (dPut (dPut (dPut hM 0 48 0) 0 49 w) 0 50 a) 0 38 (-1)).1 0 24 = hC.1 3 2 := by
    rw [dPut_ne (by omega), dPut_ne (by omega), dPut_ne (by omega), dPut_ne (by omega)]; exact C.np
  rw [e24]
  generalize eB : dPut (dPut (dPut (dPut (dPut hM 0 48 0) 0 49 w) 0 50 a) 0 38 (-1)) 0 51 (1 <<< (hC.1 3 2 &&& 31) - 1) = B
  obtain ⟨d0, v1, v2, v0, v3, _⟩ := lp_lay (left := k) 7 dFu 0 0 B (fuel_lt (by omega)) rfl rfl
  refine ⟨B, d0, ?_, ?_, ?_, ?_, ?_, ?_, ?_, v2, v0, fun p hp => v3 p hp (by omega)⟩
  · rw [v1]
    unfold r_X12_goWays
    exact rfl
  · rw [← eB]
    exact eM_tr (eM_tr (eM_tr (eM_tr (eM_put rfl (by decide)) (eM_put rfl (by decide))) (eM_put rfl (by decide))) (eM_put rfl (by decide))) (eM_put rfl (by decide))
  · rw [← eB, dPut_ne (by omega), dPut_ne (by omega), dPut_ne (by omega), dPut_ne (by omega), dPut_at]
  · rw [← eB, dPut_ne (by omega), dPut_ne (by omega), dPut_ne (by omega), dPut_at]
  · rw [← eB, dPut_ne (by omega), dPut_ne (by omega), dPut_at]
  · rw [← eB, dPut_ne (by omega), dPut_at]
  · rw [← eB, dPut_at]
/-- the WAYS, gathered on both sides -/
theorem R_ways (R : RelK K hC hM) (hp : 0 < (hC.1 3 2).toInt) {k w a : Int32} (hk : 1 ≤ k.toInt ∧ k.toInt ≤ 4) (ha : a.toInt ≤ 60) : ∃ c d : dH, f_X10_gather k w a hC = some c ∧ f_X12_laysWays k w a hM = some (true, d) ∧ RelK K c d ∧ c.1 77 1 = d.1 0 48 ∧ c.1 77 2 = d.1 0 38 ∧ c.1 77 3 = d.1 0 51 ∧ (∀ p, p < dI (hC.1 3 2) → d.1 20 p = 2 * c.1 82 p - c.1 77 1) ∧ c.1 3 2 = hC.1 3 2 ∧ 0 ≤ (c.1 77 1).toInt := by
  have dk := dI_c (x := k) (by omega)
  obtain ⟨A, c0, e1, EA, A10, A11, A1, A2, A3, u2, u3⟩ := C_gat k w a hC
  obtain ⟨B, d0, e2, EB, B48, B49, B50, B38, B51, v2, v0, v3⟩ := M_lay (w := w) (a := a) R.ct hp hk
  have RA : RelK K A B := RelK_e R EA EB
  have A32 : A.1 3 2 = hC.1 3 2 := EA 3 2 rfl
  have WBA : WB K A B := ⟨RA, by rw [A10, B49], by rw [A11, B50], by rw [A11]; exact ha⟩
  have c1 : c0.1 77 1 = 0 := by rw [u2 77 1 (by omega) (by omega), A1]
  have nx := R.ct.nat
  have z0 : (0 : Int32) = 2 * 0 - 0 := by decide
  have W0 : Wy A B 0 0 (c0.1 77 1) c0 d0 := by
    refine ⟨fun a k q1 q2 _ => u2 a k q1 q2, fun a k q1 q2 _ => v2 a k q2, v0, ⟨by rw [c1, v2 0 48 (by omega), B48], by rw [u2 77 2 (by omega) (by omega), v2 0 38 (by omega), A2, B38], by rw [u2 77 3 (by omega) (by omega), v2 0 51 (by omega), A3, B51]⟩, fun p hp => by rw [bI_0, if_neg (by decide)]; exact (u3 p hp).1, fun p hp => ?_⟩
    rw [A32] at hp
    rw [if_neg (by omega), v3 p (by omega), (u3 p (by omega)).2, c1]
    exact z0
  obtain ⟨c, d, w1, w2, w3, w4⟩ := R_go WBA (dI k) 6 k (-1) 0 0 0 c0 d0 0 (by omega) (by omega) (by omega) ⟨by rw [tm1]; omega, by rw [tm1, A32]; omega⟩ W0 (by rw [c1]; exact ⟨by decide, by decide⟩) (by omega)
  refine ⟨c, d, e1.trans w1, by rw [e2, w2, Option.bind_some], w3.rel RA, w3.2.2.2.1.1, w3.2.2.2.1.2.1, w3.2.2.2.1.2.2, fun p hp => ?_, by rw [w3.np, A32], w4.1⟩
  have := w3.2.2.2.2.2 p (by rw [A32]; exact hp)
  rw [if_neg (by omega)] at this
  exact this
theorem C_canGather : f_X11_canGather x hC = decide (0 < (hC.1 3 2).toInt ∧ 1 ≤ x.toInt ∧ x.toInt ≤ 4) := by
  have k4 : (4 : Int32).toInt = 4 := rfl
  unfold f_X11_canGather
  rw [C_isThere]
  by_cases hp : 0 < (hC.1 3 2).toInt
  · rw [if_pos (decide_eq_true hp)]
    by_cases a : x < 1
    · rw [if_pos a]
      rw [i_lt, t1] at a
      exact (decide_eq_false (by omega)).symm
    · rw [if_neg a]
      rw [i_lt, t1] at a
      by_cases b : 4 < x
      · rw [if_pos b]
        rw [i_lt, k4] at b
        exact (decide_eq_false (by omega)).symm
      · rw [if_neg b]
        rw [i_lt, k4] at b
        exact (decide_eq_true (by omega)).symm
  · rw [if_neg (by rw [decide_eq_true_iff]; exact hp)]
    exact (decide_eq_false (by omega)).symm
theorem M_noWays (C : Ct hC hM) {k w a : Int32} (h : ¬ (0 < (hC.1 3 2).toInt ∧ 1 ≤ k.toInt ∧ k.toInt ≤ 4)) : f_X12_laysWays k w a hM = some (false, hM) := by
  have k1 : (1 : Int64).toInt = 1 := rfl
  have k4 : (4 : Int64).toInt = 4 := rfl
  unfold f_X12_laysWays
  rw [C.np, M_isIn, k1, k4]
  by_cases hp : hC.1 3 2 = 0
  · rw [if_pos hp]
  · rw [if_neg hp, if_neg]
    rw [decide_eq_true_iff]
    rw [i_eq, t0] at hp
    have := C.ge
    omega
theorem ok_ways : st_ways Rel := by
  intro n hC hM hn R k w
  have R1 : RelK (60 * n) hC (dPut hM 0 0 0) := R.t0
  unfold aC_ways aM_ways f_X11_ways f_X12_ways
  rw [Option.bind_some]
  generalize dPut hM 0 0 0 = h1 at R1 ⊢
  rw [C_canGather]
  by_cases g : 0 < (hC.1 3 2).toInt ∧ 1 ≤ k.toInt ∧ k.toInt ≤ 4
  · rw [if_pos (decide_eq_true g)]
    by_cases a : w < -1
    · rw [if_pos a, if_pos a]
      exact ag rfl rfl (Rel_mono R1)
    · obtain ⟨c, d, e1, e2, R', q1, q2, q3, q4, q5, q6⟩ := R_ways R1 g.1 (w := w) (a := 0) g.2 (by decide)
      rw [if_neg a, if_neg a, e1, e2, Option.bind_some, Option.bind_some, if_pos rfl]
      dsimp only
      by_cases b : w = -1
      · rw [if_pos b, if_pos b, q1]
        exact ag rfl rfl (Rel_mono R')
      · rw [if_neg b, if_neg b, q2]
        exact ag rfl rfl (Rel_mono R')
  · rw [if_neg (show ¬ decide (0 < (hC.1 3 2).toInt ∧ 1 ≤ k.toInt ∧ k.toInt ≤ 4) = true by rw [decide_eq_true_iff]; exact g), M_noWays R1.ct g, Option.bind_some]
    dsimp only
    rw [if_neg (show ¬ false = true by decide)]
    have : (if w < -1 then some ((-1 : Int32), h1) else some (-1, h1)) = some (-1, h1) := by split <;> rfl
    rw [this]
    exact ag rfl rfl (Rel_mono R1)
theorem ok_always : st_always Rel := by
  intro n hC hM hn R k
  have R1 : RelK (60 * n) hC (dPut hM 0 0 0) := R.t0
  unfold aC_always aM_always f_X11_always f_X12_always
  rw [Option.bind_some]
  generalize dPut hM 0 0 0 = h1 at R1 ⊢
  rw [C_canGather]
  by_cases g : 0 < (hC.1 3 2).toInt ∧ 1 ≤ k.toInt ∧ k.toInt ≤ 4
  · obtain ⟨c, d, e1, e2, R', q1, q2, q3, q4, q5, q6⟩ := R_ways R1 g.1 (w := -1) (a := 0) g.2 (by decide)
    rw [if_pos (decide_eq_true g), e1, e2, Option.bind_some, Option.bind_some, if_pos rfl]
    dsimp only
    rw [← q1, ← q3]
    by_cases b : c.1 77 1 = 0
    · rw [if_pos b, if_neg (show ¬ 0 < c.1 77 1 by rw [b]; decide)]
      exact ag rfl rfl (Rel_mono R')
    · rw [if_neg b, if_pos (show 0 < c.1 77 1 by rw [i_eq, t0] at b; rw [i_lt, t0]; omega)]
      exact ag rfl rfl (Rel_mono R')
  · rw [if_neg (show ¬ decide (0 < (hC.1 3 2).toInt ∧ 1 ≤ k.toInt ∧ k.toInt ≤ 4) = true by rw [decide_eq_true_iff]; exact g), M_noWays R1.ct g, Option.bind_some]
    dsimp only
    rw [if_neg (show ¬ false = true by decide)]
    exact ag rfl rfl (Rel_mono R1)
theorem jabs_neg (x : Int32) : jabs (-x) = jabs x := by
  by_cases hm : x.toInt = -2147483648
  · have : x = Int32.minValue := i_eq.mpr hm
    rw [this]
    decide
  · have r := i_rng x
    have e := i_neg (x := x) (by omega)
    rw [i_eq, i_jabs (by omega), i_jabs (by omega), e]
    split <;> split <;> omega
theorem lp_ask (C : Ct c d) (l : ∀ p, p < dI (c.1 3 2) → d.1 20 p = 2 * c.1 82 p - c.1 77 1) : ∀ (m n n2 j : Nat) (b y : Int32), m < n → m < n2 → y.toInt = j → j + m = dI (c.1 3 2) → Pl c b → ∃ v, f_X10_evenest_L4 c n b y = some v ∧ f_X12_ask_L41 n2 b y d = some (v, d) := by
  have key : ∀ x : Int32, Pl c x → jabs (c.1 77 1 - 2 * c.1 82 (dI x)) = jabs (d.1 20 (dI x)) := fun x hx => by
    have hn := hx.nat C
    have nx := C.nat
    have h2 := hx.2
    rw [l (dI x) (by omega), ← jabs_neg (2 * c.1 82 (dI x) - c.1 77 1), Int32.neg_sub]
  intro m
  induction m with
  | zero =>
    intro n n2 j b y hn hn2 hy hj hb
    obtain ⟨n, rfl⟩ : ∃ z, n = z + 1 := ⟨n - 1, by omega⟩
    obtain ⟨n2, rfl⟩ : ∃ z, n2 = z + 1 := ⟨n2 - 1, by omega⟩
    rw [f_X10_evenest_L4, f_X12_ask_L41, C.np, if_neg (ge_j C hy hj), if_neg (ge_j C hy hj)]
    exact ⟨_, rfl, rfl⟩
  | succ m ih =>
    intro n n2 j b y hn hn2 hy hj hb
    obtain ⟨n, rfl⟩ : ∃ z, n = z + 1 := ⟨n - 1, by omega⟩
    obtain ⟨n2, rfl⟩ : ∃ z, n2 = z + 1 := ⟨n2 - 1, by omega⟩
    have hx := pl_j C hy hj
    have nx := C.nat
    rw [f_X10_evenest_L4, f_X12_ask_L41, C.np, if_pos (lt_j C hy hj), if_pos (lt_j C hy hj), if_pos (hx.in7 C), if_pos (hb.in7 C), if_pos (hx.in7 C), if_pos (hb.in7 C), key y hx, key b hb]
    unfold f_X10_evenest_J52 f_X12_ask_J78
    by_cases q : jabs (d.1 20 (dI y)) < jabs (d.1 20 (dI b))
    · rw [if_pos q, if_pos q]
      exact ih n n2 (j + 1) y (y + 1) (by omega) (by omega) (y_suc hy (by omega)) (by omega) hx
    · rw [if_neg q, if_neg q]
      exact ih n n2 (j + 1) b (y + 1) (by omega) (by omega) (y_suc hy (by omega)) (by omega) hb
theorem ok_ask : st_ask Rel := by
  intro n hC hM hn R k a
  have R1 : RelK (60 * n) hC (dPut hM 0 0 0) := R.t0
  unfold aC_ask aM_ask f_X11_ask f_X12_ask
  rw [Option.bind_some]
  generalize dPut hM 0 0 0 = h1 at R1 ⊢
  have k0 : (0 : Int64).toInt = 0 := rfl
  have k60 : (60 : Int64).toInt = 60 := rfl
  have k60' : (60 : Int32).toInt = 60 := rfl
  have fin : dAg (Rel (n + 1)) (some (-1, hC)) (some (-1, h1)) := ag rfl rfl (Rel_mono R1)
  rw [C_canGather, M_isIn, k0, k60]
  by_cases g : 0 < (hC.1 3 2).toInt ∧ 1 ≤ k.toInt ∧ k.toInt ≤ 4
  · rw [if_pos (decide_eq_true g)]
    by_cases ha : 0 ≤ a.toInt ∧ a.toInt ≤ 60
    · obtain ⟨c, d, e1, e2, R', q1, q2, q3, q4, q5, q6⟩ := R_ways R1 g.1 (w := -1) (a := a) g.2 ha.2
      rw [if_neg (show ¬ a < 0 by rw [i_lt, t0]; omega), if_neg (show ¬ 60 < a by rw [i_lt, k60']; omega), if_pos (decide_eq_true ha), e1, e2, Option.bind_some, Option.bind_some, if_pos rfl]
      dsimp only
      rw [← q1]
      by_cases b : c.1 77 1 = 0
      · rw [if_pos b, if_pos b]
        exact ag rfl rfl (Rel_mono R')
      · rw [if_neg b, if_neg b]
        have nx := R'.ct.nat
        have h2 : 2 ≤ (c.1 3 2).toInt := by
          rw [q5]
          rcases R1.ct.2.1.1 with q | q
          · omega
          · exact q.1
        obtain ⟨v, w1, w2⟩ := lp_ask R'.ct (by rw [q5]; exact q4) (dI (c.1 3 2) - 1) dFu dFu 1 0 1 (fuel_lt (by omega)) (fuel_lt (by omega)) rfl (by omega) ⟨by rw [t0]; omega, by rw [t0]; omega⟩
        have w1' : f_X10_evenest c = some v := w1
        rw [w1', w2]
        exact ag rfl rfl (Rel_mono R')
    · rw [if_neg (show ¬ decide (0 ≤ a.toInt ∧ a.toInt ≤ 60) = true by rw [decide_eq_true_iff]; exact ha)]
      by_cases a1 : a < 0
      · rw [if_pos a1]
        exact fin
      · rw [if_neg a1, if_pos (show 60 < a by rw [i_lt, t0] at a1; rw [i_lt, k60']; omega)]
        exact fin
  · rw [if_neg (show ¬ decide (0 < (hC.1 3 2).toInt ∧ 1 ≤ k.toInt ∧ k.toInt ≤ 4) = true by rw [decide_eq_true_iff]; exact g), M_noWays R1.ct g, Option.bind_some]
    dsimp only
    rw [if_neg (show ¬ false = true by decide)]
    have : (if decide (0 ≤ a.toInt ∧ a.toInt ≤ 60) = true then some ((-1 : Int32), h1) else some (-1, h1)) = some (-1, h1) := by split <;> rfl
    rw [this]
    exact fin
end WY
