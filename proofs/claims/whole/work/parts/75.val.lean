/-! PURE: values under the relation -/
theorem t1 : (1 : Int32).toInt = 1 := rfl
theorem tm1 : (-1 : Int32).toInt = -1 := rfl
def Ct (hC hM : dH) : Prop := rCity (hC.1 3 2) (hC.1 4) (cSp hC) (cWy hC) (hM.1 0 24) (hM.1 5) (hM.1 7)
abbrev Pl (h : dH) (x : Int32) : Prop := 0 ≤ x.toInt ∧ x.toInt < (h.1 3 2).toInt
abbrev Pl' (h : dH) (x : Int32) : Prop := -1 ≤ x.toInt ∧ x.toInt < (h.1 3 2).toInt
def wF (h : dH) (x y : Int32) : Int32 := h.1 (14 + dI (x + 1)) (dI (y + 1))
/-- slots of the rows -/
theorem ix0 {x : Int32} (hx : dIn x 7) : dI (3 * x + 0) = 3 * dI x ∧ dIn (3 * x + 0) 209 := dI3 (w := 0) hx (by omega)
theorem ix1 {x : Int32} (hx : dIn x 7) : dI (3 * x + 1) = 3 * dI x + 1 ∧ dIn (3 * x + 1) 209 := dI3 (w := 1) hx (by omega)
theorem ix2 {x : Int32} (hx : dIn x 7) : dI (3 * x + 2) = 3 * dI x + 2 ∧ dIn (3 * x + 2) 209 := dI3 (w := 2) hx (by omega)
theorem ixk7 {x : Int32} (hx : dIn x 7) : dI (7 + x) = 7 + dI x ∧ dIn (7 + x) 28 := dIk (w := 7) hx (by omega)
theorem ixk14 {x : Int32} (hx : dIn x 7) : dI (14 + x) = 14 + dI x ∧ dIn (14 + x) 28 := dIk (w := 14) hx (by omega)
theorem ixk21 {x : Int32} (hx : dIn x 7) : dI (21 + x) = 21 + dI x ∧ dIn (21 + x) 28 := dIk (w := 21) hx (by omega)
section CT
variable {hC hM : dH} {x y w : Int32}
theorem Pl.p' (hx : Pl hC x) : Pl' hC x := ⟨by have := hx.1; omega, hx.2⟩
theorem Ct.le (C : Ct hC hM) : (hC.1 3 2).toInt ≤ 7 := by
  rcases C.2.1.1 with q | q
  · omega
  · exact q.2
theorem Ct.ge (C : Ct hC hM) : 0 ≤ (hC.1 3 2).toInt := by
  rcases C.2.1.1 with q | q
  · omega
  · have := q.1; omega
theorem Ct.np (C : Ct hC hM) : hM.1 0 24 = hC.1 3 2 := C.1.symm
theorem Pl.in7 (C : Ct hC hM) (hx : Pl hC x) : dIn x 7 := ⟨hx.1, by have := C.le; have := hx.2; omega⟩
theorem Pl.nat (C : Ct hC hM) (hx : Pl hC x) : (dI x : Int) = x.toInt ∧ dI x < 7 := ⟨dI_c hx.1, by have := dI_c hx.1; have := C.le; have := hx.2; omega⟩
theorem Pl'.add (C : Ct hC hM) (hx : Pl' hC x) : (x + 1).toInt = x.toInt + 1 ∧ dIn (x + 1) 8 ∧ (dI (x + 1) : Int) = x.toInt + 1 := by
  have h1 := hx.1
  have h2 := hx.2
  have h3 := C.le
  have e := i_add1 (x := x) (by omega)
  refine ⟨e, ⟨by rw [e]; omega, by rw [e]; omega⟩, ?_⟩
  rw [dI_c (by rw [e]; omega), e]
theorem C_pl (hx : Pl hC x) : f_X1_isPlace 3 x hC = true := by rw [C_isPlace]; exact decide_eq_true hx
theorem C_npl (hx : ¬ Pl hC x) : f_X1_isPlace 3 x hC = false := by rw [C_isPlace]; exact decide_eq_false hx
theorem M_pl (C : Ct hC hM) (hx : Pl hC x) : f_X12_isPlace x hM = true := by rw [M_isPlace, C.np]; exact decide_eq_true hx
theorem M_npl (C : Ct hC hM) (hx : ¬ Pl hC x) : f_X12_isPlace x hM = false := by rw [M_isPlace, C.np]; exact decide_eq_false hx
theorem C_toldOf (C : Ct hC hM) (hx : Pl hC x) (hw : dIn w 5) : f_X1_toldOf 3 x w hC = some (hC.1 (6 + dI x) (dI w)) := by
  unfold f_X1_toldOf
  have h4 : (4 : Int32).toInt = 4 := rfl
  rw [C_pl hx, if_pos rfl, if_neg (by rw [i_lt, t0]; have := hw.1; omega), if_neg (by rw [i_lt, h4]; have := hw.2; omega), if_pos (hx.in7 C), if_pos hw]
theorem C_toldOf_n (hx : ¬ Pl hC x) : f_X1_toldOf 3 x w hC = some 0 := by
  unfold f_X1_toldOf
  rw [C_npl hx]
  rfl
theorem told_eq (C : Ct hC hM) (hx : Pl hC x) (hw : dIn w 5) : hM.1 7 (5 * dI x + dI w) = hC.1 (6 + dI x) (dI w) := by
  have h1 := (hx.nat C)
  have h2 := C.2.2.2.1 (dI x) (by rw [h1.1]; exact hx.2) (dI w) (by have := dI_c hw.1; have := hw.2; omega)
  rw [cSp_at h1.2] at h2
  exact h2.symm
theorem M_of (C : Ct hC hM) (hx : Pl hC x) (hw : dIn w 5) : f_X12_of x w hM = some (hC.1 (6 + dI x) (dI w)) := by
  unfold f_X12_of
  rw [if_pos (dI5 (hx.in7 C) hw).2, (dI5 (hx.in7 C) hw).1, told_eq C hx hw]
theorem C_apart (C : Ct hC hM) (hx : Pl' hC x) (hy : Pl' hC y) : f_X1_apart 3 x y hC = some (wF hC x y) := by
  unfold f_X1_apart
  rw [if_neg (by rw [i_lt, tm1]; have := hx.1; omega), if_pos (by rw [i_lt]; exact hx.2), if_neg (by rw [i_lt, tm1]; have := hy.1; omega), if_pos (by rw [i_lt]; exact hy.2), if_pos (hx.add C).2.1, if_pos (hy.add C).2.1]
  rfl
theorem tX_bt (C : Ct hC hM) {i : Nat} (hi : (i : Int) ≤ (hC.1 3 2).toInt) : bt 0 9 (tX (cSp hC) i 0) ∧ bt 0 9 (tX (cSp hC) i 1) := by
  unfold tX
  by_cases h : i = 0
  · rw [if_pos h, if_pos h]
    exact ⟨⟨by decide, by decide⟩, ⟨by decide, by decide⟩⟩
  · rw [if_neg h, if_neg h]
    have := C.2.1.2.2.2.2 (i - 1) (by omega)
    exact ⟨this.1, this.2.1⟩
theorem jabs_bt {a b : Int32} (ha : bt 0 9 a) (hb : bt 0 9 b) : bt 0 9 (jabs (a - b)) := by
  obtain ⟨a1, a2⟩ := ha
  obtain ⟨b1, b2⟩ := hb
  have e := i_sub (x := a) (y := b) (by omega)
  have e2 := i_jabs (x := a - b) (by omega)
  constructor
  · rw [e2]; split <;> omega
  · rw [e2]; split <;> omega
theorem wF_eq (C : Ct hC hM) (hx : Pl' hC x) (hy : Pl' hC y) : wF hC x y = jabs (tX (cSp hC) (dI (x + 1)) 0 - tX (cSp hC) (dI (y + 1)) 0) + jabs (tX (cSp hC) (dI (x + 1)) 1 - tX (cSp hC) (dI (y + 1)) 1) := by
  have a := hx.add C
  have b := hy.add C
  have h3 := C.le
  have h := C.2.2.2.2 (dI (x + 1)) (dI (y + 1)) (by have := hx.2; omega) (by have := hy.2; omega)
  rw [cWy_at (by have := hx.2; omega)] at h
  exact h
theorem wF_bt (C : Ct hC hM) (hx : Pl' hC x) (hy : Pl' hC y) : bt 0 18 (wF hC x y) := by
  have a := hx.add C
  have b := hy.add C
  have h1 := tX_bt C (i := dI (x + 1)) (by have := hx.2; omega)
  have h2 := tX_bt C (i := dI (y + 1)) (by have := hy.2; omega)
  rw [wF_eq C hx hy]
  obtain ⟨u1, u2⟩ := jabs_bt h1.1 h2.1
  obtain ⟨v1, v2⟩ := jabs_bt h1.2 h2.2
  constructor
  · rw [i_add (by omega)]; omega
  · rw [i_add (by omega)]; omega
theorem tX_pl (C : Ct hC hM) (hx : Pl hC x) (w : Nat) : tX (cSp hC) (dI (x + 1)) w = hC.1 (6 + dI x) w := by
  have a := hx.p'.add C
  have b := hx.nat C
  unfold tX
  have h0 := hx.1
  rw [if_neg (by omega), show dI (x + 1) - 1 = dI x by omega, cSp_at b.2]
theorem tX_m1 (w : Nat) : tX (cSp hC) (dI ((-1) + 1)) w = 0 := rfl
theorem in0 : dIn (0 : Int32) 5 := ⟨by decide, by decide⟩
theorem in1 : dIn (1 : Int32) 5 := ⟨by decide, by decide⟩
theorem in2 : dIn (2 : Int32) 5 := ⟨by decide, by decide⟩
theorem in3 : dIn (3 : Int32) 5 := ⟨by decide, by decide⟩
theorem in4 : dIn (4 : Int32) 5 := ⟨by decide, by decide⟩
theorem M_between (C : Ct hC hM) (hx : Pl' hC x) (hy : Pl hC y) : f_X12_between x y hM = some (wF hC x y) := by
  unfold f_X12_between
  rw [wF_eq C hx hy.p']
  rw [tX_pl C hy, tX_pl C hy]
  by_cases h : x = -1
  · rw [if_pos h]
    unfold f_X12_between_J15 f_X12_between_J31
    rw [if_pos h, M_of C hy in0, Option.bind_some, M_of C hy in1, Option.bind_some, h, tX_m1, tX_m1]
    rfl
  · rw [if_neg h]
    have hxp : Pl hC x := by
      have h1 := hx.1
      rw [i_eq, tm1] at h
      exact ⟨by omega, hx.2⟩
    unfold f_X12_between_J15 f_X12_between_J31
    rw [M_of C hxp in0, Option.bind_some, if_neg h, M_of C hxp in1, Option.bind_some, M_of C hy in0, Option.bind_some, M_of C hy in1, Option.bind_some, tX_pl C hxp, tX_pl C hxp]
    rfl
/-- could he walk? -/
def cwB (h : dH) (f ho ti x : Int32) : Bool := if 0 ≤ x.toInt ∧ x.toInt < (h.1 3 2).toInt then (if x = f then false else if (h.1 4 0) < (ti + wF h f x) then false else if (h.1 4 1) < ((ho + wF h f x) + 1) then false else true) else false
theorem C_couldWalk (C : Ct hC hM) (t : Nat) {f ho ti : Int32} (hf : Pl' hC f) : f_X8_couldWalk t f ho ti x hC = some (cwB hC f ho ti x) := by
  unfold f_X8_couldWalk cwB
  by_cases hx : Pl hC x
  · rw [C_pl hx, if_pos rfl, if_pos hx, C_apart C hf hx.p', Option.bind_some]
    split
    · rfl
    · split
      · rfl
      · split
        · rfl
        · rfl
  · rw [C_npl hx, if_neg (by decide), if_neg hx]
theorem cwB_true {f ho ti : Int32} (hb : cwB hC f ho ti x = true) : Pl hC x ∧ x ≠ f ∧ ¬ (hC.1 4 0) < (ti + wF hC f x) ∧ ¬ (hC.1 4 1) < ((ho + wF hC f x) + 1) := by
  unfold cwB at hb
  by_cases hx : 0 ≤ x.toInt ∧ x.toInt < (hC.1 3 2).toInt
  · rw [if_pos hx] at hb
    by_cases h1 : x = f
    · rw [if_pos h1] at hb; cases hb
    · rw [if_neg h1] at hb
      by_cases h2 : (hC.1 4 0) < (ti + wF hC f x)
      · rw [if_pos h2] at hb; cases hb
      · rw [if_neg h2] at hb
        by_cases h3 : (hC.1 4 1) < ((ho + wF hC f x) + 1)
        · rw [if_pos h3] at hb; cases hb
        · exact ⟨hx, h1, h2, h3⟩
  · rw [if_neg hx] at hb; cases hb
/-- the reference's canWalk: w is where its row lies -/
theorem M_canWalk (C : Ct hC hM) (w : Nat) (hf : Pl' hC (hM.1 w 23 - 1)) : f_X12_canWalk w x hM = some (cwB hC (hM.1 w 23 - 1) (hM.1 w 21) (hM.1 w 22) x) := by
  unfold f_X12_canWalk cwB
  by_cases hx : Pl hC x
  · rw [M_pl C hx, if_pos rfl, if_pos hx]
    unfold f_X12_far
    have e : f_X12_where w hM = hM.1 w 23 - 1 := rfl
    rw [e, M_between C hf hx]
    simp only [Option.bind_some]
    rw [C.2.2.1 0 (by omega), C.2.2.1 1 (by omega)]
    by_cases h1 : x = hM.1 w 23 - 1
    · rw [if_pos h1, if_pos h1.symm]
    · rw [if_neg h1, if_neg (fun z => h1 z.symm)]
      split
      · rfl
      · split
        · rfl
        · rfl
  · rw [M_npl C hx, if_neg (by decide), if_neg hx]
theorem C_visitsOf (C : Ct hC hM) (t : Nat) (hx : Pl hC x) : f_X8_visitsOf t x hC = some (hC.1 (t + 1) (7 + dI x)) := by
  unfold f_X8_visitsOf
  have := ixk7 (hx.in7 C)
  rw [C_pl hx, if_pos rfl, if_pos this.2]
  rw [this.1]
theorem C_troublesOf (C : Ct hC hM) (t : Nat) (hx : Pl hC x) : f_X8_troublesOf t x hC = some (hC.1 (t + 1) (14 + dI x)) := by
  unfold f_X8_troublesOf
  have := ixk14 (hx.in7 C)
  rw [C_pl hx, if_pos rfl, if_pos this.2]
  rw [this.1]
theorem C_patienceOf (C : Ct hC hM) (t : Nat) (hx : Pl hC x) : f_X8_patienceOf t x hC = some (hC.1 (t + 1) (21 + dI x)) := by
  unfold f_X8_patienceOf
  have := ixk21 (hx.in7 C)
  rw [C_pl hx, if_pos rfl, if_pos this.2]
  rw [this.1]
end CT
