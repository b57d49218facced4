/-! PURE: Int32 as Int -/
theorem i_lt {x y : Int32} : x < y ↔ x.toInt < y.toInt := Int32.lt_iff_toInt_lt
theorem i_le {x y : Int32} : x ≤ y ↔ x.toInt ≤ y.toInt := Int32.le_iff_toInt_le
theorem i_eq {x y : Int32} : x = y ↔ x.toInt = y.toInt := Int32.toInt_inj.symm
theorem i_rng (x : Int32) : -2147483648 ≤ x.toInt ∧ x.toInt < 2147483648 := ⟨x.le_toInt, x.toInt_lt⟩
theorem i_add {x y : Int32} (h : -2147483648 ≤ x.toInt + y.toInt ∧ x.toInt + y.toInt < 2147483648) : (x + y).toInt = x.toInt + y.toInt := by
  rw [Int32.toInt_add]
  exact Int.bmod_eq_of_le (by omega) (by omega)
theorem i_sub {x y : Int32} (h : -2147483648 ≤ x.toInt - y.toInt ∧ x.toInt - y.toInt < 2147483648) : (x - y).toInt = x.toInt - y.toInt := by
  rw [Int32.toInt_sub]
  exact Int.bmod_eq_of_le (by omega) (by omega)
theorem i_mul {x y : Int32} (h : -2147483648 ≤ x.toInt * y.toInt ∧ x.toInt * y.toInt < 2147483648) : (x * y).toInt = x.toInt * y.toInt := by
  rw [Int32.toInt_mul]
  exact Int.bmod_eq_of_le (by omega) (by omega)
theorem i_neg {x : Int32} (h1 : -2147483648 < x.toInt) : (-x).toInt = -x.toInt := by
  rw [Int32.toInt_neg]
  have := x.toInt_lt
  exact Int.bmod_eq_of_le (by omega) (by omega)
theorem i_ofNat {k : Nat} (h : k < 2147483648) : (Int32.ofNat k).toInt = k := by
  rw [Int32.toInt_ofNat']
  have e : ((Int32.size : Nat) : Int) = 4294967296 := rfl
  exact Int.bmod_eq_of_le (by omega) (by omega)
theorem i_nat {x : Int32} (h : 0 ≤ x.toInt) : x = Int32.ofNat (dI x) := by
  have e : dI x = x.toInt.toNat := rfl
  rw [i_eq, i_ofNat (by have := i_rng x; omega)]
  omega
theorem dI_c {x : Int32} (h : 0 ≤ x.toInt) : (dI x : Int) = x.toInt := by
  show ((x.toInt.toNat : Nat) : Int) = x.toInt
  omega
theorem dI_of {x : Int32} {k : Nat} (h : x.toInt = k) : dI x = k := by
  show x.toInt.toNat = k
  omega
theorem dIn_of {x : Int32} {k n : Nat} (h : x.toInt = k) (hk : k < n) : dIn x n := ⟨by omega, by omega⟩
theorem i_add1 {x : Int32} (h : -2147483648 ≤ x.toInt ∧ x.toInt < 2147483647) : (x + 1).toInt = x.toInt + 1 := i_add (y := 1) ⟨by show _ ≤ x.toInt + 1; omega, by show x.toInt + 1 < _; omega⟩
/-- jmax, jmin, jabs -/
theorem i_jmax (x y : Int32) : (jmax x y).toInt = max x.toInt y.toInt := by
  unfold jmax
  split
  · next h => rw [i_lt] at h; omega
  · next h => rw [i_lt] at h; omega
theorem i_jmin (x y : Int32) : (jmin x y).toInt = min x.toInt y.toInt := by
  unfold jmin
  split
  · next h => rw [i_lt] at h; omega
  · next h => rw [i_lt] at h; omega
theorem i_jabs {x : Int32} (h : -2147483648 < x.toInt) : (jabs x).toInt = if 0 ≤ x.toInt then x.toInt else -x.toInt := by
  unfold jabs
  have h0 : (0 : Int32).toInt = 0 := rfl
  have := i_rng x
  split
  · next h2 => rw [i_le] at h2; rw [if_pos (by omega)]
  · next h2 => rw [i_le] at h2; rw [i_sub (by omega), if_neg (by omega)]; omega
/-- comparing longs -/
theorem l_cmp_lt {x y : Int64} : lg_cmp x y < 0 ↔ x.toInt < y.toInt := by
  unfold lg_cmp
  by_cases h1 : x > y
  · rw [if_pos h1]
    have h2 := Int64.lt_iff_toInt_lt.mp h1
    exact ⟨fun z => absurd z (by decide), fun z => by omega⟩
  · rw [if_neg h1]
    have h2 : ¬ y.toInt < x.toInt := fun z => h1 (Int64.lt_iff_toInt_lt.mpr z)
    by_cases h3 : x = y
    · rw [if_pos h3, h3]
      exact ⟨fun z => absurd z (by decide), fun z => by omega⟩
    · rw [if_neg h3]
      have h4 : x.toInt ≠ y.toInt := fun z => h3 (Int64.toInt_inj.mp z)
      exact ⟨fun _ => by omega, fun _ => by decide⟩
theorem l_cmp_gt {x y : Int64} : 0 < lg_cmp x y ↔ y.toInt < x.toInt := by
  unfold lg_cmp
  by_cases h1 : x > y
  · rw [if_pos h1]
    have h2 := Int64.lt_iff_toInt_lt.mp h1
    exact ⟨fun _ => h2, fun z => by decide⟩
  · rw [if_neg h1]
    have h2 : ¬ y.toInt < x.toInt := fun z => h1 (Int64.lt_iff_toInt_lt.mpr z)
    by_cases h3 : x = y
    · rw [if_pos h3]
      exact ⟨fun z => absurd z (by decide), fun z => by omega⟩
    · rw [if_neg h3]
      exact ⟨fun z => absurd z (by decide), fun z => by omega⟩
theorem l_cmp_eq {x y : Int64} : lg_cmp x y = 0 ↔ x = y := by
  unfold lg_cmp
  by_cases h1 : x > y
  · rw [if_pos h1]
    have h2 := Int64.lt_iff_toInt_lt.mp h1
    exact ⟨fun z => absurd z (by decide), fun z => by subst z; omega⟩
  · rw [if_neg h1]
    by_cases h3 : x = y
    · rw [if_pos h3]
      exact ⟨fun _ => h3, fun _ => rfl⟩
    · rw [if_neg h3]
      exact ⟨fun z => absurd z (by decide), fun z => absurd z h3⟩
theorem l_ofI (x : Int32) : x.toInt64.toInt = x.toInt := Int32.toInt_toInt64 x
theorem M_isIn (x : Int32) (a b : Int64) (h : dH) : f_X12_isIn x.toInt64 a b h = decide (a.toInt ≤ x.toInt ∧ x.toInt ≤ b.toInt) := by
  unfold f_X12_isIn
  by_cases h1 : x.toInt < a.toInt
  · rw [if_pos (l_cmp_lt.mpr (by rw [l_ofI]; exact h1))]
    exact (decide_eq_false (by omega)).symm
  · rw [if_neg (fun z => h1 (by have := l_cmp_lt.mp z; rw [l_ofI] at this; exact this))]
    by_cases h2 : b.toInt < x.toInt
    · rw [if_pos (l_cmp_gt.mpr (by rw [l_ofI]; exact h2))]
      exact (decide_eq_false (by omega)).symm
    · rw [if_neg (fun z => h2 (by have := l_cmp_gt.mp z; rw [l_ofI] at this; exact this))]
      exact (decide_eq_true (by omega)).symm
/-- one bit -/
theorem and_one (v : Int32) : v &&& 1 = 0 ∨ v &&& 1 = 1 := by
  have h : (v &&& 1).toBitVec = v.toBitVec &&& 1#32 := rfl
  have h2 : (v.toBitVec &&& 1#32).toNat ≤ 1 := by
    rw [BitVec.toNat_and]
    exact Nat.and_le_right
  rcases (show (v.toBitVec &&& 1#32).toNat = 0 ∨ (v.toBitVec &&& 1#32).toNat = 1 by omega) with q | q
  · left
    apply Int32.toBitVec_inj.mp
    rw [h]
    exact BitVec.eq_of_toNat_eq q
  · right
    apply Int32.toBitVec_inj.mp
    rw [h]
    exact BitVec.eq_of_toNat_eq q
theorem has_isIn (x p : Int32) (h h2 : dH) : f_X12_has x p h = f_X11_isIn x p h2 := by
  unfold f_X12_has f_X11_isIn
  rcases and_one (x >>> (p &&& 31)) with q | q
  · rw [q, if_neg (by decide), if_pos rfl]
  · rw [q, if_pos rfl, if_neg (by decide)]
theorem isIn_h (x p : Int32) (h h2 : dH) : f_X11_isIn x p h = f_X11_isIn x p h2 := rfl
/-- places -/
theorem C_isPlace (t : Nat) (x : Int32) (h : dH) : f_X1_isPlace t x h = decide (0 ≤ x.toInt ∧ x.toInt < (h.1 t 2).toInt) := by
  unfold f_X1_isPlace
  have h0 : (0 : Int32).toInt = 0 := rfl
  by_cases h1 : x < 0
  · rw [if_pos h1]
    rw [i_lt] at h1
    exact (decide_eq_false (by omega)).symm
  · rw [if_neg h1]
    rw [i_lt] at h1
    by_cases h2 : x < h.1 t 2
    · rw [if_pos h2]
      rw [i_lt] at h2
      exact (decide_eq_true (by omega)).symm
    · rw [if_neg h2]
      rw [i_lt] at h2
      exact (decide_eq_false (by omega)).symm
theorem M_isPlace (x : Int32) (h : dH) : f_X12_isPlace x h = decide (0 ≤ x.toInt ∧ x.toInt < (h.1 0 24).toInt) := by
  unfold f_X12_isPlace
  have h0 : (0 : Int32).toInt = 0 := rfl
  by_cases h1 : x < 0
  · rw [if_pos h1]
    rw [i_lt] at h1
    exact (decide_eq_false (by omega)).symm
  · rw [if_neg h1]
    rw [i_lt] at h1
    by_cases h2 : x < h.1 0 24
    · rw [if_pos h2]
      rw [i_lt] at h2
      exact (decide_eq_true (by omega)).symm
    · rw [if_neg h2]
      rw [i_lt] at h2
      exact (decide_eq_false (by omega)).symm
/-- slots of a place in the rows -/
theorem dI3 {x : Int32} {w : Nat} (hx : dIn x 7) (hw : w < 3) : dI (3 * x + Int32.ofNat w) = 3 * dI x + w ∧ dIn (3 * x + Int32.ofNat w) 209 := by
  have h3 : (3 : Int32).toInt = 3 := rfl
  have hm : (3 * x).toInt = 3 * x.toInt := by rw [i_mul (by rw [h3]; omega), h3]
  have ha : (3 * x + Int32.ofNat w).toInt = 3 * x.toInt + w := by
    rw [i_add (by rw [hm, i_ofNat (by omega)]; omega), hm, i_ofNat (by omega)]
  refine ⟨?_, ?_, ?_⟩
  · show (3 * x + Int32.ofNat w).toInt.toNat = 3 * x.toInt.toNat + w
    rw [ha]; omega
  · rw [ha]; omega
  · rw [ha]; omega
theorem dI5 {x y : Int32} (hx : dIn x 7) (hy : dIn y 5) : dI (5 * x + y) = 5 * dI x + dI y ∧ dIn (5 * x + y) 35 := by
  have h5 : (5 : Int32).toInt = 5 := rfl
  have hm : (5 * x).toInt = 5 * x.toInt := by rw [i_mul (by rw [h5]; omega), h5]
  have ha : (5 * x + y).toInt = 5 * x.toInt + y.toInt := by
    rw [i_add (by rw [hm]; omega), hm]
  refine ⟨?_, ?_, ?_⟩
  · show (5 * x + y).toInt.toNat = 5 * x.toInt.toNat + y.toInt.toNat
    rw [ha]; omega
  · rw [ha]; omega
  · rw [ha]; omega
theorem dIk {x : Int32} {w : Nat} (hx : dIn x 7) (hw : w ≤ 21) : dI (Int32.ofNat w + x) = w + dI x ∧ dIn (Int32.ofNat w + x) 28 := by
  have ha : (Int32.ofNat w + x).toInt = w + x.toInt := by
    rw [i_add (by rw [i_ofNat (by omega)]; omega), i_ofNat (by omega)]
  refine ⟨?_, ?_, ?_⟩
  · show (Int32.ofNat w + x).toInt.toNat = w + x.toInt.toNat
    rw [ha]; omega
  · rw [ha]; omega
  · rw [ha]; omega
