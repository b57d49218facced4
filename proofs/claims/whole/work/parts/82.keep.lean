/-! PURE: what is kept ahead of an ACT -/
theorem ixe (f : Nat → Int32) {a b : Nat} (h : a = b) : f a = f b := by rw [h]
section KP
variable {K : Int} {hC hM : dH}
theorem M_remember (h : dH) {c : Nat} (hc : (h.1 0 35).toInt = c) (hc4 : c ≤ 40) : ∃ h' : dH, f_X12_remember h = some h' ∧ (h'.1 0 35).toInt = (min 40 (c + 1) : Nat) ∧ (∀ a k, a ≠ 15 → ¬ (a = 0 ∧ k = 35) → h'.1 a k = h.1 a k) ∧ h'.2 = h.2 ∧
    (∀ i k, i < 40 → k < 209 → h'.1 15 (209 * i + k) = if i = min 39 c then h.1 11 k else if c = 40 ∧ i < 39 then h.1 15 (209 * (i + 1) + k) else h.1 15 (209 * i + k)) := by
  unfold f_X12_remember
  by_cases q : h.1 0 35 = 40
  · have q40 : c = 40 := by rw [q] at hc; have : (40 : Int32).toInt = 40 := rfl; omega
    rw [if_pos q, lp_shift 8151 dFu 0 0 h (fuel_lt (by omega)) rfl rfl]
    show ∃ h', f_X12_remember_J50 (dPut (dCpy h 15 15 (0 + 209) 0 8151) 0 35 ((dCpy h 15 15 (0 + 209) 0 8151).1 0 35 - 1)) = some h' ∧ _
    have e35 : (dCpy h 15 15 (0 + 209) 0 8151).1 0 35 - 1 = 39 := by rw [dCpy_ne (by omega), q]; rfl
    rw [e35]
    unfold f_X12_remember_J50
    rw [lp_rem 209 dFu 0 39 0 _ (fuel_lt (by omega)) rfl rfl (by rw [dPut_at]; rfl) (by omega)]
    refine ⟨_, rfl, ?_, ?_, rfl, ?_⟩
    · rw [dPut_at, dCpy_ne (by omega), dPut_at, q40]
      rfl
    · intro a k h1 h2
      rw [dPut_ne h2, dCpy_ne h1, dPut_ne h2, dCpy_ne h1]
    · intro i k hi hk
      rw [dPut_ne (by omega), dCpy_r, q40]
      by_cases q1 : i = 39
      · rw [if_pos (by omega), if_pos (by omega), dPut_ne (by omega), dCpy_ne (by omega)]
        exact ixe _ (by omega)
      · rw [if_neg (by omega), if_neg (by omega), if_pos (by omega), dPut_ne (by omega), dCpy_r, if_pos (by omega)]
        exact ixe _ (by omega)
  · have q40 : c < 40 := by rw [i_eq, hc, show (40 : Int32).toInt = 40 from rfl] at q; omega
    rw [if_neg q]
    unfold f_X12_remember_J50
    rw [lp_rem 209 dFu 0 c 0 h (fuel_lt (by omega)) rfl rfl hc q40]
    refine ⟨_, rfl, ?_, ?_, rfl, ?_⟩
    · rw [dPut_at, dCpy_ne (by omega), i_add1 (by omega), hc]
      omega
    · intro a k h1 h2
      rw [dPut_ne h2, dCpy_ne h1]
    · intro i k hi hk
      rw [dPut_ne (by omega), dCpy_r]
      by_cases q1 : i = c
      · rw [if_pos (by omega), if_pos (by omega)]
        exact ixe _ (by omega)
      · rw [if_neg (by omega), if_neg (by omega), if_neg (by omega)]
theorem C_keep (h : dH) {c x : Nat} (hc : (h.1 70 0).toInt = c) (hc4 : c ≤ 40) (hx : (h.1 70 2).toInt = x) (hx4 : x < 40) : ∃ h' : dH, f_X0_keep h = some h' ∧ (h'.1 70 0).toInt = (min 40 (c + 1) : Nat) ∧ (h'.1 70 2).toInt = ((x + 1) % 40 : Nat) ∧ (∀ a k, a ≠ 70 → a ≠ 71 → h'.1 a k = h.1 a k) ∧ h'.2 = h.2 ∧
    (∀ j k, j < 40 → k < 28 → h'.1 71 (28 * j + k) = if j = x then h.1 67 k else h.1 71 (28 * j + k)) := by
  have k40 : (40 : Int32).toInt = 40 := rfl
  unfold f_X0_keep
  rw [C_save hx hx4, Option.bind_some]
  have e2 : (dCpy h 67 71 0 (28 * x) 28).1 70 2 = h.1 70 2 := dCpy_ne (by omega)
  rw [e2]
  have fin : ∀ z : Int32, z.toInt = ((x + 1) % 40 : Nat) → ∃ h' : dH, f_X0_keep_J37 z (dCpy h 67 71 0 (28 * x) 28) = some h' ∧ (h'.1 70 0).toInt = (min 40 (c + 1) : Nat) ∧ (h'.1 70 2).toInt = ((x + 1) % 40 : Nat) ∧ (∀ a k, a ≠ 70 → a ≠ 71 → h'.1 a k = h.1 a k) ∧ h'.2 = h.2 ∧ (∀ j k, j < 40 → k < 28 → h'.1 71 (28 * j + k) = if j = x then h.1 67 k else h.1 71 (28 * j + k)) := by
    intro z hz
    unfold f_X0_keep_J37
    rw [Option.bind_some]
    refine ⟨_, rfl, ?_, ?_, ?_, rfl, ?_⟩
    · rw [dPut_at, i_jmin, dPut_ne (by omega), dCpy_ne (by omega), i_add1 (by omega), hc, k40]
      omega
    · rw [dPut_ne (by omega), dPut_at, hz]
    · intro a k h1 h2
      rw [dPut_ne (by omega), dPut_ne (by omega), dCpy_ne h2]
    · intro j k hj hk
      rw [dPut_ne (by omega), dPut_ne (by omega), dCpy_r]
      by_cases q : j = x
      · rw [if_pos (by omega), if_pos q]
        exact ixe _ (by omega)
      · rw [if_neg (by omega), if_neg q]
  by_cases q : h.1 70 2 + 1 < 40
  · rw [if_pos q]
    rw [i_lt, i_add1 (by omega), k40] at q
    exact fin _ (by rw [i_add1 (by omega), hx]; omega)
  · rw [if_neg q]
    rw [i_lt, i_add1 (by omega), k40] at q
    exact fin _ (by rw [t0]; omega)
/-- kept, and the latest that is kept is how it stands -/
def Kp (K : Int) (hC hM : dH) : Prop := RelK K hC hM ∧ 0 < (hC.1 70 0).toInt ∧ uC (hC.1 71) (uSlot (dI (hC.1 70 0)) (dI (hC.1 70 2)) (dI (hC.1 70 0) - 1)) 6 = hC.1 67 6
theorem R_keep (R : RelK K hC hM) : ∃ hC' hM' : dH, f_X0_keep hC = some hC' ∧ f_X12_remember hM = some hM' ∧ Kp K hC' hM' ∧ (∀ a k, a ≠ 70 → a ≠ 71 → hC'.1 a k = hC.1 a k) ∧ (∀ a k, a ≠ 15 → ¬ (a = 0 ∧ k = 35) → hM'.1 a k = hM.1 a k) ∧ hM'.2 = hM.2 := by
  obtain ⟨u1, u2, u3, u4, u5⟩ := R.un
  have u21 := u2.1
  have u22 := u2.2
  have u31 := u3.1
  have u32 := u3.2
  have dn := dI_c u21
  have dx := dI_c u31
  obtain ⟨hC', e1, c1, c2, c3, c4, c5⟩ := C_keep hC (c := dI (hC.1 70 0)) (x := dI (hC.1 70 2)) (by omega) (by omega) (by omega) (by omega)
  obtain ⟨hM', e2, m1, m2, m3, m4⟩ := M_remember hM (c := dI (hC.1 70 0)) (by rw [← u1]; omega) (by omega)
  refine ⟨hC', hM', e1, e2, ?_, c3, m2, m3⟩
  have eqC : ∀ mk : Nat → Nat → Bool, (∀ k, mk 70 k = false) → (∀ k, mk 71 k = false) → eqOn mk hC hC' := fun mk h1 h2 a k hk => c3 a k (fun z => by rw [z, h1] at hk; cases hk) (fun z => by rw [z, h2] at hk; cases hk)
  have eqM : ∀ mk : Nat → Nat → Bool, (∀ k, mk 15 k = false) → mk 0 35 = false → eqOn mk hM hM' := fun mk h1 h2 a k hk => m2 a k (fun z => by rw [z, h1] at hk; cases hk) (fun z => by rw [z.1, z.2, h2] at hk; cases hk)
  have dn' : dI (hC'.1 70 0) = min 40 (dI (hC.1 70 0) + 1) := dI_of c1
  have dx' : dI (hC'.1 70 2) = (dI (hC.1 70 2) + 1) % 40 := dI_of c2
  have c32 : hC'.1 3 2 = hC.1 3 2 := c3 3 2 (by omega) (by omega)
  have c4r : hC'.1 4 = hC.1 4 := funext fun k => c3 4 k (by omega) (by omega)
  have c73 : hC'.1 73 = hC.1 73 := funext fun k => c3 73 k (by omega) (by omega)
  have c67 : hC'.1 67 = hC.1 67 := funext fun k => c3 67 k (by omega) (by omega)
  -- the slots
  have sTop : uSlot (dI (hC'.1 70 0)) (dI (hC'.1 70 2)) (dI (hC'.1 70 0) - 1) = dI (hC.1 70 2) := by rw [dn', dx']; unfold uSlot; omega
  have rTop : ∀ k, k < 28 → uC (hC'.1 71) (dI (hC.1 70 2)) k = hC.1 67 k := fun k hk => by
    show hC'.1 71 (28 * dI (hC.1 70 2) + k) = _
    rw [c5 _ k (by omega) hk, if_pos rfl]
  have mTop : ∀ k, k < 209 → uM (hM'.1 15) (dI (hC'.1 70 0) - 1) k = hM.1 11 k := fun k hk => by
    show hM'.1 15 (209 * (dI (hC'.1 70 0) - 1) + k) = _
    rw [m4 _ k (by omega) hk, if_pos (by omega)]
  -- an older one: which it was
  have old : ∀ i, i < dI (hC'.1 70 0) - 1 → ∃ i0 : Nat, (i0 : Int) < (hC.1 70 0).toInt ∧ uSlot (dI (hC'.1 70 0)) (dI (hC'.1 70 2)) i = uSlot (dI (hC.1 70 0)) (dI (hC.1 70 2)) i0 ∧ i0 = (if dI (hC.1 70 0) = 40 then i + 1 else i) := fun i hi => by
    refine ⟨_, ?_, ?_, rfl⟩
    · split <;> omega
    · rw [dn', dx']
      unfold uSlot
      split <;> omega
  have sNe : ∀ i, i < dI (hC'.1 70 0) - 1 → uSlot (dI (hC'.1 70 0)) (dI (hC'.1 70 2)) i ≠ dI (hC.1 70 2) ∧ uSlot (dI (hC'.1 70 0)) (dI (hC'.1 70 2)) i < 40 := fun i hi => by
    rw [dn'] at hi ⊢
    rw [dx']
    unfold uSlot
    omega
  have rOld : ∀ i, i < dI (hC'.1 70 0) - 1 → ∀ k, k < 28 → uC (hC'.1 71) (uSlot (dI (hC'.1 70 0)) (dI (hC'.1 70 2)) i) k = uC (hC.1 71) (uSlot (dI (hC'.1 70 0)) (dI (hC'.1 70 2)) i) k := fun i hi k hk => by
    obtain ⟨q1, q2⟩ := sNe i hi
    show hC'.1 71 (28 * uSlot (dI (hC'.1 70 0)) (dI (hC'.1 70 2)) i + k) = hC.1 71 (28 * uSlot (dI (hC'.1 70 0)) (dI (hC'.1 70 2)) i + k)
    rw [c5 _ k q2 hk, if_neg q1]
  have mOld : ∀ i, i < dI (hC'.1 70 0) - 1 → ∀ k, k < 209 → uM (hM'.1 15) i k = uM (hM.1 15) (if dI (hC.1 70 0) = 40 then i + 1 else i) k := fun i hi k hk => by
    show hM'.1 15 (209 * i + k) = hM.1 15 (209 * (if dI (hC.1 70 0) = 40 then i + 1 else i) + k)
    rw [m4 i k (by omega) hk, if_neg (by omega)]
    by_cases q : dI (hC.1 70 0) = 40
    · rw [if_pos q, if_pos (by omega)]
    · rw [if_neg q, if_neg (by omega)]
  have Rn : RelK K hC' hM' := by
    obtain ⟨R0, R2, R3, R4, R5, R6, R7, R8, R9, R10, R11⟩ := R
    refine ⟨Q1_e (eqC _ (fun _ => rfl) (fun _ => rfl)) (eqM _ (fun _ => rfl) rfl) R0, Q2_e (eqC _ (fun _ => rfl) (fun _ => rfl)) (eqM _ (fun _ => rfl) rfl) R2, Q3_e (eqC _ (fun _ => rfl) (fun _ => rfl)) (eqM _ (fun _ => rfl) rfl) R3, mOK_e (eqM _ (fun _ => rfl) rfl) (by rw [m3]) R4, Q5_e (eqC _ (fun _ => rfl) (fun _ => rfl)) (eqM _ (fun _ => rfl) rfl) R5, Q6_e (eqC _ (fun _ => rfl) (fun _ => rfl)) (eqM _ (fun _ => rfl) rfl) R6, ?_, Q8_e (eqC _ (fun _ => rfl) (fun _ => rfl)) (eqM _ (fun _ => rfl) rfl) R8, Q9_e (eqC _ (fun _ => rfl) (fun _ => rfl)) (eqM _ (fun _ => rfl) rfl) R9, Q10_e (eqC _ (fun _ => rfl) (fun _ => rfl)) (eqM _ (fun _ => rfl) rfl) R10, dXt_e (eqC _ (fun _ => rfl) (fun _ => rfl)) R11⟩
    rw [c32, c4r, c73, c67]
    refine ⟨by rw [i_eq, c1, m1], ⟨by omega, by omega⟩, ⟨by omega, by omega⟩, fun i hi => ?_, fun i hi e he => ?_⟩
    · by_cases q : i = dI (hC'.1 70 0) - 1
      · rw [q, sTop]
        exact ⟨sR_c rTop mTop R6.1, sW_c rTop R6.2.1, gR_c (fun _ _ => rfl) (rTop 6 (by omega)) mTop R6.2.2⟩
      · have hi' : i < dI (hC'.1 70 0) - 1 := by omega
        obtain ⟨i0, o1, o2, o3⟩ := old i hi'
        have w4 := u4 i0 o1
        rw [← o2] at w4
        have mo := mOld i hi'
        rw [← o3] at mo
        exact ⟨sR_c (rOld i hi') mo w4.1, sW_c (rOld i hi') w4.2.1, gR_c (fun _ _ => rfl) (rOld i hi' 6 (by omega)) mo w4.2.2⟩
    · by_cases q : i + 1 = dI (hC'.1 70 0)
      · rw [if_pos q] at he
        rw [show i = dI (hC'.1 70 0) - 1 by omega, sTop, rTop 6 (by omega), he]
        omega
      · rw [if_neg q] at he
        have hi' : i < dI (hC'.1 70 0) - 1 := by omega
        obtain ⟨i0, o1, o2, o3⟩ := old i hi'
        have w5 := u5 i0 o1
        rw [rOld i hi' 6 (by omega), o2]
        refine w5 e ?_
        by_cases q2 : i + 1 = dI (hC'.1 70 0) - 1
        · rw [q2, sTop, rTop 6 (by omega)] at he
          rw [he, if_pos]
          rw [o3]
          split <;> omega
        · have hi2 : i + 1 < dI (hC'.1 70 0) - 1 := by omega
          obtain ⟨i1, p1, p2, p3⟩ := old (i + 1) hi2
          rw [rOld (i + 1) hi2 6 (by omega), p2] at he
          have e01 : i1 = i0 + 1 := by
            rw [o3, p3]
            split <;> omega
          rw [he, e01, if_neg]
          rw [o3]
          split <;> omega
  refine ⟨Rn, by omega, ?_⟩
  rw [sTop, rTop 6 (by omega), c67]
end KP
