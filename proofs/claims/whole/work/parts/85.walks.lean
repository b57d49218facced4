/-! PURE: he walks -/
section WK
variable {n : Nat} {hC hM h2 : dH} {x : Int32}
theorem Ct_M {h : dH} (C : Ct hC hM) (e7 : ∀ k, h.1 7 k = hM.1 7 k) (e5 : ∀ k, h.1 5 k = hM.1 5 k) (e24 : h.1 0 24 = hM.1 0 24) : Ct hC h := by
  have m7 : h.1 7 = hM.1 7 := funext e7
  have m5 : h.1 5 = hM.1 5 := funext e5
  unfold Ct at C ⊢
  rw [m7, m5, e24]
  exact C
theorem Ct_C {h : dH} (C : Ct hC hM) (e : ∀ a k, a ≤ 21 → h.1 a k = hC.1 a k) : Ct h hM := Q2_e (fun a k hk => e a k (by
    by_cases q : a ≤ 21
    · exact q
    · exfalso
      have h1 : Nat.ble a 12 = false := by rw [Bool.eq_false_iff]; intro z; rw [Nat.ble_eq] at z; omega
      have h2 : Nat.ble a 21 = false := by rw [Bool.eq_false_iff]; intro z; rw [Nat.ble_eq] at z; omega
      have h3 : (a == 3) = false := by rw [Bool.eq_false_iff]; intro z; rw [Nat.beq_eq_true_eq] at z; omega
      have h4 : (a == 4) = false := by rw [Bool.eq_false_iff]; intro z; rw [Nat.beq_eq_true_eq] at z; omega
      unfold kC2 at hk
      rw [h1, h2, h3, h4] at hk
      simp at hk)) eqOn_rf C
theorem M_walks (C : Ct hC hM) (hx : Pl hC x) (w : Nat) (hw : w = 11 ∨ w = 12) (hat : Pl' hC (hM.1 w 23 - 1)) {co v : Int32} (e : f_X12_trouble w x (hC.1 (6 + dI x) 3) co hM = some (v, h2)) (g : fM hM h2) :
    ∃ h3 : dH, f_X12_walks w x co hM = some (v, h3) ∧ h3.1 w 22 = hM.1 w 22 + wF hC (hM.1 w 23 - 1) x ∧ h3.1 w 21 = hM.1 w 21 + (wF hC (hM.1 w 23 - 1) x + 1) ∧ h3.1 w 23 = x + 1 ∧
      h3.1 w 24 = (if hM.1 w (3 * dI x + 2) = 0 then hM.1 w 24 + hC.1 (6 + dI x) 3 else hM.1 w 24) ∧ h3.1 w 25 = (if hM.1 w (3 * dI x + 2) = 0 then hM.1 w 25 + hC.1 (6 + dI x) 3 else hM.1 w 25) ∧
      h3.1 w 26 = hM.1 w 26 ||| (1 <<< (x &&& 31)) ∧ h3.1 w (3 * dI x) = hM.1 w (3 * dI x) + v ∧ h3.1 w (3 * dI x + 2) = hM.1 w (3 * dI x + 2) + 1 ∧
      (∀ k, (k < 21 ∨ 26 < k) → k ≠ 3 * dI x → k ≠ 3 * dI x + 2 → h3.1 w k = hM.1 w k) ∧ (∀ a k, a ≠ w → h3.1 a k = h2.1 a k) ∧ h3.2 = h2.2 := by
  have hi := hx.in7 C
  have hn := hx.nat C
  have hp : dI x < 7 := hn.2
  have wr : ∀ k, h2.1 w k = hM.1 w k := fun k => g.1 w k (by omega) (by omega) (by omega)
  have C2 : Ct hC h2 := Ct_M C (fun k => g.1 7 k (by omega) (by omega) (by omega)) (fun k => g.1 5 k (by omega) (by omega) (by omega)) (g.2.1 24 (by omega))
  unfold f_X12_walks
  rw [M_of C hx in3, Option.bind_some, show dI (3 : Int32) = 3 from rfl, e, Option.bind_some]
  have ef : f_X12_far w x h2 = some (wF hC (hM.1 w 23 - 1) x) := by
    unfold f_X12_far f_X12_where
    rw [wr, M_between C2 hat hx]
    rfl
  rw [ef]
  simp only [Option.bind_some]
  rw [if_pos (ix0 hi).2, if_pos (ix0 hi).2, if_pos (ix2 hi).2, (ix0 hi).1, (ix2 hi).1]
  have ev : ∀ h : dH, (∀ a k, a ≠ w → h.1 a k = h2.1 a k) → f_X12_of x 3 h = some (hC.1 (6 + dI x) 3) := fun h hh => M_of (Ct_M C2 (fun k => hh 7 k (by omega)) (fun k => hh 5 k (by omega)) (hh 0 24 (by omega))) hx in3
  generalize eA : dPut (dPut (dPut (dPut h2 w 22 (h2.1 w 22 + wF hC (hM.1 w 23 - 1) x)) w 21 ((dPut h2 w 22 (h2.1 w 22 + wF hC (hM.1 w 23 - 1) x)).1 w 21 + (wF hC (hM.1 w 23 - 1) x + 1))) w 23 (x + 1)) w (3 * dI x) ((dPut (dPut (dPut h2 w 22 (h2.1 w 22 + wF hC (hM.1 w 23 - 1) x)) w 21 ((dPut h2 w 22 (h2.1 w 22 + wF hC (hM.1 w 23 - 1) x)).1 w 21 + (wF hC (hM.1 w 23 - 1) x + 1))) w 23 (x + 1)).1 w (3 * dI x) + v) = A
  have Aw : ∀ a k, a ≠ w → A.1 a k = h2.1 a k := fun a k ha => by rw [← eA, dPut_ne (by omega), dPut_ne (by omega), dPut_ne (by omega), dPut_ne (by omega)]
  have A22 : A.1 w 22 = hM.1 w 22 + wF hC (hM.1 w 23 - 1) x := by rw [← eA, dPut_ne (by omega), dPut_ne (by omega), dPut_ne (by omega), dPut_at, wr]
  have A21 : A.1 w 21 = hM.1 w 21 + (wF hC (hM.1 w 23 - 1) x + 1) := by rw [← eA, dPut_ne (by omega), dPut_ne (by omega), dPut_at, dPut_ne (by omega), wr]
  have A23 : A.1 w 23 = x + 1 := by rw [← eA, dPut_ne (by omega), dPut_at]
  have A3 : A.1 w (3 * dI x) = hM.1 w (3 * dI x) + v := by rw [← eA, dPut_at, dPut_ne (by omega), dPut_ne (by omega), dPut_ne (by omega), wr]
  have Ak : ∀ k, k ≠ 21 → k ≠ 22 → k ≠ 23 → k ≠ 3 * dI x → A.1 w k = hM.1 w k := fun k h1 h2 h3 h4 => by rw [← eA, dPut_ne (by omega), dPut_ne (by omega), dPut_ne (by omega), dPut_ne (by omega), wr]
  have A2 : A.2 = h2.2 := by rw [← eA]; rfl
  rw [Ak (3 * dI x + 2) (by omega) (by omega) (by omega) (by omega)]
  have fin : ∀ B : dH, (∀ a k, a ≠ w → B.1 a k = h2.1 a k) → f_X12_walks_J98 w x v B = some (v, dPut (dPut B w (3 * dI x + 2) (B.1 w (3 * dI x + 2) + 1)) w 26 ((dPut B w (3 * dI x + 2) (B.1 w (3 * dI x + 2) + 1)).1 w 26 ||| (1 <<< (x &&& 31)))) := fun B hB => by
    unfold f_X12_walks_J98
    rw [if_pos (ix2 hi).2, if_pos (ix2 hi).2, Option.bind_some, (ix2 hi).1]
  by_cases q : hM.1 w (3 * dI x + 2) = 0
  · rw [if_pos q, if_pos q, if_pos q, ev A Aw, Option.bind_some]
    have Bw : ∀ a k, a ≠ w → (dPut A w 24 (A.1 w 24 + hC.1 (6 + dI x) 3)).1 a k = h2.1 a k := fun a k ha => by rw [dPut_ne (by omega), Aw a k ha]
    rw [ev _ Bw, Option.bind_some, fin _ (fun a k ha => by rw [dPut_ne (by omega), Bw a k ha])]
    refine ⟨_, rfl, ?_, ?_, ?_, ?_, ?_, ?_, ?_, ?_, ?_, ?_, ?_⟩
    · rw [dPut_ne (by omega), dPut_ne (by omega), dPut_ne (by omega), dPut_ne (by omega), A22]
    · rw [dPut_ne (by omega), dPut_ne (by omega), dPut_ne (by omega), dPut_ne (by omega), A21]
    · rw [dPut_ne (by omega), dPut_ne (by omega), dPut_ne (by omega), dPut_ne (by omega), A23]
    · rw [dPut_ne (by omega), dPut_ne (by omega), dPut_ne (by omega), dPut_at, Ak 24 (by omega) (by omega) (by omega) (by omega)]
    · rw [dPut_ne (by omega), dPut_ne (by omega), dPut_at, dPut_ne (by omega), Ak 25 (by omega) (by omega) (by omega) (by omega)]
    · rw [dPut_at, dPut_ne (by omega), dPut_ne (by omega), dPut_ne (by omega), Ak 26 (by omega) (by omega) (by omega) (by omega)]
    · rw [dPut_ne (by omega), dPut_ne (by omega), dPut_ne (by omega), dPut_ne (by omega), A3]
    · rw [dPut_ne (by omega), dPut_at, dPut_ne (by omega), dPut_ne (by omega), Ak _ (by omega) (by omega) (by omega) (by omega)]
    · intro k h1 h2 h3
      rw [dPut_ne (by omega), dPut_ne (by omega), dPut_ne (by omega), dPut_ne (by omega), Ak _ (by omega) (by omega) (by omega) (by omega)]
    · intro a k ha
      rw [dPut_ne (by omega), dPut_ne (by omega), dPut_ne (by omega), dPut_ne (by omega), Aw a k ha]
    · exact A2
  · rw [if_neg q, if_neg q, if_neg q, fin _ Aw]
    refine ⟨_, rfl, ?_, ?_, ?_, ?_, ?_, ?_, ?_, ?_, ?_, ?_, ?_⟩
    · rw [dPut_ne (by omega), dPut_ne (by omega), A22]
    · rw [dPut_ne (by omega), dPut_ne (by omega), A21]
    · rw [dPut_ne (by omega), dPut_ne (by omega), A23]
    · rw [dPut_ne (by omega), dPut_ne (by omega), Ak 24 (by omega) (by omega) (by omega) (by omega)]
    · rw [dPut_ne (by omega), dPut_ne (by omega), Ak 25 (by omega) (by omega) (by omega) (by omega)]
    · rw [dPut_at, dPut_ne (by omega), Ak 26 (by omega) (by omega) (by omega) (by omega)]
    · rw [dPut_ne (by omega), dPut_ne (by omega), A3]
    · rw [dPut_ne (by omega), dPut_at, Ak _ (by omega) (by omega) (by omega) (by omega)]
    · intro k h1 h2 h3
      rw [dPut_ne (by omega), dPut_ne (by omega), Ak _ (by omega) (by omega) (by omega) (by omega)]
    · intro a k ha
      rw [dPut_ne (by omega), dPut_ne (by omega), Aw a k ha]
    · exact A2
theorem C_comeTo (C : Ct hC hM) (hx : Pl hC x) (t : Nat) (ht : t = 66 ∨ t = 68) (hat : Pl' hC (hC.1 (t + 1) 0)) {v : Int32} (e : f_X8_troubleThen t x (hC.1 (t + 1) 1 + wF hC (hC.1 (t + 1) 0) x) (hC.1 (t + 1) 2 + wF hC (hC.1 (t + 1) 0) x) 0 hC = some (v, h2)) (g : fC hC h2) :
    ∃ h3 : dH, f_X8_comeTo t x hC = some (v, h3) ∧ h3.1 (t + 1) 2 = hC.1 (t + 1) 2 + wF hC (hC.1 (t + 1) 0) x ∧ h3.1 (t + 1) 1 = hC.1 (t + 1) 1 + (wF hC (hC.1 (t + 1) 0) x + 1) ∧ h3.1 (t + 1) 0 = x ∧
      h3.1 (t + 1) 3 = (if hC.1 (t + 1) (7 + dI x) = 0 then hC.1 (t + 1) 3 + hC.1 (6 + dI x) 3 else hC.1 (t + 1) 3) ∧ h3.1 (t + 1) 4 = (if hC.1 (t + 1) (7 + dI x) = 0 then hC.1 (t + 1) 4 + hC.1 (6 + dI x) 3 else hC.1 (t + 1) 4) ∧
      h3.1 (t + 1) 5 = hC.1 (t + 1) 5 ||| (1 <<< (x &&& 31)) ∧ h3.1 (t + 1) (14 + dI x) = hC.1 (t + 1) (14 + dI x) + v ∧ h3.1 (t + 1) (7 + dI x) = hC.1 (t + 1) (7 + dI x) + 1 ∧
      (∀ k, 5 < k → k ≠ 7 + dI x → k ≠ 14 + dI x → h3.1 (t + 1) k = hC.1 (t + 1) k) ∧ (∀ a k, a ≠ t + 1 → h3.1 a k = h2.1 a k) ∧ h3.2 = h2.2 := by
  have hi := hx.in7 C
  have hn := hx.nat C
  have hp : dI x < 7 := hn.2
  have wr : ∀ k, h2.1 (t + 1) k = hC.1 (t + 1) k := fun k => g.1 (t + 1) k (by omega) (by omega)
  unfold f_X8_comeTo
  rw [C_pl hx, if_pos rfl, C_apart C hat hx.p', Option.bind_some, e, Option.bind_some]
  simp only [Option.bind_some]
  rw [if_pos (ixk7 hi).2, (ixk7 hi).1]
  have ev : ∀ h : dH, (∀ a k, a ≠ t + 1 → h.1 a k = h2.1 a k) → f_X1_toldOf 3 x 3 h = some (hC.1 (6 + dI x) 3) := fun h hh => by
    have e21 : ∀ a k, a ≤ 21 → h.1 a k = hC.1 a k := fun a k ha => by rw [hh a k (by omega), g.1 a k (by omega) (by omega)]
    have Ch : Ct h hM := Ct_C C e21
    have xh : Pl h x := by show 0 ≤ x.toInt ∧ x.toInt < (h.1 3 2).toInt; rw [e21 3 2 (by omega)]; exact hx
    rw [C_toldOf Ch xh in3, e21 _ _ (by omega)]
    rfl
  generalize eA : dPut (dPut (dPut h2 (t + 1) 0 x) (t + 1) 1 ((dPut h2 (t + 1) 0 x).1 (t + 1) 1 + (wF hC (hC.1 (t + 1) 0) x + 1))) (t + 1) 2 ((dPut (dPut h2 (t + 1) 0 x) (t + 1) 1 ((dPut h2 (t + 1) 0 x).1 (t + 1) 1 + (wF hC (hC.1 (t + 1) 0) x + 1))).1 (t + 1) 2 + wF hC (hC.1 (t + 1) 0) x) = A
  have Aw : ∀ a k, a ≠ t + 1 → A.1 a k = h2.1 a k := fun a k ha => by rw [← eA, dPut_ne (by omega), dPut_ne (by omega), dPut_ne (by omega)]
  have A2' : A.1 (t + 1) 2 = hC.1 (t + 1) 2 + wF hC (hC.1 (t + 1) 0) x := by rw [← eA, dPut_at, dPut_ne (by omega), dPut_ne (by omega), wr]
  have A1 : A.1 (t + 1) 1 = hC.1 (t + 1) 1 + (wF hC (hC.1 (t + 1) 0) x + 1) := by rw [← eA, dPut_ne (by omega), dPut_at, dPut_ne (by omega), wr]
  have A0 : A.1 (t + 1) 0 = x := by rw [← eA, dPut_ne (by omega), dPut_ne (by omega), dPut_at]
  have Ak : ∀ k, 2 < k → A.1 (t + 1) k = hC.1 (t + 1) k := fun k hk => by rw [← eA, dPut_ne (by omega), dPut_ne (by omega), dPut_ne (by omega), wr]
  have A2 : A.2 = h2.2 := by rw [← eA]; rfl
  rw [Ak (7 + dI x) (by omega)]
  have fin : ∀ B : dH, f_X8_comeTo_J128 t x v B = some (v, dPut (dPut (dPut B (t + 1) (7 + dI x) (B.1 (t + 1) (7 + dI x) + 1)) (t + 1) (14 + dI x) ((dPut B (t + 1) (7 + dI x) (B.1 (t + 1) (7 + dI x) + 1)).1 (t + 1) (14 + dI x) + v)) (t + 1) 5 ((dPut (dPut B (t + 1) (7 + dI x) (B.1 (t + 1) (7 + dI x) + 1)) (t + 1) (14 + dI x) ((dPut B (t + 1) (7 + dI x) (B.1 (t + 1) (7 + dI x) + 1)).1 (t + 1) (14 + dI x) + v)).1 (t + 1) 5 ||| (1 <<< (x &&& 31)))) := fun B => by
    unfold f_X8_comeTo_J128
    rw [if_pos (ixk7 hi).2, if_pos (ixk7 hi).2, Option.bind_some, if_pos (ixk14 hi).2, if_pos (ixk14 hi).2, Option.bind_some, (ixk7 hi).1, (ixk14 hi).1]
  by_cases q : hC.1 (t + 1) (7 + dI x) = 0
  · rw [if_pos q, if_pos q, if_pos q, ev A Aw, Option.bind_some]
    have Bw : ∀ a k, a ≠ t + 1 → (dPut A (t + 1) 3 (A.1 (t + 1) 3 + hC.1 (6 + dI x) 3)).1 a k = h2.1 a k := fun a k ha => by rw [dPut_ne (by omega), Aw a k ha]
    rw [ev _ Bw, Option.bind_some, fin]
    refine ⟨_, rfl, ?_, ?_, ?_, ?_, ?_, ?_, ?_, ?_, ?_, ?_, ?_⟩
    · rw [dPut_ne (by omega), dPut_ne (by omega), dPut_ne (by omega), dPut_ne (by omega), dPut_ne (by omega), A2']
    · rw [dPut_ne (by omega), dPut_ne (by omega), dPut_ne (by omega), dPut_ne (by omega), dPut_ne (by omega), A1]
    · rw [dPut_ne (by omega), dPut_ne (by omega), dPut_ne (by omega), dPut_ne (by omega), dPut_ne (by omega), A0]
    · rw [dPut_ne (by omega), dPut_ne (by omega), dPut_ne (by omega), dPut_ne (by omega), dPut_at, Ak 3 (by omega)]
    · rw [dPut_ne (by omega), dPut_ne (by omega), dPut_ne (by omega), dPut_at, dPut_ne (by omega), Ak 4 (by omega)]
    · rw [dPut_at, dPut_ne (by omega), dPut_ne (by omega), dPut_ne (by omega), dPut_ne (by omega), Ak 5 (by omega)]
    · rw [dPut_ne (by omega), dPut_at, dPut_ne (by omega), dPut_ne (by omega), dPut_ne (by omega), Ak _ (by omega)]
    · rw [dPut_ne (by omega), dPut_ne (by omega), dPut_at, dPut_ne (by omega), dPut_ne (by omega), Ak _ (by omega)]
    · intro k h1 h2 h3
      rw [dPut_ne (by omega), dPut_ne (by omega), dPut_ne (by omega), dPut_ne (by omega), dPut_ne (by omega), Ak _ (by omega)]
    · intro a k ha
      rw [dPut_ne (by omega), dPut_ne (by omega), dPut_ne (by omega), dPut_ne (by omega), dPut_ne (by omega), Aw a k ha]
    · exact A2
  · rw [if_neg q, if_neg q, if_neg q, fin]
    refine ⟨_, rfl, ?_, ?_, ?_, ?_, ?_, ?_, ?_, ?_, ?_, ?_, ?_⟩
    · rw [dPut_ne (by omega), dPut_ne (by omega), dPut_ne (by omega), A2']
    · rw [dPut_ne (by omega), dPut_ne (by omega), dPut_ne (by omega), A1]
    · rw [dPut_ne (by omega), dPut_ne (by omega), dPut_ne (by omega), A0]
    · rw [dPut_ne (by omega), dPut_ne (by omega), dPut_ne (by omega), Ak 3 (by omega)]
    · rw [dPut_ne (by omega), dPut_ne (by omega), dPut_ne (by omega), Ak 4 (by omega)]
    · rw [dPut_at, dPut_ne (by omega), dPut_ne (by omega), Ak 5 (by omega)]
    · rw [dPut_ne (by omega), dPut_at, dPut_ne (by omega), Ak _ (by omega)]
    · rw [dPut_ne (by omega), dPut_ne (by omega), dPut_at, Ak _ (by omega)]
    · intro k h1 h2 h3
      rw [dPut_ne (by omega), dPut_ne (by omega), dPut_ne (by omega), Ak _ (by omega)]
    · intro a k ha
      rw [dPut_ne (by omega), dPut_ne (by omega), dPut_ne (by omega), Aw a k ha]
    · exact A2
end WK
