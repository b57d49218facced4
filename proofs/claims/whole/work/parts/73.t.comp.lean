/-! PURE: the relation, piece by piece -/
def eqOn (mk : Nat → Nat → Bool) (h h' : dH) : Prop := ∀ a k : Nat, mk a k = true → h'.1 a k = h.1 a k
theorem eqOn_rf {mk : Nat → Nat → Bool} {h : dH} : eqOn mk h h := fun _ _ _ => rfl
theorem eqOn_tr {mk : Nat → Nat → Bool} {h h2 h3 : dH} (a : eqOn mk h h2) (b : eqOn mk h2 h3) : eqOn mk h h3 := fun x k e => (b x k e).trans (a x k e)
theorem eqOn_put {mk : Nat → Nat → Bool} {h : dH} {a k : Nat} {v : Int32} (e : mk a k = false) : eqOn mk h (dPut h a k v) := fun b j hb => dPut_ne (fun z => by rw [z.1, z.2, e] at hb; cases hb)
theorem eqOn_pt {mk : Nat → Nat → Bool} {h h2 : dH} {a k : Nat} {v : Int32} (q : eqOn mk h h2) (e : mk a k = false) : eqOn mk h (dPut h2 a k v) := eqOn_tr q (eqOn_put e)
theorem dCpy_ne {h : dH} {a b sp dp n c j : Nat} (e : c ≠ b) : (dCpy h a b sp dp n).1 c j = h.1 c j := if_neg e
theorem eqOn_cpy {mk : Nat → Nat → Bool} {h h2 : dH} {a b sp dp n : Nat} (q : eqOn mk h h2) (e : ∀ k, mk b k = false) : eqOn mk h (dCpy h2 a b sp dp n) := eqOn_tr q (fun c j hc => dCpy_ne (fun z => by rw [z, e] at hc; cases hc))
def kC1 (a k : Nat) : Bool := (a == 1 && k == 1) || a == 2
def kM1 (a k : Nat) : Bool := (a == 0 && k == 6) || a == 1
def Q1 (hC hM : dH) : Prop := rTape (hC.1 1 1) (hC.1 2) (hM.1 0 6) (hM.1 1)
theorem Q1_e {hC hM hC' hM' : dH} (eC : eqOn kC1 hC hC') (eM : eqOn kM1 hM hM') (R : Q1 hC hM) : Q1 hC' hM' := by
  have c2 : hC'.1 2 = hC.1 2 := funext fun k => eC 2 k rfl
  have m1 : hM'.1 1 = hM.1 1 := funext fun k => eM 1 k rfl
  unfold Q1 at R ⊢
  rw [eC 1 1 rfl, c2, eM 0 6 rfl, m1]
  exact R
def kC2 (a k : Nat) : Bool := (a == 3 && k == 2) || a == 4 || (Nat.ble 6 a && Nat.ble a 12) || (Nat.ble 14 a && Nat.ble a 21)
def kM2 (a k : Nat) : Bool := (a == 0 && k == 24) || a == 5 || a == 7
def Q2 (hC hM : dH) : Prop := rCity (hC.1 3 2) (hC.1 4) (cSp hC) (cWy hC) (hM.1 0 24) (hM.1 5) (hM.1 7)
theorem Q2_e {hC hM hC' hM' : dH} (eC : eqOn kC2 hC hC') (eM : eqOn kM2 hM hM') (R : Q2 hC hM) : Q2 hC' hM' := by
  have c4 : hC'.1 4 = hC.1 4 := funext fun k => eC 4 k rfl
  have gcSp : cSp hC' = cSp hC := funext fun p => funext fun k => by
    unfold cSp
    by_cases hp : p < 7
    · rw [if_pos hp, if_pos hp]
      rcases (show p = 0 ∨ p = 1 ∨ p = 2 ∨ p = 3 ∨ p = 4 ∨ p = 5 ∨ p = 6 by omega) with rfl | rfl | rfl | rfl | rfl | rfl | rfl <;> exact eC _ k rfl
    · rw [if_neg hp, if_neg hp]
  have gcWy : cWy hC' = cWy hC := funext fun p => funext fun k => by
    unfold cWy
    by_cases hp : p < 8
    · rw [if_pos hp, if_pos hp]
      rcases (show p = 0 ∨ p = 1 ∨ p = 2 ∨ p = 3 ∨ p = 4 ∨ p = 5 ∨ p = 6 ∨ p = 7 by omega) with rfl | rfl | rfl | rfl | rfl | rfl | rfl | rfl <;> exact eC _ k rfl
    · rw [if_neg hp, if_neg hp]
  have m5 : hM'.1 5 = hM.1 5 := funext fun k => eM 5 k rfl
  have m7 : hM'.1 7 = hM.1 7 := funext fun k => eM 7 k rfl
  unfold Q2 at R ⊢
  rw [eC 3 2 rfl, c4, gcSp, gcWy, eM 0 24 rfl, m5, m7]
  exact R
def kC3 (a k : Nat) : Bool := (a == 42 && k == 1) || (a == 42 && k == 2) || (Nat.ble 45 a && Nat.ble a 48) || a == 50
def kM3 (a k : Nat) : Bool := (a == 0 && k == 7) || (a == 0 && k == 30) || a == 2 || a == 3
def Q3 (hC hM : dH) : Prop := rLaws (hC.1 42 1) (hC.1 42 2) (cCo hC) (hC.1 50) (hM.1 0 7) (hM.1 0 30) (hM.1 2) (hM.1 3)
theorem Q3_e {hC hM hC' hM' : dH} (eC : eqOn kC3 hC hC') (eM : eqOn kM3 hM hM') (R : Q3 hC hM) : Q3 hC' hM' := by
  have gcCo : cCo hC' = cCo hC := funext fun p => funext fun k => by
    unfold cCo
    by_cases hp : p < 4
    · rw [if_pos hp, if_pos hp]
      rcases (show p = 0 ∨ p = 1 ∨ p = 2 ∨ p = 3 by omega) with rfl | rfl | rfl | rfl <;> exact eC _ k rfl
    · rw [if_neg hp, if_neg hp]
  have c50 : hC'.1 50 = hC.1 50 := funext fun k => eC 50 k rfl
  have m2 : hM'.1 2 = hM.1 2 := funext fun k => eM 2 k rfl
  have m3 : hM'.1 3 = hM.1 3 := funext fun k => eM 3 k rfl
  unfold Q3 at R ⊢
  rw [eC 42 1 rfl, eC 42 2 rfl, gcCo, c50, eM 0 7 rfl, eM 0 30 rfl, m2, m3]
  exact R
def kC6 (a k : Nat) : Bool := (a == 3 && k == 2) || a == 4 || a == 67 || a == 73
def kM6 (a k : Nat) : Bool := a == 11
def Q6 (K : Int) (hC hM : dH) : Prop := sR (hC.1 67) (hM.1 11) ∧ sW (hC.1 3 2) (hC.1 4) K (hC.1 67) ∧ gR (hC.1 73) (hC.1 67) (hM.1 11)
theorem Q6_e {K : Int} {hC hM hC' hM' : dH} (eC : eqOn kC6 hC hC') (eM : eqOn kM6 hM hM') (R : Q6 K hC hM) : Q6 K hC' hM' := by
  have c4 : hC'.1 4 = hC.1 4 := funext fun k => eC 4 k rfl
  have c67 : hC'.1 67 = hC.1 67 := funext fun k => eC 67 k rfl
  have c73 : hC'.1 73 = hC.1 73 := funext fun k => eC 73 k rfl
  have m11 : hM'.1 11 = hM.1 11 := funext fun k => eM 11 k rfl
  unfold Q6 at R ⊢
  rw [eC 3 2 rfl, c4, c67, c73, m11]
  exact R
def kC7 (a k : Nat) : Bool := (a == 3 && k == 2) || a == 4 || a == 67 || a == 73 || (a == 70 && k == 0) || (a == 70 && k == 2) || a == 71
def kM7 (a k : Nat) : Bool := (a == 0 && k == 35) || a == 15
def Q7 (K : Int) (hC hM : dH) : Prop := rUndo (hC.1 3 2) (hC.1 4) K (hC.1 73) (hC.1 70 0) (hC.1 70 2) (hC.1 71) (hC.1 67) (hM.1 0 35) (hM.1 15)
theorem Q7_e {K : Int} {hC hM hC' hM' : dH} (eC : eqOn kC7 hC hC') (eM : eqOn kM7 hM hM') (R : Q7 K hC hM) : Q7 K hC' hM' := by
  have c4 : hC'.1 4 = hC.1 4 := funext fun k => eC 4 k rfl
  have c67 : hC'.1 67 = hC.1 67 := funext fun k => eC 67 k rfl
  have c73 : hC'.1 73 = hC.1 73 := funext fun k => eC 73 k rfl
  have c71 : hC'.1 71 = hC.1 71 := funext fun k => eC 71 k rfl
  have m15 : hM'.1 15 = hM.1 15 := funext fun k => eM 15 k rfl
  unfold Q7 at R ⊢
  rw [eC 3 2 rfl, c4, c67, c73, eC 70 0 rfl, eC 70 2 rfl, c71, eM 0 35 rfl, m15]
  exact R
def kC8 (a k : Nat) : Bool := (a == 3 && k == 2) || a == 4 || (a == 0 && k == 15) || a == 74 || a == 76
def kM8 (a k : Nat) : Bool := (a == 0 && k == 54) || a == 23
def Q8 (K : Int) (hC hM : dH) : Prop := rImage (hC.1 3 2) (hC.1 4) K (hC.1 0 15) (hM.1 0 54) (hC.1 74) (hC.1 76) (hM.1 23)
theorem Q8_e {K : Int} {hC hM hC' hM' : dH} (eC : eqOn kC8 hC hC') (eM : eqOn kM8 hM hM') (R : Q8 K hC hM) : Q8 K hC' hM' := by
  have c4 : hC'.1 4 = hC.1 4 := funext fun k => eC 4 k rfl
  have c74 : hC'.1 74 = hC.1 74 := funext fun k => eC 74 k rfl
  have c76 : hC'.1 76 = hC.1 76 := funext fun k => eC 76 k rfl
  have m23 : hM'.1 23 = hM.1 23 := funext fun k => eM 23 k rfl
  unfold Q8 at R ⊢
  rw [eC 3 2 rfl, c4, eC 0 15 rfl, c74, c76, eM 0 54 rfl, m23]
  exact R
def kC9 (a k : Nat) : Bool := (a == 3 && k == 2) || (a == 77 && k == 0) || a == 78 || a == 79 || a == 80
def kM9 (a k : Nat) : Bool := (a == 0 && k == 47) || a == 17 || a == 18 || a == 21
def Q9 (hC hM : dH) : Prop := rPuts (hC.1 3 2) (hC.1 77 0) (hM.1 0 47) (hC.1 78) (hC.1 79) (hC.1 80) (hM.1 17) (hM.1 18) (hM.1 21)
theorem Q9_e {hC hM hC' hM' : dH} (eC : eqOn kC9 hC hC') (eM : eqOn kM9 hM hM') (R : Q9 hC hM) : Q9 hC' hM' := by
  have c78 : hC'.1 78 = hC.1 78 := funext fun k => eC 78 k rfl
  have c79 : hC'.1 79 = hC.1 79 := funext fun k => eC 79 k rfl
  have c80 : hC'.1 80 = hC.1 80 := funext fun k => eC 80 k rfl
  have m17 : hM'.1 17 = hM.1 17 := funext fun k => eM 17 k rfl
  have m18 : hM'.1 18 = hM.1 18 := funext fun k => eM 18 k rfl
  have m21 : hM'.1 21 = hM.1 21 := funext fun k => eM 21 k rfl
  unfold Q9 at R ⊢
  rw [eC 3 2 rfl, eC 77 0 rfl, c78, c79, c80, eM 0 47 rfl, m17, m18, m21]
  exact R
def kC10 (a k : Nat) : Bool := (a == 0 && k == 16)
def kM10 (a k : Nat) : Bool := (a == 0 && k == 31)
def Q10 (hC hM : dH) : Prop := hC.1 0 16 = hM.1 0 31 ∧ bt 0 9 (hC.1 0 16)
theorem Q10_e {hC hM hC' hM' : dH} (eC : eqOn kC10 hC hC') (eM : eqOn kM10 hM hM') (R : Q10 hC hM) : Q10 hC' hM' := by
  unfold Q10 at R ⊢
  rw [eC 0 16 rfl, eM 0 31 rfl]
  exact R
def kC5 (a k : Nat) : Bool := (a == 52 && k == 0) || (Nat.ble 54 a && Nat.ble a 57) || (Nat.ble 60 a && Nat.ble a 63) || a == 65
def kM5 (a k : Nat) : Bool := (a == 0 && k == 26) || (a == 9 && Nat.ble k 127) || (a == 10 && Nat.ble k 3)
def Q5 (hC hM : dH) : Prop := rDays (hC.1 52 0) (hM.1 0 26) (cWh hC) (cDg hC) (hC.1 65) (hM.1 9) (hM.1 10)
theorem Q5_e {hC hM hC' hM' : dH} (eC : eqOn kC5 hC hC') (eM : eqOn kM5 hM hM') (R : Q5 hC hM) : Q5 hC' hM' := by
  have c65 : hC'.1 65 = hC.1 65 := funext fun k => eC 65 k rfl
  have ch : cWh hC' = cWh hC := funext fun p => funext fun k => by
    unfold cWh
    by_cases hp : p < 4
    · rw [if_pos hp, if_pos hp]
      rcases (show p = 0 ∨ p = 1 ∨ p = 2 ∨ p = 3 by omega) with rfl | rfl | rfl | rfl <;> exact eC _ k rfl
    · rw [if_neg hp, if_neg hp]
  have cd : cDg hC' = cDg hC := funext fun p => funext fun k => by
    unfold cDg
    by_cases hp : p < 4
    · rw [if_pos hp, if_pos hp]
      rcases (show p = 0 ∨ p = 1 ∨ p = 2 ∨ p = 3 by omega) with rfl | rfl | rfl | rfl <;> exact eC _ k rfl
    · rw [if_neg hp, if_neg hp]
  unfold Q5 at R ⊢
  rw [eC 52 0 rfl, eM 0 26 rfl, ch, cd, c65]
  obtain ⟨a1, a2, a3⟩ := R
  refine ⟨a1, a2, fun j hj => ?_⟩
  obtain ⟨b1, b2, b3⟩ := a3 j hj
  have hj4 : j < 4 := by have := a2.2; omega
  have b2' : (hC.1 65 j).toInt ≤ 16 := b2.2
  refine ⟨?_, b2, fun i hi => ?_⟩
  · rw [eM 10 j (by rcases (show j = 0 ∨ j = 1 ∨ j = 2 ∨ j = 3 by omega) with rfl | rfl | rfl | rfl <;> rfl)]; exact b1
  · obtain ⟨d1, d2, d3⟩ := b3 i hi
    have hk : ∀ z : Nat, z ≤ 127 → kM5 9 z = true := fun z hz => by
      show (false || (true && Nat.ble z 127) || false) = true
      rw [show Nat.ble z 127 = true from Nat.ble_eq.mpr hz]
      rfl
    refine ⟨?_, ?_, d3⟩
    · rw [eM 9 _ (hk _ (by omega))]; exact d1
    · rw [eM 9 _ (hk _ (by omega))]; exact d2
def kM4 (a k : Nat) : Bool := (a == 0 && k == 7) || a == 2 || a == 3 || a == 14
theorem mOK_e {h h' : dH} (eM : eqOn kM4 h h') (e13 : h'.2.1 13 = h.2.1 13) (R : mOK h) : mOK h' := by
  have m2 : h'.1 2 = h.1 2 := funext fun k => eM 2 k rfl
  have m3 : h'.1 3 = h.1 3 := funext fun k => eM 3 k rfl
  have m14 : h'.1 14 = h.1 14 := funext fun k => eM 14 k rfl
  unfold mOK at R ⊢
  rw [eM 0 7 rfl, m2, m3, m14, e13]
  exact R
def kCx (a _k : Nat) : Bool := Nat.ble 1000 a
theorem dXt_e {h h' : dH} (e : eqOn kCx h h') (R : dXt h) : dXt h' := fun a k ha => (e a k (Nat.ble_eq.mpr ha)).trans (R a k ha)
theorem Rel_Q {K : Int} {hC hM : dH} : RelK K hC hM ↔ Q1 hC hM ∧ Q2 hC hM ∧ Q3 hC hM ∧ mOK hM ∧ Q5 hC hM ∧ Q6 K hC hM ∧ Q7 K hC hM ∧ Q8 K hC hM ∧ Q9 hC hM ∧ Q10 hC hM ∧ dXt hC := Iff.rfl
