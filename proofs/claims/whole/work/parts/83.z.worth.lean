/-! PURE: what a LAW is worth -/
/-- the class's heap but for letters and stack -/
def fC (h h' : dH) : Prop := (∀ a k, a ≠ 43 → a ≠ 51 → h'.1 a k = h.1 a k) ∧ h'.2 = h.2
/-- the reference's heap but for what reading a LAW touches -/
def fM (h h' : dH) : Prop := (∀ a k, a ≠ 0 → a ≠ 4 → a ≠ 14 → h'.1 a k = h.1 a k) ∧ (∀ k, k < 8 ∨ 14 < k ∧ k ≠ 17 → h'.1 0 k = h.1 0 k) ∧ (∀ a, a ≠ 13 → h'.2.1 a = h.2.1 a) ∧ (mOK h → mOK h')
/-- six letters -/
def e6 (a b c d e f : Int32) : Nat → Int32 := fun k => if k = 0 then a else if k = 1 then b else if k = 2 then c else if k = 3 then d else if k = 4 then e else f
theorem R_worth {hC hM : dH} (L3 : Q3 hC hM) (mo : mOK hM) (hl : ¬ hC.1 42 2 = -1) (e0 : hC.1 43 0 = hM.1 4 107) (e1 : hC.1 43 1 = hM.1 4 118) (e2 : hC.1 43 2 = hM.1 4 111) (e3 : hC.1 43 3 = hM.1 4 104) (e4 : hC.1 43 4 = hM.1 4 110) (e5 : hC.1 43 5 = hM.1 4 116) (ok : eOK (hC.1 43)) :
    ∃ (v : Int32) (hC' hM' : dH), f_X5_worth hC = some (v, hC') ∧ f_X12_worthNow hM = some (v, hM') ∧ fC hC hC' ∧ fM hM hM' ∧ v = wS (hM.1 2) (hM.1 3) (dI (hC.1 42 2)) (e6 (hC.1 43 0) (hC.1 43 1) (hC.1 43 2) (hC.1 43 3) (hC.1 43 4) (hC.1 43 5)) := by sorry
