/-! PURE: a digit -/
theorem pDig_sp {B : Nat → Nat} {L : Nat} {j : Nat} (h : pDig B L j = true) : j < L ∧ 48 ≤ B j ∧ B j ≤ 57 := by
  unfold pDig at h
  exact of_decide_eq_true h
