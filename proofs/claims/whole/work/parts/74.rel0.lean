/-! PURE: the start; values under the relation -/
theorem hC0_z {a k : Nat} (ha : a < 1000) (h42 : ¬ (a = 42 ∧ k = 2)) (h67 : ¬ (a = 67 ∧ k = 0)) (h69 : ¬ (a = 69 ∧ k = 0)) (h0 : ¬ (a = 0 ∧ k = 16)) : hC0.1 a k = 0 := (hC0_at a k h42 h67 h69 h0).trans (dH0_z ha)
theorem hM0_z {a k : Nat} (ha : a < 1000) (h1 : ¬ (a = 0 ∧ k = 30)) (h2 : ¬ (a = 0 ∧ k = 31)) : hM0.1 a k = 0 := by
  unfold hM0
  rw [dPut_ne h2, dPut_ne h1, dH0_z ha]
theorem t0 : (0 : Int32).toInt = 0 := rfl
theorem Rel_0 : Rel 0 hC0 hM0 := by
  have c11 : hC0.1 1 1 = 0 := hC0_z (by omega) (by omega) (by omega) (by omega) (by omega)
  have c32 : hC0.1 3 2 = 0 := hC0_z (by omega) (by omega) (by omega) (by omega) (by omega)
  have c421 : hC0.1 42 1 = 0 := hC0_z (by omega) (by omega) (by omega) (by omega) (by omega)
  have c422 : hC0.1 42 2 = -1 := rfl
  have c52 : hC0.1 52 0 = 0 := hC0_z (by omega) (by omega) (by omega) (by omega) (by omega)
  have c70 : hC0.1 70 0 = 0 := hC0_z (by omega) (by omega) (by omega) (by omega) (by omega)
  have c702 : hC0.1 70 2 = 0 := hC0_z (by omega) (by omega) (by omega) (by omega) (by omega)
  have c015 : hC0.1 0 15 = 0 := hC0_z (by omega) (by omega) (by omega) (by omega) (by omega)
  have c77 : hC0.1 77 0 = 0 := hC0_z (by omega) (by omega) (by omega) (by omega) (by omega)
  have c4 : ∀ k, hC0.1 4 k = 0 := fun k => hC0_z (by omega) (by omega) (by omega) (by omega) (by omega)
  have c67 : ∀ k, k ≠ 0 → hC0.1 67 k = 0 := fun k hk => hC0_z (by omega) (by omega) (by omega) (by omega) (by omega)
  have c670 : hC0.1 67 0 = -1 := rfl
  have m : ∀ k, k ≠ 30 → k ≠ 31 → hM0.1 0 k = 0 := fun k h1 h2 => hM0_z (by omega) (by omega) (by omega)
  have m5 : ∀ k, hM0.1 5 k = 0 := fun k => hM0_z (by omega) (by omega) (by omega)
  have m11 : ∀ k, hM0.1 11 k = 0 := fun k => hM0_z (by omega) (by omega) (by omega)
  have tm : (-1 : Int32).toInt = -1 := rfl
  refine ⟨?_, ?_, ?_, ?_, ?_, ⟨?_, ?_, ?_⟩, ?_, ?_, ?_, ?_, ?_⟩
  · rw [c11, m 6 (by omega) (by omega)]
    refine ⟨rfl, ⟨by decide, by decide⟩, fun k hk => ?_⟩
    rw [t0] at hk
    omega
  · rw [c32, m 24 (by omega) (by omega)]
    refine ⟨rfl, ⟨Or.inl ⟨t0, by rw [c4]; rfl⟩, ?_, ?_, ?_, fun p hp => ?_⟩, fun k _ => by rw [c4, m5], fun p hp => ?_, fun i j hi hj => ?_⟩
    · rw [c4]; exact ⟨by decide, by decide⟩
    · rw [c4]; exact ⟨by decide, by decide⟩
    · rw [c4]; exact ⟨by decide, by decide⟩
    · rw [t0] at hp; omega
    · rw [t0] at hp; omega
    · rw [t0] at hi hj
      have hi0 : i = 0 := by omega
      have hj0 : j = 0 := by omega
      subst hi0; subst hj0
      rw [cWy_at (by omega), hC0_z (by omega) (by omega) (by omega) (by omega) (by omega)]
      rfl
  · rw [c421, c422, m 7 (by omega) (by omega)]
    exact ⟨rfl, rfl, ⟨by decide, by decide⟩, Or.inr rfl, fun j hj => by rw [t0] at hj; omega⟩
  · intro s _
    exact Or.inl rfl
  · rw [c52, m 26 (by omega) (by omega)]
    exact ⟨rfl, ⟨by decide, by decide⟩, fun j hj => by rw [t0] at hj; omega⟩
  · refine ⟨?_, ?_, ?_, ?_, ?_, ?_, ?_, fun p hp => ⟨?_, ?_, ?_⟩⟩
    · rw [m11, c670]; rfl
    all_goals rw [m11, c67 _ (by omega)]
  · rw [c32]
    refine ⟨Or.inr ?_, ?_, ?_, ?_, ?_, ?_, fun p hp => ?_⟩
    · rw [c670]; rfl
    · rw [c67 _ (by omega), c4, t0]; omega
    · rw [c67 _ (by omega), c4, t0]; omega
    · rw [c67 _ (by omega)]; exact ⟨by decide, by decide⟩
    · rw [c67 _ (by omega)]; exact ⟨by decide, by decide⟩
    · rw [c67 _ (by omega)]; exact ⟨by decide, by decide⟩
    · rw [c67 _ (by omega), c67 _ (by omega), c67 _ (by omega), c67 _ (by omega)]
      exact ⟨⟨by decide, by decide⟩, ⟨by decide, by decide⟩, ⟨by decide, by decide⟩, fun _ => ⟨rfl, rfl⟩⟩
  · refine ⟨?_, fun i w hi hw => ?_⟩
    · rw [m11, c67 _ (by omega), t0]; rfl
    · rw [m11, t0] at hi; omega
  · rw [c70, c702, m 35 (by omega) (by omega)]
    exact ⟨rfl, ⟨by decide, by decide⟩, ⟨by decide, by decide⟩, fun i hi => by rw [t0] at hi; omega, fun i hi => by rw [t0] at hi; omega⟩
  · rw [c015, m 54 (by omega) (by omega)]
    exact ⟨rfl, Or.inl rfl, fun e => absurd e (by decide)⟩
  · rw [c77, m 47 (by omega) (by omega)]
    exact ⟨rfl, ⟨by decide, by decide⟩, fun i hi => by rw [t0] at hi; omega⟩
  · exact ⟨rfl, ⟨by decide, by decide⟩⟩
  · intro a k ha
    exact hC0_at a k (by omega) (by omega) (by omega) (by omega)
