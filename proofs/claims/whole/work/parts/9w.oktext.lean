/-! PURE: text, whole -/
section TV
variable {K : Int} {c d : dH} {x : Int32}
theorem f0_both (R : RelK K c d) : ∃ (r : Int32) (c' d' : dH), f_X11_fault 0 c = some (r, c') ∧ f_X12_fault 0 d = some (r, d') ∧ RelK K c' d' ∧ (r = -1 → ∃ P h : Nat, 2 ≤ P ∧ CR P h c' d') := by
  obtain ⟨r, c', d', u1, u2, u3, u4, u5⟩ := R_f0 R.t0
  refine ⟨r, c', d', ?_, ?_, u4, u5⟩
  · unfold f_X11_fault
    rw [if_pos rfl, u1, Option.bind_some]
  · unfold f_X12_fault f_X12_fault_J28 f_X12_fault_J46
    rw [Option.bind_some, M_isIn, if_pos (by decide), if_pos rfl, u2, Option.bind_some, if_neg (show ¬ (0 : Int32) = 1 by decide), if_neg (show ¬ (0 : Int32) = 2 by decide), u3]
theorem f1_both (R : RelK K c d) : ∃ (r : Int32) (c' d' : dH), f_X11_fault 1 c = some (r, c') ∧ f_X12_fault 1 d = some (r, d') ∧ RelK K c' d' ∧ FC (dI (c.1 42 1)) c c' ∧ (∀ a k, ¬ (a = 0 ∧ (8 ≤ k ∧ k ≤ 14 ∨ k = 17)) → d'.1 a k = (dPut d 0 0 0).1 a k) ∧ (r = -1 → ∃ cs, pLaw (fun k => bOf ((dPut d 0 0 0).1 1 k)) (dI (c.1 1 1)) = .inr cs ∧ cs.length ≤ 240 ∧ (c'.1 50 (dI (c.1 42 1))).toInt = cs.length ∧ ∀ i, (hi : i < cs.length) → c'.1 (45 + dI (c.1 42 1)) i = cs[i]) := by
  obtain ⟨r, c', d', u1, u2, u3, u4, u5, u6, u7, u8⟩ := R_f1 R.t0
  refine ⟨r, c', d', ?_, ?_, u4, u5, u6, u8⟩
  · unfold f_X11_fault
    rw [if_neg (show ¬ (1 : Int32) = 0 by decide), if_pos rfl, u1, Option.bind_some]
  · unfold f_X12_fault f_X12_fault_J28 f_X12_fault_J46
    rw [Option.bind_some, M_isIn, if_pos (by decide), if_neg (show ¬ (1 : Int32) = 0 by decide), if_pos rfl, u2, Option.bind_some, if_neg (show ¬ (1 : Int32) = 2 by decide), u3]
theorem f2_both (R : RelK K c d) : ∃ (r : Int32) (c' d' : dH), f_X11_fault 2 c = some (r, c') ∧ f_X12_fault 2 d = some (r, d') ∧ RelK K c' d' ∧ (∀ a k, kdC (dI (c.1 52 0)) a k → c'.1 a k = c.1 a k) ∧ (r = -1 → ∃ N : Nat, 1 ≤ N ∧ N ≤ 16 ∧ (c'.1 65 (dI (c.1 52 0))).toInt = N ∧ (d'.1 10 4).toInt = N ∧ DR (dI (c.1 52 0)) N c' d') := by
  obtain ⟨r, c', d', u1, u2, u3, u4, u5, u6⟩ := R_f2 R.t0
  refine ⟨r, c', d', ?_, ?_, u4, u5, u6⟩
  · unfold f_X11_fault
    rw [if_neg (show ¬ (2 : Int32) = 0 by decide), if_neg (show ¬ (2 : Int32) = 1 by decide), if_pos rfl, u1, Option.bind_some]
  · unfold f_X12_fault f_X12_fault_J28 f_X12_fault_J46
    rw [Option.bind_some, M_isIn, if_pos (by decide), if_neg (show ¬ (2 : Int32) = 0 by decide), if_neg (show ¬ (2 : Int32) = 1 by decide), if_pos rfl, u2, Option.bind_some, u3]
theorem ok_text : st_text Rel := by
  intro n hC hM hn R x
  have R1 : RelK (60 * n) hC (dPut hM 0 0 0) := R.t0
  unfold aC_text aM_text f_X11_text f_X12_text
  rw [Option.bind_some]
  generalize dPut hM 0 0 0 = h1 at R1 ⊢
  have k1 : (1 : Int32).toInt = 1 := rfl
  have k2 : (2 : Int32).toInt = 2 := rfl
  have k0 : (0 : Int32).toInt = 0 := rfl
  have k4 : (4 : Int32).toInt = 4 := rfl
  rw [M_isIn, show (0 : Int64).toInt = 0 from rfl, show (2 : Int64).toInt = 2 from rfl]
  by_cases a0 : x = 0
  · subst a0
    obtain ⟨r, c', d', u1, u2, u4, u5⟩ := f0_both R1
    unfold f_X12_text_J30 f_X12_text_J43
    rw [decide_eq_true (show 0 ≤ (0 : Int32).toInt ∧ (0 : Int32).toInt ≤ 2 by rw [k0]; omega), if_pos (show true = true from rfl), if_neg (show ¬ (0 : Int32) = 1 by decide), if_neg (show ¬ (0 : Int32) = 2 by decide), u1, u2, Option.bind_some, Option.bind_some]
    by_cases q : r = -1
    · obtain ⟨P, h0, p2, CRx⟩ := u5 q
      obtain ⟨c2, d2, t1', t2, t3⟩ := R_t0 u4 (by omega) p2 CRx
      have r1 := CRx.1
      have nz : ¬ c'.1 22 2 = -1 := fun z => by rw [z, tm1] at r1; omega
      dsimp only
      rw [if_pos q, if_pos q, if_pos (show (0 : Int32) = 0 from rfl), Option.bind_some, Option.bind_some, if_neg (show ¬ (0 : Int32) = 1 by decide), if_neg (show ¬ (0 : Int32) = 2 by decide), Option.bind_some, t1', t2, Option.bind_some]
      unfold f_X11_text_J44
      rw [if_neg nz]
      exact ag rfl rfl (Rel_mono t3)
    · dsimp only
      rw [if_neg q, if_neg q]
      exact ag rfl rfl (Rel_mono u4)
  · by_cases a1 : x = 1
    · subst a1
      have q3 := R1.2.2.1.2.2.1
      have q31 := q3.1
      have q32 := q3.2
      have e7 : hC.1 42 1 = h1.1 0 7 := R1.2.2.1.1
      obtain ⟨r, c', d', u1, u2, u4, u5, u6, u7⟩ := f1_both R1
      obtain ⟨kk, hk⟩ : ∃ kk : Nat, (hC.1 42 1).toInt = kk := ⟨(hC.1 42 1).toInt.toNat, by omega⟩
      have dk : dI (hC.1 42 1) = kk := dI_of hk
      have c42 : c'.1 42 1 = hC.1 42 1 := u5 42 1 (by omega) (by omega) (by omega)
      unfold f_X5_keepDraft
      rw [decide_eq_true (show 0 ≤ (1 : Int32).toInt ∧ (1 : Int32).toInt ≤ 2 by rw [k1]; omega), if_pos (show true = true from rfl), if_pos (show (1 : Int32) = 1 from rfl), u1, Option.bind_some]
      dsimp only
      by_cases f : h1.1 0 7 = 4
      · have f' : (hC.1 42 1).toInt = 4 := by rw [e7, f, k4]
        rw [if_pos f]
        have RF : RelK (60 * n) c' h1 := RelK_FC R1 hk (by omega) (by rw [← dk]; exact u5)
        by_cases q : r = -1
        · rw [if_pos q, if_neg (show ¬ (1 : Int32) = 0 by decide), if_pos (show (1 : Int32) = 1 from rfl), if_neg (show ¬ c'.1 42 1 < 4 by rw [i_lt, c42, k4]; omega), Option.bind_some]
          unfold f_X11_text_J44
          rw [if_pos rfl]
          exact ag rfl rfl (Rel_mono RF)
        · rw [if_neg q]
          exact ag rfl rfl (Rel_mono RF)
      · have f' : (hC.1 42 1).toInt < 4 := by
          have : ¬ (hC.1 42 1).toInt = 4 := fun z => f (by rw [← e7, i_eq, z, k4])
          omega
        unfold f_X12_text_J30 f_X12_text_J43
        rw [if_neg f, if_neg (show ¬ (1 : Int32) = 2 by decide), u2, Option.bind_some]
        dsimp only
        by_cases q : r = -1
        · obtain ⟨h', w1, w2⟩ := R_t1 R1.t0 f' q u4 u5 u6 (u7 q)
          rw [if_pos q, if_neg (show ¬ (1 : Int32) = 0 by decide), if_pos (show (1 : Int32) = 1 from rfl), if_pos (show c'.1 42 1 < 4 by rw [i_lt, c42, k4]; omega), Option.bind_some, if_pos q, Option.bind_some, Option.bind_some, if_pos (show (1 : Int32) = 1 from rfl), w1]
          unfold f_X11_text_J44
          have er : (dPut c' 42 1 (c'.1 42 1 + 1)).1 42 1 - 1 = hC.1 42 1 := by rw [dPut_at, c42]; exact Int32.add_sub_cancel _ _
          rw [er, if_neg (fun z => by have z' : hC.1 42 1 = -1 := z; rw [z', tm1] at hk; omega), c42]
          exact ag rfl rfl (Rel_mono w2)
        · rw [if_neg q, if_neg q]
          exact ag rfl rfl (Rel_mono u4)
    · by_cases a2 : x = 2
      · subst a2
        have q5 := R1.2.2.2.2.1.2.1
        have q51 := q5.1
        have q52 := q5.2
        have e26 : hC.1 52 0 = h1.1 0 26 := R1.2.2.2.2.1.1
        obtain ⟨r, c', d', u1, u2, u4, u5, u6⟩ := f2_both R1
        obtain ⟨kk, hk⟩ : ∃ kk : Nat, (hC.1 52 0).toInt = kk := ⟨(hC.1 52 0).toInt.toNat, by omega⟩
        have dk : dI (hC.1 52 0) = kk := dI_of hk
        have c52 : c'.1 52 0 = hC.1 52 0 := u5 52 0 ⟨by omega, by omega, by omega, by omega⟩
        unfold f_X3_keepDraft f_X12_text_J30 f_X12_text_J43
        rw [decide_eq_true (show 0 ≤ (2 : Int32).toInt ∧ (2 : Int32).toInt ≤ 2 by rw [k2]; omega), if_pos (show true = true from rfl), if_neg (show ¬ (2 : Int32) = 1 by decide), if_pos (show (2 : Int32) = 2 from rfl), u1, u2, Option.bind_some, Option.bind_some]
        dsimp only
        by_cases f : h1.1 0 26 = 4
        · have f' : (hC.1 52 0).toInt = 4 := by rw [e26, f, k4]
          rw [if_pos f]
          have RF : RelK (60 * n) c' h1 := RelK_kd R1 hk (by omega) (by rw [← dk]; exact u5)
          by_cases q : r = -1
          · rw [if_pos q, if_neg (show ¬ (2 : Int32) = 0 by decide), if_neg (show ¬ (2 : Int32) = 1 by decide), if_neg (show ¬ c'.1 52 0 < 4 by rw [i_lt, c52, k4]; omega), Option.bind_some]
            unfold f_X11_text_J44
            rw [if_pos rfl]
            exact ag rfl rfl (Rel_mono RF)
          · rw [if_neg q]
            exact ag rfl rfl (Rel_mono RF)
        · have f' : (hC.1 52 0).toInt < 4 := by
            have : ¬ (hC.1 52 0).toInt = 4 := fun z => f (by rw [← e26, i_eq, z, k4])
            omega
          rw [if_neg f]
          by_cases q : r = -1
          · obtain ⟨N, n1, n2, n3, n4, n5⟩ := u6 q
            obtain ⟨h', w1, w2⟩ := R_t2 u4 (by rw [c52]; exact f') ⟨n1, n2⟩ (by rw [c52]; exact n3) n4 (by rw [c52]; exact n5)
            rw [if_pos q, if_neg (show ¬ (2 : Int32) = 0 by decide), if_neg (show ¬ (2 : Int32) = 1 by decide), if_pos (show c'.1 52 0 < 4 by rw [i_lt, c52, k4]; omega), Option.bind_some, if_pos q, Option.bind_some, Option.bind_some, if_neg (show ¬ (2 : Int32) = 1 by decide), if_pos (show (2 : Int32) = 2 from rfl), w1]
            unfold f_X11_text_J44
            have er : (dPut c' 52 0 (c'.1 52 0 + 1)).1 52 0 - 1 = c'.1 52 0 := by rw [dPut_at]; exact Int32.add_sub_cancel _ _
            rw [er, if_neg (fun z => by have z' : c'.1 52 0 = -1 := z; rw [← c52, z', tm1] at hk; omega)]
            exact ag rfl rfl (Rel_mono w2)
          · rw [if_neg q, if_neg q]
            exact ag rfl rfl (Rel_mono u4)
      · rw [decide_eq_false (show ¬ (0 ≤ x.toInt ∧ x.toInt ≤ 2) by rw [i_eq, k0] at a0; rw [i_eq, k1] at a1; rw [i_eq, k2] at a2; omega), if_neg (show ¬ false = true by decide)]
        have e : f_X11_fault x hC = some (-2, hC) := by
          unfold f_X11_fault
          rw [if_neg a0, if_neg a1, if_neg a2]
        rw [e, Option.bind_some]
        dsimp only
        rw [if_neg (show ¬ (-2 : Int32) = -1 by decide)]
        exact ag rfl rfl (Rel_mono R1)
end TV
