/-! PURE: a LAW is kept -/
theorem nar_b {x : Int32} (h : -128 ≤ x.toInt ∧ x.toInt ≤ 127) : vp_nar .byte x = x := by
  show x.toInt8.toInt32 = x
  rw [i_eq, i8, and255]
  split <;> omega
section TX
variable {K : Int} {c d c' d' : dH} {kk : Nat}
theorem RelK_FC (R : RelK K c d) (hk : (c.1 42 1).toInt = kk) (k4 : kk ≤ 4) (u2 : FC kk c c') : RelK K c' d := by
  obtain ⟨R0, R2, R3, R4, R5, R6, R7, R8, R9, R10, R11⟩ := R
  exact ⟨Q1_e (u2.on k4 rfl rfl (fun _ => ⟨rfl, rfl, rfl, rfl, rfl, rfl⟩)) eqOn_rf R0, Q2_e (u2.on k4 rfl rfl (fun _ => ⟨rfl, rfl, rfl, rfl, rfl, rfl⟩)) eqOn_rf R2, Q3_draft u2 hk eqOn_rf R3, R4, Q5_e (u2.on k4 rfl rfl (fun _ => ⟨rfl, rfl, rfl, rfl, rfl, rfl⟩)) eqOn_rf R5, Q6_e (u2.on k4 rfl rfl (fun _ => ⟨rfl, rfl, rfl, rfl, rfl, rfl⟩)) eqOn_rf R6, Q7_e (u2.on k4 rfl rfl (fun _ => ⟨rfl, rfl, rfl, rfl, rfl, rfl⟩)) eqOn_rf R7, Q8_e (u2.on k4 rfl rfl (fun _ => ⟨rfl, rfl, rfl, rfl, rfl, rfl⟩)) eqOn_rf R8, Q9_e (u2.on k4 rfl rfl (fun _ => ⟨rfl, rfl, rfl, rfl, rfl, rfl⟩)) eqOn_rf R9, Q10_e (u2.on k4 rfl rfl (fun _ => ⟨rfl, rfl, rfl, rfl, rfl, rfl⟩)) eqOn_rf R10, dXt_e (u2.on k4 rfl rfl (fun _ => ⟨rfl, rfl, rfl, rfl, rfl, rfl⟩)) R11⟩
/-- the reference copies the TAPE -/
theorem lp_txt {len : Nat} {v9 : Int32} (hv : v9.toInt = len) (hl : len ≤ 240) (k3 : kk < 4) : ∀ (m n p : Nat) (y3 : Int32) (h : dH), p + m = len → m < n → y3.toInt = p → (h.1 0 7).toInt = kk →
    ∃ h' : dH, f_X12_text_L71 n v9 y3 h = some (h.1 0 7, h') ∧ (∀ a k, a ≠ 2 → ¬ (a = 3 ∧ k = kk) → ¬ (a = 0 ∧ k = 7) → h'.1 a k = h.1 a k) ∧ h'.2 = h.2 ∧ (∀ k, k < 240 * kk + p ∨ 240 * kk + len ≤ k → h'.1 2 k = h.1 2 k) ∧ (∀ i, p ≤ i → i < len → h'.1 2 (240 * kk + i) = vp_nar .byte (h.1 1 i)) ∧ h'.1 3 kk = v9 ∧ (h'.1 0 7).toInt = ((kk + 1 : Nat) : Int) := by
  intro m
  have k240 : (240 : Int32).toInt = 240 := rfl
  have k1 : (1 : Int32).toInt = 1 := rfl
  induction m with
  | zero =>
    intro n p y3 h hp hn hy h7
    obtain ⟨n, rfl⟩ : ∃ z, n = z + 1 := ⟨n - 1, by omega⟩
    rw [f_X12_text_L71, if_neg (show ¬ y3 < v9 by rw [i_lt]; omega), if_pos (dIn_of h7 k3), dI_of h7, Option.bind_some]
    have e7 : (dPut h 3 kk v9).1 0 7 = h.1 0 7 := dPut_ne (by omega)
    rw [e7, dPut_at]
    have er : h.1 0 7 + 1 - 1 = h.1 0 7 := Int32.add_sub_cancel _ _
    rw [er]
    refine ⟨_, rfl, fun a k h1 h2 h3 => by rw [dPut_ne h3, dPut_ne h2], rfl, fun k _ => by rw [dPut_ne (by omega), dPut_ne (by omega)], fun i h1 h2 => absurd h2 (by omega), by rw [dPut_ne (by omega), dPut_at], by rw [dPut_at, i_add1 (by omega), h7]; omega⟩
  | succ m ih =>
    intro n p y3 h hp hn hy h7
    obtain ⟨n, rfl⟩ : ∃ z, n = z + 1 := ⟨n - 1, by omega⟩
    have e1 : (240 * h.1 0 7).toInt = 240 * kk := by rw [i_mul (by rw [k240]; omega), k240, h7]
    have e2 : (240 * h.1 0 7 + y3).toInt = ((240 * kk + p : Nat) : Int) := by rw [i_add (by omega), e1, hy]; omega
    rw [f_X12_text_L71, if_pos (show y3 < v9 by rw [i_lt]; omega), if_pos (dIn_of hy (by omega)), if_pos (dIn_of e2 (by omega)), dI_of e2, dI_of hy, Option.bind_some]
    obtain ⟨h', a1, a2, a3, a4, a5, a6, a7⟩ := ih n (p + 1) (y3 + 1) (dPut h 2 (240 * kk + p) (vp_nar .byte (h.1 1 p))) (by omega) (by omega) (by rw [i_add1 (by omega), hy]; omega) (by rw [dPut_ne (by omega)]; exact h7)
    rw [dPut_ne (show ¬ (0 = 2 ∧ 7 = 240 * kk + p) by omega)] at a1
    refine ⟨h', a1, fun a k h1 h2 h3 => by rw [a2 a k h1 h2 h3, dPut_ne (fun z => h1 z.1)], a3, fun k hk => by rw [a4 k (by omega), dPut_ne (by omega)], fun i h1 h2 => ?_, a6, a7⟩
    by_cases z : i = p
    · rw [z, a4 _ (by omega), dPut_at]
    · rw [a5 i (by omega) h2, dPut_ne (by omega)]
theorem R_t1 (R : RelK K c d) (h3 : (c.1 42 1).toInt < 4) {r : Int32} (hr : r = -1) {c' d' : dH} (RR : RelK K c' d') (F : FC (dI (c.1 42 1)) c c') (G : ∀ a k, ¬ (a = 0 ∧ (8 ≤ k ∧ k ≤ 14 ∨ k = 17)) → d'.1 a k = d.1 a k)
    (P : ∃ cs, pLaw (fun k => bOf (d.1 1 k)) (dI (c.1 1 1)) = .inr cs ∧ cs.length ≤ 240 ∧ (c'.1 50 (dI (c.1 42 1))).toInt = cs.length ∧ ∀ i, (hi : i < cs.length) → c'.1 (45 + dI (c.1 42 1)) i = cs[i]) :
    ∃ h' : dH, f_X12_text_L71 dFu (d'.1 0 6) 0 (dPut d' 0 6 0) = some (c.1 42 1, h') ∧ RelK K (dPut (dPut c' 42 1 (c.1 42 1 + 1)) 1 1 0) h' := by
  have q3 := R.2.2.1.2.2.1
  have q31 := q3.1
  obtain ⟨kk, hk⟩ : ∃ kk : Nat, (c.1 42 1).toInt = kk := ⟨(c.1 42 1).toInt.toNat, by omega⟩
  rw [dI_of hk] at F P
  obtain ⟨cs, p1, p2, p3, p4⟩ := P
  have k3 : kk < 4 := by omega
  have e6 : d'.1 0 6 = c.1 1 1 := by rw [G 0 6 (by omega)]; exact R.1.1.symm
  have tl := R.1.2.1
  have tl1 := tl.1
  have tl2 := tl.2
  obtain ⟨len, hl⟩ : ∃ len : Nat, (c.1 1 1).toInt = len := ⟨(c.1 1 1).toInt.toNat, by omega⟩
  have dl : dI (c.1 1 1) = len := dI_of hl
  rw [dl] at p1
  have e7 : d'.1 0 7 = c.1 42 1 := by rw [G 0 7 (by omega)]; exact R.2.2.1.1.symm
  have h7 : ((dPut d' 0 6 0).1 0 7).toInt = kk := by rw [dPut_ne (by omega), e7]; exact hk
  obtain ⟨h', a1, a2, a3, a4, a5, a6, a7⟩ := lp_txt (v9 := d'.1 0 6) (by rw [e6]; exact hl) (by omega) k3 len dFu 0 0 (dPut d' 0 6 0) (by omega) (fuel_lt (by omega)) rfl h7
  rw [dPut_ne (show ¬ (0 = 0 ∧ 7 = 6) by omega), e7] at a1
  refine ⟨h', a1, ?_⟩
  have cF : ∀ a, (c'.1 42 a) = c.1 42 a := fun a => F 42 a (by omega) (by omega) (by omega)
  have kn : ((c.1 42 1) + 1).toInt = ((kk + 1 : Nat) : Int) := by rw [i_add1 (by omega), hk]; omega
  have tape : ∀ i, i < len → h'.1 2 (240 * kk + i) = d.1 1 i ∧ bt (-128) 127 (d.1 1 i) := fun i hi => by
    have := R.1.2.2 i (by omega)
    obtain ⟨b, t⟩ := this
    have b1 := b.1
    have b2 := b.2
    have bb : -128 ≤ (d.1 1 i).toInt ∧ (d.1 1 i).toInt ≤ 127 := by
      rw [t]
      split <;> omega
    rw [a5 i (by omega) hi, dPut_ne (by omega), G 1 i (by omega), nar_b bb]
    exact ⟨rfl, bb⟩
  have old2 : ∀ k, k < 240 * kk → h'.1 2 k = d.1 2 k := fun k hk' => by rw [a4 k (by omega), dPut_ne (by omega), G 2 k (by omega)]
  have old3 : ∀ k, k ≠ kk → h'.1 3 k = d.1 3 k := fun k hk' => by rw [a2 3 k (by omega) (by omega) (by omega), dPut_ne (by omega), G 3 k (by omega)]
  -- the other laws stay
  have keep : ∀ j, j < kk → (d.1 3 j).toInt ≤ 240 → pLaw (tOf (h'.1 2) j) (dI (h'.1 3 j)) = pLaw (tOf (d.1 2) j) (dI (d.1 3 j)) := fun j hj h240 => by
    rw [old3 j (by omega)]
    refine pLaw_ext (fun k hk' => ?_)
    have : (dI (d.1 3 j)) ≤ 240 := by
      show (d.1 3 j).toInt.toNat ≤ 240
      omega
    unfold tOf
    rw [old2 _ (by omega)]
  obtain ⟨R0, R2, R3, R4, R5, R6, R7, R8, R9, R10, R11⟩ := RR
  have k4 : kk ≤ 4 := by omega
  have onC : ∀ {mk : Nat → Nat → Bool}, mk 42 1 = false → mk 1 1 = false → eqOn mk c' (dPut (dPut c' 42 1 (c.1 42 1 + 1)) 1 1 0) := fun x1 x2 => eqOn_pt (eqOn_put x1) x2
  have onM : ∀ {mk : Nat → Nat → Bool}, mk 0 6 = false → mk 0 7 = false → (∀ k, mk 2 k = false) → (∀ k, mk 3 k = false) → eqOn mk d' h' := fun {mk} m6 m7 m2 m3 a k h => by
    rw [a2 a k (fun z => by rw [z, m2] at h; cases h) (fun z => by rw [z.1, m3] at h; cases h) (fun z => by rw [z.1, z.2, m7] at h; cases h), dPut_ne (fun z => by rw [z.1, z.2, m6] at h; cases h)]
  refine ⟨?_, Q2_e (onC rfl rfl) (onM rfl rfl (fun _ => rfl) (fun _ => rfl)) R2, ?_, ?_, Q5_e (onC rfl rfl) (onM rfl rfl (fun _ => rfl) (fun _ => rfl)) R5, Q6_e (onC rfl rfl) (onM rfl rfl (fun _ => rfl) (fun _ => rfl)) R6, Q7_e (onC rfl rfl) (onM rfl rfl (fun _ => rfl) (fun _ => rfl)) R7, Q8_e (onC rfl rfl) (onM rfl rfl (fun _ => rfl) (fun _ => rfl)) R8, Q9_e (onC rfl rfl) (onM rfl rfl (fun _ => rfl) (fun _ => rfl)) R9, Q10_e (onC rfl rfl) (onM rfl rfl (fun _ => rfl) (fun _ => rfl)) R10, dXt_e (onC rfl rfl) R11⟩
  · have m6 : h'.1 0 6 = 0 := by rw [a2 0 6 (by omega) (by omega) (by omega), dPut_at]
    refine ⟨by rw [dPut_at, m6], by rw [dPut_at]; exact ⟨by decide, by decide⟩, fun k hk' => ?_⟩
    rw [dPut_at] at hk'
    exact absurd hk' (by show ¬ (k : Int) < 0; omega)
  · -- the laws
    obtain ⟨q1, q2, q3', q4, q5⟩ := R3
    have m7 : h'.1 0 7 = c.1 42 1 + 1 := by rw [i_eq, a7, kn]
    have m30 : h'.1 0 30 = d'.1 0 30 := by rw [a2 0 30 (by omega) (by omega) (by omega), dPut_ne (by omega)]
    refine ⟨?_, ?_, ?_, ?_, fun j hj => ?_⟩
    · rw [dPut_ne (by omega), dPut_at, m7]
    · rw [dPut_ne (by omega), dPut_ne (by omega), m30]; exact q2
    · rw [dPut_ne (by omega), dPut_at]; unfold bt; omega
    · rw [dPut_ne (by omega), dPut_ne (by omega), dPut_ne (by omega), dPut_at, kn]
      rw [cF 1, hk] at q4
      omega
    · rw [dPut_ne (by omega), dPut_at, kn] at hj
      by_cases z : j = kk
      · rw [z, a6, e6]
        refine ⟨tl, fun k hk' => ?_, cs, ?_, p2, ?_, fun i hi => ?_⟩
        · obtain ⟨t1', t2⟩ := tape k (by omega)
          rw [t1']; exact t2
        · rw [dl, ← p1]
          refine pLaw_ext (fun k hk' => ?_)
          unfold tOf
          rw [(tape k hk').1]
        · rw [dPut_ne (by omega), dPut_ne (by omega)]; exact p3
        · rw [cCo_at (by omega), dPut_ne (by omega), dPut_ne (by omega)]; exact p4 i hi
      · have hj2 : j < kk := by omega
        obtain ⟨x1, x2, cs2, x3, x4, x5, x6⟩ := q5 j (by rw [cF 1, hk]; omega)
        rw [G 3 j (by omega)] at x1 x2 x3
        have x12 := x1.2
        rw [old3 j z]
        refine ⟨x1, fun k hk' => ?_, cs2, ?_, x4, ?_, fun i hi => ?_⟩
        · have := x2 k hk'
          rw [G 2 _ (by omega)] at this
          rw [old2 _ (by omega)]
          exact this
        · have kp := keep j hj2 x12
          rw [old3 j z] at kp
          rw [kp, ← x3]
          refine pLaw_ext (fun k hk' => ?_)
          unfold tOf
          rw [G 2 _ (by omega)]
        · rw [dPut_ne (by omega), dPut_ne (by omega)]; exact x5
        · have := x6 i hi
          rw [cCo_at (by omega)] at this ⊢
          rw [dPut_ne (by omega), dPut_ne (by omega)]; exact this
  · -- the memo
    intro s hs
    have k13 : h'.2.1 13 = d'.2.1 13 := by rw [a3]; rfl
    have k14 : h'.1 14 s = d'.1 14 s := by rw [a2 14 s (by omega) (by omega) (by omega), dPut_ne (by omega)]
    rw [k13, k14]
    rcases R4 s hs with z | ⟨j, env, z1, z2, z3, z4⟩
    · exact Or.inl z
    · rw [e7, hk] at z1
      refine Or.inr ⟨j, env, by rw [a7]; omega, z2, z3, ?_⟩
      rw [z4]
      have hj2 : j < kk := by omega
      obtain ⟨x1, x2, cs2, x3, x4, x5, x6⟩ := R3.2.2.2.2 j (by rw [cF 1, hk]; omega)
      rw [G 3 j (by omega)] at x1 x3
      have x12 := x1.2
      have ee : pLaw (tOf (d'.1 2) j) (dI (d.1 3 j)) = pLaw (tOf (h'.1 2) j) (dI (h'.1 3 j)) := by
        rw [keep j hj2 x12]
        refine pLaw_ext (fun k hk' => ?_)
        unfold tOf
        rw [G 2 _ (by omega)]
      unfold wS
      rw [G 3 j (by omega), ee]
end TX
