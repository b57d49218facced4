/-! PURE: CLAUSES of a CITY -/
section CI
variable {c d A D : dH} {B : Nat → Nat} {L i q ks ks' lo hi len into to base nnM : Nat} {x y kind bI_ : Int32} {LO HI : Nat → Int}
theorem R_items (I : IK ks ks' lo hi len kind LO HI) {W : Nat → Int32} (hW : ∀ k, k < len → ∀ h : dH, f_X12_usual kind (Int32.ofNat k) h = W k) (hWb : ∀ k, k < len → LO k ≤ (W k).toInt ∧ (W k).toInt ≤ HI k) (hinto : 4 < into ∧ into < 1000) (hto : 2 < to) (hb : bI_.toInt = base) (hbn : base + len ≤ nnM) (hnn : nnM ≤ 1000) (PA : PC A B L) (PD : PM D B L) (X : dXt A) (Aat : (A.1 1 2).toInt = q) (Dat : (D.1 0 10).toInt = q) (hq : q ≤ L) (D11 : D.1 0 11 = -1) (hA : ∀ k, k < len → A.1 into k = W k) :
    ∃ (ok : Bool) (j : Nat) (c' d' : dH), f_X2_readItems ks lo hi into len A = some (ok, c') ∧ f_X12_readItems kind to nnM bI_ ks' D = some d' ∧ (c'.1 1 2).toInt = j ∧ j ≤ L ∧ (∀ a k, ¬ (a = 1 ∧ (k = 2 ∨ k = 3)) → a ≠ into → c'.1 a k = A.1 a k) ∧ (∀ a k, ¬ (a = 0 ∧ (k = 10 ∨ k = 11)) → ¬ (a = to ∧ base ≤ k ∧ k < base + len) → d'.1 a k = D.1 a k) ∧ d'.2 = D.2 ∧ Oc B L (IR into to base len LO HI c' d') ok j d' := by
  have I3 := I.2.2.1
  obtain ⟨d1, u1, u2, u3, u4⟩ := lp_usual (to := to) I hW hb hbn hnn len dFu 0 0 D (by omega) (fuel_lt (by omega)) rfl
  have P1 : PM d1 B L := PM_c (u2 0 9 (by omega)) (u2 0 8 (by omega)) (by rw [u3]) (fun k => u2 1 k (by omega)) (fun k => u2 2 k (by omega)) PD
  obtain ⟨d2, m1, m2, m3, m4⟩ := M_look P1 (i := q) (by rw [u2 0 10 (by omega)]; exact Dat) hq
  have P2 : PM d2 B L := PM_c (m3 0 9 (by omega)) (m3 0 8 (by omega)) (by rw [m4]) (fun k => m3 1 k (by omega)) (fun k => m3 2 k (by omega)) P1
  obtain ⟨ok, j, c', d', z1, z2, z3, z4, z5, z6, z7, z8⟩ := lp_items I hinto hto hb hbn hnn len 0 dFu dFu q 0 0 A d2 (by omega) (fuel_lt (by omega)) (fuel_lt (by omega)) rfl (by decide) (fun q _ _ => bI_0 q) PA P2 X Aat hq m2 (by rw [m3 0 11 (by omega), u2 0 11 (by omega)]; exact D11) (fun k hk => by
    rw [hA k hk, m3 _ _ (by omega), u4 k (by omega) hk]
    exact ⟨rfl, hWb k hk⟩)
  refine ⟨ok, j, c', d', z1, ?_, z3, z4, z5, fun a k h h2 => by rw [z6 a k h h2, m3 a k (fun z => h ⟨z.1, Or.inl z.2⟩), u2 a k (by omega)], by rw [z7, m4, u3], z8⟩
  unfold f_X12_readItems
  rw [u1, m1, Option.bind_some, Option.bind_some]
  exact z2
/-- the class's draft, the reference's: P PLACES, h RULES -/
def CR (P h : Nat) (c d : dH) : Prop := (c.1 22 2).toInt = P ∧ c.1 22 2 = d.1 0 25 ∧ P ≤ 7 ∧ (c.1 41 2).toInt = h ∧ c.1 41 2 = d.1 0 27 ∧ h ≤ 1 ∧ IR 23 6 0 3 LOs HIs c d ∧ (∀ p, p < P → IR (25 + p) 8 (5 * p) 5 LOp HIp c d) ∧ (h = 0 → ∀ k, k < 3 → c.1 23 k = dSt0 1002 k)
def kcC (a k : Nat) : Prop := ¬ (a = 1 ∧ (k = 2 ∨ k = 3)) ∧ ¬ (a = 22 ∧ k = 2) ∧ a ≠ 23 ∧ ¬ (25 ≤ a ∧ a ≤ 31) ∧ ¬ (a = 41 ∧ k = 2)
def kcM (a k : Nat) : Prop := ¬ (a = 0 ∧ (k = 10 ∨ k = 11 ∨ k = 25 ∨ k = 27)) ∧ a ≠ 6 ∧ a ≠ 8
theorem us_s : ∀ k, k < 3 → ∀ h : dH, f_X12_usual 115 (Int32.ofNat k) h = dSt0 1002 k := fun k hk h => by
  rcases (show k = 0 ∨ k = 1 ∨ k = 2 by omega) with rfl | rfl | rfl <;> rfl
theorem us_p : ∀ k, k < 5 → ∀ h : dH, f_X12_usual 112 (Int32.ofNat k) h = dSt0 1005 k := fun k hk h => by
  rcases (show k = 0 ∨ k = 1 ∨ k = 2 ∨ k = 3 ∨ k = 4 by omega) with rfl | rfl | rfl | rfl | rfl <;> rfl
theorem ub_s : ∀ k, k < 3 → LOs k ≤ (dSt0 1002 k).toInt ∧ (dSt0 1002 k).toInt ≤ HIs k := by decide
theorem ub_p : ∀ k, k < 5 → LOp k ≤ (dSt0 1005 k).toInt ∧ (dSt0 1005 k).toInt ≤ HIp k := by decide
theorem R_clause {P h : Nat} (R : CR P h c d) (Pc : PC c B L) (Pd : PM d B L) (X : dXt c) (hi' : (c.1 1 2).toInt = i) (hj : (d.1 0 10).toInt = i) (hL : i ≤ L) (hf : d.1 0 11 = -1) :
    ∃ (ok : Bool) (j : Nat) (c' d' : dH), f_X2_readClause c = some (ok, c') ∧ f_X12_readClause d = some d' ∧ (c'.1 1 2).toInt = j ∧ j ≤ L ∧ (∀ a k, kcC a k → c'.1 a k = c.1 a k) ∧ (∀ a k, kcM a k → d'.1 a k = d.1 a k) ∧ d'.2 = d.2 ∧ Oc B L (∃ P' h' : Nat, P' + h' = P + h + 1 ∧ CR P' h' c' d') ok j d' := by
  obtain ⟨r1, r2, r3, r4, r5, r6, r7, r8, r9⟩ := R
  have hP := Pc.2.1
  have k115 : (115 : Int32).toInt = 115 := rfl
  have k7 : (7 : Int32).toInt = 7 := rfl
  obtain ⟨c1, e1, e2, e3⟩ := C_sign Pc hi' hL
  obtain ⟨d1, m1, m2, m3, m4⟩ := M_look Pd hj hL
  have pl := pS_le (B := B) hL hP
  have f11 : d1.1 0 11 = -1 := by rw [m3 0 11 (by omega)]; exact hf
  have ep : c1.1 1 2 = Int32.ofNat (pS B L i) := (oNat e2).resolve_right (by omega)
  have ePd : d1.1 0 10 = Int32.ofNat (pS B L i) := (oNat m2).resolve_right (by omega)
  have c41 : c1.1 41 2 = c.1 41 2 := e3 41 2 (by omega)
  have c22 : c1.1 22 2 = c.1 22 2 := e3 22 2 (by omega)
  have d27 : d1.1 0 27 = c.1 41 2 := by rw [m3 0 27 (by omega), r5]
  have d25 : d1.1 0 25 = c.1 22 2 := by rw [m3 0 25 (by omega), r2]
  unfold f_X2_readClause f_X12_readClause f_X2_readClause_J59 f_X12_readClause_J18 f_X12_readClause_J33 f_X12_readClause_J37 f_X12_readClause_J38
  rw [e1, m1]
  simp only [Option.bind_some, Bool.false_eq_true, if_false, if_true]
  rw [c41, c22, d27, d25]
  -- it can't be
  have no : ∃ (ok : Bool) (j : Nat) (c' d' : dH), some (false, c1) = some (ok, c') ∧ ((f_X12_fails d1).bind fun rv15 => some rv15.2) = some d' ∧ (c'.1 1 2).toInt = j ∧ j ≤ L ∧ (∀ a k, kcC a k → c'.1 a k = c.1 a k) ∧ (∀ a k, kcM a k → d'.1 a k = d.1 a k) ∧ d'.2 = d.2 ∧ Oc B L (∃ P' h' : Nat, P' + h' = P + h + 1 ∧ CR P' h' c' d') ok j d' := by
    rw [M_fails f11, Option.bind_some]
    refine ⟨false, pS B L i, c1, _, rfl, rfl, e2, by omega, fun a k hh => e3 a k (fun z => hh.1 ⟨z.1, Or.inl z.2⟩), fun a k hh => by rw [dPut_ne (fun z => hh.1 ⟨z.1, by omega⟩), m3 a k (fun z => hh.1 ⟨z.1, by omega⟩)], m4, Or.inr (Or.inr ⟨rfl, ?_⟩)⟩
    rw [dPut_at]
    exact ePd
  have sin : sg B L (pS B L i) ≠ -1 → pS B L i < L := fun z => by
    by_cases w : pS B L i < L
    · exact w
    · exact absurd (sg_out w) z
  by_cases q1 : sg B L (pS B L i) = 115
  · have q2 : ¬ sg B L (pS B L i) = 112 := by rw [q1]; decide
    rw [if_pos q1, if_pos q1]
    by_cases h0 : c.1 41 2 = 0
    · -- RULES
      have hh0 : h = 0 := by rw [h0, t0] at r4; omega
      have inr := sin (by rw [q1]; decide)
      rw [if_pos h0, if_pos h0, if_pos q1]
      generalize eA : dPut (dPut c1 41 2 1) 1 2 ((dPut c1 41 2 1).1 1 2 + 1) = A
      generalize eD : dPut (dPut d1 0 10 (d1.1 0 10 + 1)) 0 27 1 = D
      have Af : ∀ a k, ¬ (a = 1 ∧ k = 2) → ¬ (a = 41 ∧ k = 2) → A.1 a k = c.1 a k := fun a k h1 h2 => by rw [← eA, dPut_ne h1, dPut_ne h2, e3 a k h1]
      have Df : ∀ a k, ¬ (a = 0 ∧ (k = 10 ∨ k = 27)) → D.1 a k = d.1 a k := fun a k h1 => by rw [← eD, dPut_ne (fun z => h1 ⟨z.1, by omega⟩), dPut_ne (fun z => h1 ⟨z.1, by omega⟩), m3 a k (fun z => h1 ⟨z.1, by omega⟩)]
      have D2 : D.2 = d.2 := by rw [← eD]; exact m4
      have Aat : (A.1 1 2).toInt = ((pS B L i + 1 : Nat) : Int) := by rw [← eA, dPut_at, dPut_ne (by omega), i_add1 (by omega), e2]; omega
      have Dat : (D.1 0 10).toInt = ((pS B L i + 1 : Nat) : Int) := by rw [← eD, dPut_ne (by omega), dPut_at, i_add1 (by omega), m2]; omega
      have A41 : A.1 41 2 = 1 := by rw [← eA, dPut_ne (by omega), dPut_at]
      have D27 : D.1 0 27 = 1 := by rw [← eD, dPut_at]
      obtain ⟨ok, j, c', d', z1, z2, z3, z4, z5, z6, z7, z8⟩ := R_items IK_s us_s ub_s (into := 23) (to := 6) (base := 0) (nnM := 3) (bI_ := 0) (by omega) (by omega) rfl (by omega) (by omega) (PC_c (Af 1 1 (by omega) (by omega)) (fun k => Af 2 k (by omega) (by omega)) Pc) (PM_c (Df 0 9 (by omega)) (Df 0 8 (by omega)) (by rw [D2]) (fun k => Df 1 k (by omega)) (fun k => Df 2 k (by omega)) Pd) (fun a k ha => by rw [Af a k (by omega) (by omega)]; exact X a k ha) Aat Dat (by omega) (by rw [Df 0 11 (by omega)]; exact hf) (fun k hk => by rw [Af 23 k (by omega) (by omega)]; exact r9 hh0 k hk)
      rw [q1, z1, z2, Option.bind_some, Option.bind_some]
      refine ⟨ok, j, c', d', rfl, rfl, z3, z4, fun a k hh => by rw [z5 a k hh.1 hh.2.2.1, Af a k (fun z => hh.1 ⟨z.1, Or.inl z.2⟩) hh.2.2.2.2], fun a k hh => by rw [z6 a k (fun z => hh.1 ⟨z.1, by omega⟩) (fun z => hh.2.1 z.1), Df a k (fun z => hh.1 ⟨z.1, by omega⟩)], by rw [z7, D2], ?_⟩
      rcases z8 with ⟨y1, y2, y3, y4⟩ | y | y
      · refine Or.inl ⟨y1, y2, y3, P, 1, by omega, ?_, ?_, r3, ?_, ?_, by omega, y4, fun p hp k hk => ?_, fun z => by omega⟩
        · rw [z5 22 2 (by omega) (by omega), Af 22 2 (by omega) (by omega)]; exact r1
        · rw [z5 22 2 (by omega) (by omega), Af 22 2 (by omega) (by omega), z6 0 25 (by omega) (by omega), Df 0 25 (by omega)]; exact r2
        · rw [z5 41 2 (by omega) (by omega), A41]; rfl
        · rw [z5 41 2 (by omega) (by omega), A41, z6 0 27 (by omega) (by omega), D27]
        · rw [z5 _ _ (by omega) (by omega), Af _ _ (by omega) (by omega), z6 _ _ (by omega) (by omega), Df _ _ (by omega)]
          exact r8 p hp k hk
      · exact Or.inr (Or.inl y)
      · exact Or.inr (Or.inr y)
    · rw [if_neg h0, if_neg h0, if_neg q2, if_neg q2]
      exact no
  · rw [if_neg q1, if_neg q1]
    by_cases q2 : sg B L (pS B L i) = 112
    · rw [if_pos q2, if_pos q2]
      by_cases p7 : c.1 22 2 < 7
      · have inr := sin (by rw [q2]; decide)
        have p7' := p7
        rw [i_lt, r1, k7] at p7'
        have dp : dI (c.1 22 2) = P := dI_of r1
        have hp7 : dIn (c.1 22 2) 7 := dIn_of r1 (by omega)
        rw [if_pos p7, if_pos p7, if_pos hp7, if_neg q1, dp, if_pos (show dCk 0 0 (Int32.ofNat (zln 5)) (zln 5) 5 by decide)]
        have e5 : dI (Int32.ofNat (zln 5)) = 5 := rfl
        have e0 : dI (0 : Int32) = 0 := rfl
        rw [e5, e0]
        generalize eA0 : dPut (dPut c1 22 2 (c.1 22 2 + 1)) 1 2 ((dPut c1 22 2 (c.1 22 2 + 1)).1 1 2 + 1) = A0
        have e25 : (dPut d1 0 10 (d1.1 0 10 + 1)).1 0 25 = c.1 22 2 := by rw [dPut_ne (by omega), d25]
        rw [e25, dPut_at]
        generalize eD : dPut (dPut d1 0 10 (d1.1 0 10 + 1)) 0 25 (c.1 22 2 + 1) = D
        have A0f : ∀ a k, ¬ (a = 1 ∧ k = 2) → ¬ (a = 22 ∧ k = 2) → A0.1 a k = c.1 a k := fun a k h1 h2 => by rw [← eA0, dPut_ne h1, dPut_ne h2, e3 a k h1]
        have A0at : (A0.1 1 2).toInt = ((pS B L i + 1 : Nat) : Int) := by rw [← eA0, dPut_at, dPut_ne (by omega), i_add1 (by omega), e2]; omega
        have A022 : A0.1 22 2 = c.1 22 2 + 1 := by rw [← eA0, dPut_ne (by omega), dPut_at]
        generalize eA : dCpy A0 (1000 + 5) (25 + P) 0 0 5 = A
        have Af : ∀ a k, ¬ (a = 1 ∧ k = 2) → ¬ (a = 22 ∧ k = 2) → a ≠ 25 + P → A.1 a k = c.1 a k := fun a k h1 h2 h3 => by rw [← eA, dCpy_ne h3, A0f a k h1 h2]
        have Aat : (A.1 1 2).toInt = ((pS B L i + 1 : Nat) : Int) := by rw [← eA, dCpy_ne (by omega)]; exact A0at
        have A22 : A.1 22 2 = c.1 22 2 + 1 := by rw [← eA, dCpy_ne (by omega)]; exact A022
        have Ad : ∀ k, k < 5 → A.1 (25 + P) k = dSt0 1005 k := fun k hk => by
          rw [← eA, cpy_at (by omega) (by omega), A0f _ _ (by omega) (by omega), show 0 + (k - 0) = k by omega]
          exact X 1005 k (by omega)
        have Df : ∀ a k, ¬ (a = 0 ∧ (k = 10 ∨ k = 25)) → D.1 a k = d.1 a k := fun a k h1 => by rw [← eD, dPut_ne (fun z => h1 ⟨z.1, by omega⟩), dPut_ne (fun z => h1 ⟨z.1, by omega⟩), m3 a k (fun z => h1 ⟨z.1, by omega⟩)]
        have D2 : D.2 = d.2 := by rw [← eD]; exact m4
        have Dat : (D.1 0 10).toInt = ((pS B L i + 1 : Nat) : Int) := by rw [← eD, dPut_ne (by omega), dPut_at, i_add1 (by omega), m2]; omega
        have D25 : D.1 0 25 = c.1 22 2 + 1 := by rw [← eD, dPut_at]
        have k5 : (5 : Int32).toInt = 5 := rfl
        have ebb : (5 * (c.1 22 2 + 1 - 1)).toInt = ((5 * P : Nat) : Int) := by
          rw [Int32.add_sub_cancel, i_mul (by rw [k5, r1]; omega), k5, r1]
          omega
        obtain ⟨ok, j, c', d', z1, z2, z3, z4, z5, z6, z7, z8⟩ := R_items IK_p us_p ub_p (into := 25 + P) (to := 8) (base := 5 * P) (nnM := 35) (bI_ := 5 * (c.1 22 2 + 1 - 1)) (by omega) (by omega) ebb (by omega) (by omega) (PC_c (Af 1 1 (by omega) (by omega) (by omega)) (fun k => Af 2 k (by omega) (by omega) (by omega)) Pc) (PM_c (Df 0 9 (by omega)) (Df 0 8 (by omega)) (by rw [D2]) (fun k => Df 1 k (by omega)) (fun k => Df 2 k (by omega)) Pd) (fun a k ha => by rw [Af a k (by omega) (by omega) (by omega)]; exact X a k ha) Aat Dat (by omega) (by rw [Df 0 11 (by omega)]; exact hf) Ad
        rw [q2, z1, z2, Option.bind_some, Option.bind_some]
        have np1 : (c.1 22 2 + 1).toInt = ((P + 1 : Nat) : Int) := by rw [i_add1 (by omega), r1]; omega
        refine ⟨ok, j, c', d', rfl, rfl, z3, z4, fun a k hh => by rw [z5 a k hh.1 (fun z => hh.2.2.2.1 (by omega)), Af a k (fun z => hh.1 ⟨z.1, Or.inl z.2⟩) hh.2.1 (fun z => hh.2.2.2.1 (by omega))], fun a k hh => by rw [z6 a k (fun z => hh.1 ⟨z.1, by omega⟩) (fun z => hh.2.2 z.1), Df a k (fun z => hh.1 ⟨z.1, by omega⟩)], by rw [z7, D2], ?_⟩
        rcases z8 with ⟨y1, y2, y3, y4⟩ | y | y
        · refine Or.inl ⟨y1, y2, y3, P + 1, h, by omega, ?_, ?_, by omega, ?_, ?_, r6, fun k hk => ?_, fun p hp k hk => ?_, fun z k hk => ?_⟩
          · rw [z5 22 2 (by omega) (by omega), A22]; exact np1
          · rw [z5 22 2 (by omega) (by omega), A22, z6 0 25 (by omega) (by omega), D25]
          · rw [z5 41 2 (by omega) (by omega), Af 41 2 (by omega) (by omega) (by omega)]; exact r4
          · rw [z5 41 2 (by omega) (by omega), Af 41 2 (by omega) (by omega) (by omega), z6 0 27 (by omega) (by omega), Df 0 27 (by omega)]; exact r5
          · rw [z5 23 k (by omega) (by omega), Af 23 k (by omega) (by omega) (by omega), z6 6 _ (by omega) (by omega), Df 6 _ (by omega)]
            exact r7 k hk
          · by_cases e : p = P
            · rw [e]; exact y4 k hk
            · rw [z5 _ _ (by omega) (by omega), Af _ _ (by omega) (by omega) (by omega), z6 _ _ (by omega) (by omega), Df _ _ (by omega)]
              exact r8 p (by omega) k hk
          · rw [z5 23 k (by omega) (by omega), Af 23 k (by omega) (by omega) (by omega)]
            exact r9 z k hk
        · exact Or.inr (Or.inl y)
        · exact Or.inr (Or.inr y)
      · rw [if_neg p7, if_neg p7]
        exact no
    · rw [if_neg q2, if_neg q2]
      exact no
end CI
