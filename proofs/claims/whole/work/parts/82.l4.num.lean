/-! PURE: numbers and ITEMS -/
/-- a number of at most md digits from the point, within lo .. hi -/
def rN (B : Nat → Nat) (L md : Nat) (lo hi : Int) (i : Nat) : Nat ⊕ (Nat × Nat) :=
  if pDig B L (pS B L i) then
    match pNum B L md (pS B L i) 0 with
    | .inl e => .inl e
    | .inr (j, v) => if (v : Int) < lo ∨ hi < v then .inl (j - 1) else .inr (j, v)
  else .inl (pS B L i)
theorem pNum_sp (B : Nat → Nat) (L : Nat) : ∀ (m i v : Nat), i ≤ L → (∀ e, pNum B L m i v = .inl e → i ≤ e ∧ e < L) ∧ (∀ j w, pNum B L m i v = .inr (j, w) → i ≤ j ∧ j ≤ L ∧ w < (v + 1) * 10 ^ m ∧ (j = i → pDig B L i = false)) := by
  intro m
  induction m with
  | zero =>
    intro i v hi
    show (∀ e, (if pDig B L i then Sum.inl i else Sum.inr (i, v)) = .inl e → _) ∧ (∀ j w, (if pDig B L i then Sum.inl i else Sum.inr (i, v)) = .inr (j, w) → _)
    by_cases q : pDig B L i = true
    · rw [if_pos q]
      have := pDig_sp q
      exact ⟨fun e he => by cases he; omega, fun j w he => by cases he⟩
    · rw [if_neg q]
      refine ⟨fun e he => by (cases he), fun j w he => ?_⟩
      cases he
      exact ⟨Nat.le_refl _, hi, by show v < (v + 1) * 1; omega, fun _ => Bool.eq_false_iff.mpr q⟩
  | succ m ih =>
    intro i v hi
    show (∀ e, (if pDig B L i then pNum B L m (i + 1) (10 * v + (B i - 48)) else Sum.inr (i, v)) = .inl e → _) ∧ (∀ j w, (if pDig B L i then pNum B L m (i + 1) (10 * v + (B i - 48)) else Sum.inr (i, v)) = .inr (j, w) → _)
    by_cases q : pDig B L i = true
    · rw [if_pos q]
      have sp := pDig_sp q
      obtain ⟨h1, h2⟩ := ih (i + 1) (10 * v + (B i - 48)) (by omega)
      refine ⟨fun e he => by have := h1 e he; omega, fun j w he => ?_⟩
      obtain ⟨a1, a2, a3, a4⟩ := h2 j w he
      refine ⟨by omega, a2, ?_, fun z => by omega⟩
      have : (10 * v + (B i - 48) + 1) * 10 ^ m ≤ ((v + 1) * 10) * 10 ^ m := Nat.mul_le_mul_right _ (by omega)
      rw [Nat.pow_succ, Nat.mul_comm (10 ^ m) 10, ← Nat.mul_assoc]
      omega
    · rw [if_neg q]
      refine ⟨fun e he => by (cases he), fun j w he => ?_⟩
      cases he
      refine ⟨Nat.le_refl _, hi, ?_, fun _ => Bool.eq_false_iff.mpr q⟩
      have : 1 ≤ 10 ^ (m + 1) := Nat.pow_pos (by omega)
      have h2 := Nat.mul_le_mul_left (v + 1) this
      omega
section NU
variable {c d : dH} {B : Nat → Nat} {L i : Nat} {x y : Int32}
/-- the class's loop of digits -/
theorem lp_num {md : Nat} (hmd : md ≤ 4) {lo hg : Int32} : ∀ (m n i v dg : Nat) (y : Int32) (c : dH), PC c B L → (c.1 1 2).toInt = i → i ≤ L → (c.1 1 3).toInt = v → y.toInt = dg → dg + m = md → m + 1 < n → v < 10 ^ dg → 
    ∃ c1 : dH, (∀ a k, ¬ (a = 1 ∧ (k = 2 ∨ k = 3)) → c1.1 a k = c.1 a k) ∧
      (∀ e, pNum B L m i v = .inl e → f_X9_readNumber_L13 n (Int32.ofNat md) lo hg y c = some (false, c1) ∧ (c1.1 1 2).toInt = e) ∧
      (∀ j w, pNum B L m i v = .inr (j, w) → f_X9_readNumber_L13 n (Int32.ofNat md) lo hg y c = f_X9_readNumber_J87 lo hg (Int32.ofNat (dg + (j - i))) c1 ∧ (c1.1 1 2).toInt = j ∧ (c1.1 1 3).toInt = w ∧ i ≤ j ∧ j ≤ i + m) := by
  intro m
  induction m with
  | zero =>
    intro n i v dg y c P hi hL hv hy hd hn hv2
    obtain ⟨n, rfl⟩ : ∃ z, n = z + 1 := ⟨n - 1, by omega⟩
    have hP := P.2.1
    have ey : y = Int32.ofNat md := by rw [i_eq, hy, i_ofNat (by omega)]; omega
    have e0 : pNum B L 0 i v = if pDig B L i then .inl i else .inr (i, v) := rfl
    refine ⟨c, fun _ _ _ => rfl, fun e he => ?_, fun j w he => ?_⟩
    · rw [e0] at he
      by_cases q : pDig B L i = true
      · rw [if_pos q] at he
        cases he
        have sp := pDig_sp q
        have hin : dIn (c.1 1 2) 240 := ⟨by omega, by omega⟩
        have es : c.1 2 i = sg B L i := by rw [i_eq, P.2.2.1 i sp.1, sg_in P.2.2.2 sp.1]
        rw [f_X9_readNumber_L13, if_pos (show c.1 1 2 < c.1 1 1 by rw [i_lt, P.1]; omega), if_pos hin, dI_of hi, es, C_isDigit P.2.2.2, if_pos q, if_pos ey]
        exact ⟨rfl, hi⟩
      · rw [if_neg q] at he; cases he
    · rw [e0] at he
      by_cases q : pDig B L i = true
      · rw [if_pos q] at he; cases he
      · rw [if_neg q] at he
        cases he
        have ed : Int32.ofNat (dg + (i - i)) = y := by rw [i_eq, hy, i_ofNat (by omega)]; omega
        rw [ed]
        refine ⟨?_, hi, hv, Nat.le_refl _, by omega⟩
        rw [f_X9_readNumber_L13]
        by_cases q0 : i < L
        · have hin : dIn (c.1 1 2) 240 := ⟨by omega, by omega⟩
          have es : c.1 2 i = sg B L i := by rw [i_eq, P.2.2.1 i q0, sg_in P.2.2.2 q0]
          rw [if_pos (show c.1 1 2 < c.1 1 1 by rw [i_lt, P.1]; omega), if_pos hin, dI_of hi, es, C_isDigit P.2.2.2, if_neg q]
        · rw [if_neg (show ¬ c.1 1 2 < c.1 1 1 by rw [i_lt, P.1]; omega)]
  | succ m ih =>
    intro n i v dg y c P hi hL hv hy hd hn hv2
    obtain ⟨n, rfl⟩ : ∃ z, n = z + 1 := ⟨n - 1, by omega⟩
    have hP := P.2.1
    have ny : ¬ y = Int32.ofNat md := fun z => by rw [i_eq, hy, i_ofNat (by omega)] at z; omega
    have e0 : pNum B L (m + 1) i v = if pDig B L i then pNum B L m (i + 1) (10 * v + (B i - 48)) else .inr (i, v) := rfl
    have p10 : 10 ^ dg ≤ 1000 := by
      rcases (show dg = 0 ∨ dg = 1 ∨ dg = 2 ∨ dg = 3 by omega) with rfl | rfl | rfl | rfl <;> decide
    by_cases q : pDig B L i = true
    · have sp := pDig_sp q
      have hin : dIn (c.1 1 2) 240 := ⟨by omega, by omega⟩
      have es : c.1 2 i = sg B L i := by rw [i_eq, P.2.2.1 i sp.1, sg_in P.2.2.2 sp.1]
      have k10 : (10 : Int32).toInt = 10 := rfl
      have k48 : (48 : Int32).toInt = 48 := rfl
      have ev : (c.1 1 3 * 10 + sg B L i - 48).toInt = ((10 * v + (B i - 48) : Nat) : Int) := by
        have a1 : (c.1 1 3 * 10).toInt = v * 10 := by rw [i_mul (by rw [hv, k10]; omega), hv, k10]
        have a2 := sg_in P.2.2.2 sp.1
        have a3 : (c.1 1 3 * 10 + sg B L i).toInt = v * 10 + B i := by rw [i_add (by rw [a1, a2]; omega), a1, a2]
        rw [i_sub (by rw [a3, k48]; omega), a3, k48]
        omega
      obtain ⟨c1, f1, f2, f3⟩ := ih n (i + 1) (10 * v + (B i - 48)) (dg + 1) (y + 1) (dPut (dPut c 1 3 (c.1 1 3 * 10 + sg B L i - 48)) 1 2 ((dPut c 1 3 (c.1 1 3 * 10 + sg B L i - 48)).1 1 2 + 1)) (PC_c (by rw [dPut_ne (by omega), dPut_ne (by omega)]) (fun k => by rw [dPut_ne (by omega), dPut_ne (by omega)]) P) (by rw [dPut_at, dPut_ne (by omega), i_add1 (by omega), hi]; omega) (by omega) (by rw [dPut_ne (by omega), dPut_at]; exact ev) (y_suc hy (by omega)) (by omega) (by omega) (by rw [Nat.pow_succ]; omega)
      have st : f_X9_readNumber_L13 (n + 1) (Int32.ofNat md) lo hg y c = f_X9_readNumber_L13 n (Int32.ofNat md) lo hg (y + 1) (dPut (dPut c 1 3 (c.1 1 3 * 10 + sg B L i - 48)) 1 2 ((dPut c 1 3 (c.1 1 3 * 10 + sg B L i - 48)).1 1 2 + 1)) := by
        rw [f_X9_readNumber_L13, if_pos (show c.1 1 2 < c.1 1 1 by rw [i_lt, P.1]; omega), if_pos hin, dI_of hi, es, C_isDigit P.2.2.2, if_pos q, if_neg ny, if_pos hin, Option.bind_some, Option.bind_some]
      rw [e0, if_pos q, st]
      refine ⟨c1, fun a k h => ?_, f2, fun j w he => ?_⟩
      · rw [f1 a k h, dPut_ne (fun z => h ⟨z.1, Or.inl z.2⟩), dPut_ne (fun z => h ⟨z.1, Or.inr z.2⟩)]
      · obtain ⟨g1, g2, g3, g4, g5⟩ := f3 j w he
        exact ⟨by rw [g1]; congr 2; omega, g2, g3, by omega, by omega⟩
    · rw [e0, if_neg q]
      refine ⟨c, fun _ _ _ => rfl, fun e he => by (cases he), fun j w he => ?_⟩
      cases he
      have ed : Int32.ofNat (dg + (i - i)) = y := by rw [i_eq, hy, i_ofNat (by omega)]; omega
      rw [ed]
      refine ⟨?_, hi, hv, Nat.le_refl _, by omega⟩
      rw [f_X9_readNumber_L13]
      by_cases q0 : i < L
      · have hin : dIn (c.1 1 2) 240 := ⟨by omega, by omega⟩
        have es : c.1 2 i = sg B L i := by rw [i_eq, P.2.2.1 i q0, sg_in P.2.2.2 q0]
        rw [if_pos (show c.1 1 2 < c.1 1 1 by rw [i_lt, P.1]; omega), if_pos hin, dI_of hi, es, C_isDigit P.2.2.2, if_neg q]
      · rw [if_neg (show ¬ c.1 1 2 < c.1 1 1 by rw [i_lt, P.1]; omega)]
theorem C_num {md : Nat} (hmd : 1 ≤ md ∧ md ≤ 4) (lo hi : Int32) (P : PC c B L) (hi' : (c.1 1 2).toInt = i) (hL : i ≤ L) :
    ∃ c1 : dH, (∀ a k, ¬ (a = 1 ∧ (k = 2 ∨ k = 3)) → c1.1 a k = c.1 a k) ∧
      (∀ e, rN B L md lo.toInt hi.toInt i = .inl e → f_X9_readNumber (Int32.ofNat md) lo hi c = some (false, c1) ∧ (c1.1 1 2).toInt = e ∧ e ≤ L) ∧
      (∀ j w, rN B L md lo.toInt hi.toInt i = .inr (j, w) → f_X9_readNumber (Int32.ofNat md) lo hi c = some (true, c1) ∧ (c1.1 1 2).toInt = j ∧ (c1.1 1 3).toInt = w ∧ j ≤ L ∧ i < j ∧ lo.toInt ≤ w ∧ (w : Int) ≤ hi.toInt) := by
  obtain ⟨c0, e1, e2, e3⟩ := C_sign P hi' hL
  have pl := pS_le (B := B) hL P.2.1
  have hP := P.2.1
  obtain ⟨c1, f1, f2, f3⟩ := lp_num (md := md) hmd.2 (lo := lo) (hg := hi) md dFu (pS B L i) 0 0 0 (dPut c0 1 3 0) (PC_c (by rw [dPut_ne (by omega), e3 1 1 (by omega)]) (fun k => by rw [dPut_ne (by omega), e3 2 k (by omega)]) P) (by rw [dPut_ne (by omega)]; exact e2) (by omega) (by rw [dPut_at]; rfl) rfl (by omega) (fuel_lt (by omega)) (by decide)
  have st : f_X9_readNumber (Int32.ofNat md) lo hi c = f_X9_readNumber_L13 dFu (Int32.ofNat md) lo hi 0 (dPut c0 1 3 0) := by
    unfold f_X9_readNumber
    rw [e1, Option.bind_some, Option.bind_some]
  have fr : ∀ a k, ¬ (a = 1 ∧ (k = 2 ∨ k = 3)) → c1.1 a k = c.1 a k := fun a k h => by rw [f1 a k h, dPut_ne (fun z => h ⟨z.1, Or.inr z.2⟩), e3 a k (fun z => h ⟨z.1, Or.inl z.2⟩)]
  rw [st]
  obtain ⟨sp1, sp2⟩ := pNum_sp B L md (pS B L i) 0 (by omega)
  -- no digit at all
  by_cases q : pDig B L (pS B L i) = true
  · cases hp : pNum B L md (pS B L i) 0 with
    | inl e =>
      have er : rN B L md lo.toInt hi.toInt i = .inl e := by
        unfold rN
        rw [if_pos q, hp]
      refine ⟨c1, fr, fun e' he => ?_, fun j w he => by rw [er] at he; cases he⟩
      rw [er] at he
      cases he
      obtain ⟨g1, g2⟩ := f2 e hp
      exact ⟨g1, g2, by have := sp1 e hp; omega⟩
    | inr r =>
      obtain ⟨j, w⟩ := r
      obtain ⟨g1, g2, g3, g4, g5⟩ := f3 j w hp
      obtain ⟨s1, s2, s3, s4⟩ := sp2 j w hp
      have hj : pS B L i < j := by
        rcases Nat.lt_or_ge (pS B L i) j with z | z
        · exact z
        · have := s4 (by omega)
          rw [this] at q
          cases q
      have er : rN B L md lo.toInt hi.toInt i = if (w : Int) < lo.toInt ∨ hi.toInt < w then .inl (j - 1) else .inr (j, w) := by
        unfold rN
        rw [if_pos q, hp]
      rw [er, g1]
      unfold f_X9_readNumber_J87 f_X9_readNumber_J110
      rw [if_neg (show ¬ Int32.ofNat (0 + (j - pS B L i)) = 0 by rw [i_eq, i_ofNat (by omega), t0]; omega)]
      by_cases z1 : c1.1 1 3 < lo
      · have z1' := z1
        rw [i_lt, g3] at z1'
        rw [if_pos (Or.inl z1'), if_pos z1]
        refine ⟨dPut c1 1 2 (c1.1 1 2 - 1), fun a k h => by rw [dPut_ne (fun z => h ⟨z.1, Or.inl z.2⟩), fr a k h], fun e he => ?_, fun j w he => by cases he⟩
        cases he
        exact ⟨rfl, by rw [dPut_at, i_sub (by rw [t1]; omega), t1, g2]; omega, by omega⟩
      · have z1' := z1
        rw [i_lt, g3] at z1'
        by_cases z2 : hi < c1.1 1 3
        · have z2' := z2
          rw [i_lt, g3] at z2'
          rw [if_pos (Or.inr z2'), if_neg z1, if_pos z2]
          refine ⟨dPut c1 1 2 (c1.1 1 2 - 1), fun a k h => by rw [dPut_ne (fun z => h ⟨z.1, Or.inl z.2⟩), fr a k h], fun e he => ?_, fun j w he => by cases he⟩
          cases he
          exact ⟨rfl, by rw [dPut_at, i_sub (by rw [t1]; omega), t1, g2]; omega, by omega⟩
        · have z2' := z2
          rw [i_lt, g3] at z2'
          rw [if_neg (by omega), if_neg z1, if_neg z2]
          refine ⟨c1, fr, fun e he => by (cases he), fun j w he => ?_⟩
          cases he
          exact ⟨rfl, g2, g3, by omega, by omega, by omega, by omega⟩
  · have q' := Bool.eq_false_iff.mpr q
    have er : rN B L md lo.toInt hi.toInt i = .inl (pS B L i) := by
      unfold rN
      rw [if_neg q]
    have hp : pNum B L md (pS B L i) 0 = .inr (pS B L i, 0) := by
      obtain ⟨md, rfl⟩ : ∃ z, md = z + 1 := ⟨md - 1, by omega⟩
      show (if pDig B L (pS B L i) then _ else _) = _
      rw [if_neg q]
    obtain ⟨g1, g2, g3, g4, g5⟩ := f3 _ _ hp
    rw [er]
    refine ⟨c1, fr, fun e he => ?_, fun j w he => by cases he⟩
    cases he
    rw [g1]
    unfold f_X9_readNumber_J87
    rw [if_pos (show Int32.ofNat (0 + (pS B L i - pS B L i)) = 0 by rw [Nat.sub_self]; rfl)]
    exact ⟨rfl, g2, by omega⟩
/-- the reference's number of two digits -/
theorem M_num (lo hi : Int32) (P : PM d B L) (hi' : (d.1 0 10).toInt = i) (hL : i ≤ L) (hf : d.1 0 11 = -1) :
    ∃ (w0 : Int32) (d1 : dH), f_X12_number lo hi d = some (w0, d1) ∧ (∀ a k, ¬ (a = 0 ∧ (k = 10 ∨ k = 11)) → d1.1 a k = d.1 a k) ∧ d1.2 = d.2 ∧
      (∀ e, rN B L 2 lo.toInt hi.toInt i = .inl e → d1.1 0 11 = Int32.ofNat e) ∧
      (∀ j w, rN B L 2 lo.toInt hi.toInt i = .inr (j, w) → d1.1 0 11 = -1 ∧ (d1.1 0 10).toInt = j ∧ w0.toInt = w) := by
  obtain ⟨d1, m1, m2, m3, m4⟩ := M_look P hi' hL
  have pl := pS_le (B := B) hL P.2.1
  have hP := P.2.1
  have P1 : PM d1 B L := PM_c (m3 0 9 (by omega)) (m3 0 8 (by omega)) (by rw [m4]) (fun k => m3 1 k (by omega)) (fun k => m3 2 k (by omega)) P
  have f1 : d1.1 0 11 = -1 := by rw [m3 0 11 (by omega)]; exact hf
  have k10 : (10 : Int32).toInt = 10 := rfl
  have k48 : (48 : Int32).toInt = 48 := rfl
  unfold f_X12_number
  rw [m1, Option.bind_some]
  dsimp only
  rw [M_isDigit P1 m2, Option.bind_some]
  have e2 : ∀ i v, pNum B L 2 i v = if pDig B L i then (if pDig B L (i + 1) then (if pDig B L (i + 1 + 1) then .inl (i + 1 + 1) else .inr (i + 1 + 1, 10 * (10 * v + (B i - 48)) + (B (i + 1) - 48))) else .inr (i + 1, 10 * v + (B i - 48))) else .inr (i, v) := fun i v => rfl
  by_cases q : pDig B L (pS B L i) = true
  · have sp := pDig_sp q
    rw [if_pos q, Option.bind_some]
    generalize eA : dPut d1 0 10 (d1.1 0 10 + 1) = A
    have Aat : (A.1 0 10).toInt = ((pS B L i + 1 : Nat) : Int) := by rw [← eA, dPut_at, i_add1 (by omega), m2]; omega
    have Af : ∀ a k, ¬ (a = 0 ∧ k = 10) → A.1 a k = d1.1 a k := fun a k h => by rw [← eA, dPut_ne h]
    have A2 : A.2 = d.2 := by rw [← eA]; exact m4
    have PA : PM A B L := PM_c (Af 0 9 (by omega)) (Af 0 8 (by omega)) (by rw [A2, m4]) (fun k => Af 1 k (by omega)) (fun k => Af 2 k (by omega)) P1
    have s1 := sg_in P.2.2.2.2.2.2 sp.1
    have v1 : (sg B L (pS B L i) - 48).toInt = ((B (pS B L i) - 48 : Nat) : Int) := by rw [i_sub (by rw [k48]; omega), s1, k48]; omega
    rw [M_isDigit PA Aat, Option.bind_some]
    -- behind the digits
    have J67 : ∀ (v : Nat) (vv : Int32) (j : Nat) (D : dH), pS B L i < j → j ≤ L → vv.toInt = v → (D.1 0 10).toInt = j → (∀ a k, ¬ (a = 0 ∧ k = 10) → D.1 a k = d1.1 a k) → D.2 = d.2 → (∃ (w0 : Int32) (d' : dH), f_X12_number_J67 lo hi vv D = some (w0, d') ∧ (∀ a k, ¬ (a = 0 ∧ (k = 10 ∨ k = 11)) → d'.1 a k = d.1 a k) ∧ d'.2 = d.2 ∧ (∀ e, (if pDig B L j then Sum.inl j else if (v : Int) < lo.toInt ∨ hi.toInt < v then .inl (j - 1) else .inr (j, v)) = .inl e → d'.1 0 11 = Int32.ofNat e) ∧ (∀ j' w, (if pDig B L j then Sum.inl j else if (v : Int) < lo.toInt ∨ hi.toInt < v then .inl (j - 1) else .inr (j, v)) = .inr (j', w) → d'.1 0 11 = -1 ∧ (d'.1 0 10).toInt = j' ∧ w0.toInt = w)) := by
      intro v vv j D hj1 hj2 hvv hD Df D2
      have PD : PM D B L := PM_c (Df 0 9 (by omega)) (Df 0 8 (by omega)) (by rw [D2, m4]) (fun k => Df 1 k (by omega)) (fun k => Df 2 k (by omega)) P1
      have D11 : D.1 0 11 = -1 := by rw [Df 0 11 (by omega)]; exact f1
      have fr : ∀ a k, ¬ (a = 0 ∧ (k = 10 ∨ k = 11)) → D.1 a k = d.1 a k := fun a k h => by rw [Df a k (fun z => h ⟨z.1, Or.inl z.2⟩), m3 a k (fun z => h ⟨z.1, Or.inl z.2⟩)]
      unfold f_X12_number_J67
      rw [M_isDigit PD hD, Option.bind_some]
      by_cases z : pDig B L j = true
      · rw [if_pos z, if_pos z, M_fails D11, Option.bind_some]
        refine ⟨_, _, rfl, fun a k h => by rw [dPut_ne (fun y => h ⟨y.1, Or.inr y.2⟩), fr a k h], D2, fun e he => ?_, fun j' w he => by cases he⟩
        cases he
        rw [dPut_at]
        exact (oNat hD).resolve_right (by omega)
      · rw [if_neg z, if_neg z, M_isIn, l_ofI, l_ofI, hvv]
        by_cases r : lo.toInt ≤ (v : Int) ∧ (v : Int) ≤ hi.toInt
        · rw [if_pos (decide_eq_true r), if_neg (by omega)]
          refine ⟨_, _, rfl, fr, D2, fun e he => by (cases he), fun j' w he => ?_⟩
          cases he
          exact ⟨D11, hD, hvv⟩
        · rw [if_neg (show ¬ decide (lo.toInt ≤ (v : Int) ∧ (v : Int) ≤ hi.toInt) = true by rw [decide_eq_true_iff]; exact r), if_pos (by omega), Option.bind_some, M_fails (by rw [dPut_ne (by omega)]; exact D11), Option.bind_some]
          refine ⟨_, _, rfl, fun a k h => by rw [dPut_ne (fun y => h ⟨y.1, Or.inr y.2⟩), dPut_ne (fun y => h ⟨y.1, Or.inl y.2⟩), fr a k h], D2, fun e he => ?_, fun j' w he => by cases he⟩
          cases he
          rw [dPut_at, dPut_at, i_eq, i_sub (by rw [t1]; omega), t1, hD, i_ofNat (by omega)]
          omega
    by_cases q2 : pDig B L (pS B L i + 1) = true
    · have sp2 := pDig_sp q2
      have s2 := sg_in P.2.2.2.2.2.2 sp2.1
      rw [if_pos q2, M_here PA Aat, Option.bind_some, Option.bind_some, Option.bind_some]
      have ev : (10 * (sg B L (pS B L i) - 48) + sg B L (pS B L i + 1) - 48).toInt = ((10 * (10 * 0 + (B (pS B L i) - 48)) + (B (pS B L i + 1) - 48) : Nat) : Int) := by
        have a1 : (10 * (sg B L (pS B L i) - 48)).toInt = 10 * ((B (pS B L i) - 48 : Nat) : Int) := by rw [i_mul (by rw [v1, k10]; omega), v1, k10]
        have a2 : (10 * (sg B L (pS B L i) - 48) + sg B L (pS B L i + 1)).toInt = 10 * ((B (pS B L i) - 48 : Nat) : Int) + B (pS B L i + 1) := by rw [i_add (by rw [a1, s2]; omega), a1, s2]
        rw [i_sub (by rw [a2, k48]; omega), a2, k48]
        omega
      obtain ⟨w0, d', u1, u2, u3, u4, u5⟩ := J67 _ _ (pS B L i + 1 + 1) (dPut A 0 10 (A.1 0 10 + 1)) (by omega) (by omega) ev (by rw [dPut_at, i_add1 (by omega), Aat]; omega) (fun a k h => by rw [dPut_ne h, Af a k h]) A2
      have er : rN B L 2 lo.toInt hi.toInt i = (if pDig B L (pS B L i + 1 + 1) then Sum.inl (pS B L i + 1 + 1) else if ((10 * (10 * 0 + (B (pS B L i) - 48)) + (B (pS B L i + 1) - 48) : Nat) : Int) < lo.toInt ∨ hi.toInt < ((10 * (10 * 0 + (B (pS B L i) - 48)) + (B (pS B L i + 1) - 48) : Nat) : Int) then .inl (pS B L i + 1 + 1 - 1) else .inr (pS B L i + 1 + 1, 10 * (10 * 0 + (B (pS B L i) - 48)) + (B (pS B L i + 1) - 48))) := by
        unfold rN
        rw [if_pos q, e2, if_pos q, if_pos q2]
        by_cases z : pDig B L (pS B L i + 1 + 1) = true
        · rw [if_pos z, if_pos z]
        · rw [if_neg z, if_neg z]
      rw [er]
      exact ⟨w0, d', u1, u2, u3, u4, u5⟩
    · rw [if_neg q2]
      obtain ⟨w0, d', u1, u2, u3, u4, u5⟩ := J67 (10 * 0 + (B (pS B L i) - 48)) _ (pS B L i + 1) A (by omega) (by omega) (by rw [v1]; omega) Aat Af A2
      have er : rN B L 2 lo.toInt hi.toInt i = (if pDig B L (pS B L i + 1) then Sum.inl (pS B L i + 1) else if ((10 * 0 + (B (pS B L i) - 48) : Nat) : Int) < lo.toInt ∨ hi.toInt < ((10 * 0 + (B (pS B L i) - 48) : Nat) : Int) then .inl (pS B L i + 1 - 1) else .inr (pS B L i + 1, 10 * 0 + (B (pS B L i) - 48))) := by
        unfold rN
        rw [if_pos q, e2, if_pos q, if_neg q2, if_neg q2]
      rw [er]
      exact ⟨w0, d', u1, u2, u3, u4, u5⟩
  · rw [if_neg q, M_fails f1, Option.bind_some]
    have er : rN B L 2 lo.toInt hi.toInt i = .inl (pS B L i) := by
      unfold rN
      rw [if_neg q]
    rw [er]
    refine ⟨_, _, rfl, fun a k h => by rw [dPut_ne (fun y => h ⟨y.1, Or.inr y.2⟩), m3 a k (fun y => h ⟨y.1, Or.inl y.2⟩)], m4, fun e he => ?_, fun j' w he => by cases he⟩
    cases he
    rw [dPut_at]
    exact (oNat m2).resolve_right (by omega)
end NU
