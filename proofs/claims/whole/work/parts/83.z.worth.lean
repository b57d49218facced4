/-! PURE: what a LAW is worth -/
/-- the class's heap but for letters and stack -/
def fC (h h' : dH) : Prop := (∀ a k, a ≠ 43 → a ≠ 51 → h'.1 a k = h.1 a k) ∧ h'.2 = h.2
/-- the reference's heap but for what reading a LAW touches -/
def fM (h h' : dH) : Prop := (∀ a k, a ≠ 0 → a ≠ 4 → a ≠ 14 → h'.1 a k = h.1 a k) ∧ (∀ k, k < 8 ∨ 14 < k ∧ k ≠ 17 → h'.1 0 k = h.1 0 k) ∧ (∀ a, a ≠ 13 → h'.2.1 a = h.2.1 a) ∧ (mOK h → mOK h')
/-- six letters -/
def e6 (a b c d e f : Int32) : Nat → Int32 := fun k => if k = 0 then a else if k = 1 then b else if k = 2 then c else if k = 3 then d else if k = 4 then e else f
theorem xC_ext {env env' : Nat → Int32} (h : ∀ i, i < 6 → env i = env' i) (c : Int32) (st : List Int32) : xC env c st = xC env' c st := by
  unfold xC
  by_cases a : (0 : Int) ≤ c.toInt
  · rw [if_pos a, if_pos a]
  · rw [if_neg a, if_neg a]
    by_cases b : -6 ≤ c.toInt
    · rw [if_pos b, if_pos b, h _ (by omega)]
    · rw [if_neg b, if_neg b]
theorem xW_ext {env env' : Nat → Int32} (h : ∀ i, i < 6 → env i = env' i) : ∀ (cs : List Int32) (b : Bool) (st : List Int32), xW env cs b st = xW env' cs b st := by
  intro cs
  induction cs with
  | nil => intro b st; cases b <;> rfl
  | cons c cs ih =>
    intro b st
    cases b with
    | true => exact ih _ st
    | false =>
      rw [xW_c, xW_c, xC_ext h]
      by_cases a : c = -59
      · rw [if_pos a, if_pos a]
      · rw [if_neg a, if_neg a]
        by_cases b : c = -63
        · rw [if_pos b, if_pos b]
          cases st with
          | nil => rfl
          | cons x r => exact ih _ r
        · rw [if_neg b, if_neg b]
          cases xC env' c st with
          | none => rfl
          | some s => exact ih false s
theorem wS_ext {env env' : Nat → Int32} (h : ∀ i, i < 6 → env i = env' i) (tx ln : Nat → Int32) (j : Nat) : wS tx ln j env = wS tx ln j env' := by
  unfold wS xWorth
  cases pLaw (tOf tx j) (dI (ln j)) with
  | inl e => rfl
  | inr cs => exact congrArg (fun z : Option Int32 => z.getD 0) (xW_ext h cs false [])
theorem go_M {B : Nat → Nat} {L bs : Nat} {env : Nat → Int32} {x2 x3 : Int32} {h : dH} (hP : ∀ d : dH, d.1 0 9 = x3 → d.1 0 8 = x2 → d.2.2 = bs → (∀ k, d.1 1 k = h.1 1 k) → (∀ k, d.1 2 k = h.1 2 k) → PM d B L) (hE : EV env h) :
    ∃ d', f_X12_goThrough bs x2 x3 h = some d' ∧ (∀ a k, ¬ (a = 0 ∧ (8 ≤ k ∧ k ≤ 14 ∨ k = 17)) → d'.1 a k = h.1 a k) ∧ d'.2.1 = h.2.1 ∧ (∀ e, pLaw B L = .inl e → d'.1 0 11 = Int32.ofNat e ∧ e ≤ L) ∧ (∀ ds, pLaw B L = .inr ds → d'.1 0 11 = -1 ∧ xWOK env ds false [] ∧ d'.1 0 14 = xWorth env ds) := by
  have ee : f_X12_goThrough bs x2 x3 h = (f_X12_clause (dPut (dPut (dPut (dPut (dPut (dPut (dPut (dPut (dPutT h bs) 0 8 x2) 0 9 x3) 0 10 0) 0 11 (-1)) 0 13 121) 0 12 0) 0 17 0) 0 14 0)).bind (f_X12_goThrough_L32 bs dFu) := by
    unfold f_X12_goThrough f_X12_starts
    rfl
  generalize eD : (dPut (dPut (dPut (dPut (dPut (dPut (dPut (dPut (dPutT h bs) 0 8 x2) 0 9 x3) 0 10 0) 0 11 (-1)) 0 13 121) 0 12 0) 0 17 0) 0 14 0) = D at ee
  have Df : ∀ a k, ¬ (a = 0 ∧ (8 ≤ k ∧ k ≤ 14 ∨ k = 17)) → D.1 a k = h.1 a k := fun a k z => by
    rw [← eD, dPut_ne (by omega), dPut_ne (by omega), dPut_ne (by omega), dPut_ne (by omega), dPut_ne (by omega), dPut_ne (by omega), dPut_ne (by omega), dPut_ne (by omega)]
    rfl
  have D8 : D.1 0 8 = x2 := by rw [← eD, dPut_ne (by omega), dPut_ne (by omega), dPut_ne (by omega), dPut_ne (by omega), dPut_ne (by omega), dPut_ne (by omega), dPut_ne (by omega), dPut_at]
  have D9 : D.1 0 9 = x3 := by rw [← eD, dPut_ne (by omega), dPut_ne (by omega), dPut_ne (by omega), dPut_ne (by omega), dPut_ne (by omega), dPut_ne (by omega), dPut_at]
  have D10 : D.1 0 10 = 0 := by rw [← eD, dPut_ne (by omega), dPut_ne (by omega), dPut_ne (by omega), dPut_ne (by omega), dPut_ne (by omega), dPut_at]
  have D11 : D.1 0 11 = -1 := by rw [← eD, dPut_ne (by omega), dPut_ne (by omega), dPut_ne (by omega), dPut_ne (by omega), dPut_at]
  have D13 : D.1 0 13 = 121 := by rw [← eD, dPut_ne (by omega), dPut_ne (by omega), dPut_ne (by omega), dPut_at]
  have D12 : D.1 0 12 = 0 := by rw [← eD, dPut_ne (by omega), dPut_ne (by omega), dPut_at]
  have D17 : D.1 0 17 = 0 := by rw [← eD, dPut_ne (by omega), dPut_at]
  have D14 : D.1 0 14 = 0 := by rw [← eD, dPut_at]
  have D2 : D.2 = (h.2.1, bs) := by rw [← eD]; rfl
  have P := hP D D9 D8 (by rw [D2]) (fun k => Df 1 k (by omega)) (fun k => Df 2 k (by omega))
  have hL := P.2.1
  have ED : EV env D := by
    obtain ⟨a, b, c, x, y, z⟩ := hE
    refine ⟨?_, ?_, ?_, ?_, ?_, ?_⟩ <;> rw [Df _ _ (by omega)] <;> assumption
  have S : SM B L 0 0 D := ⟨P, by rw [D10]; rfl, by omega, D11, by rw [D12]; rfl⟩
  obtain ⟨d', r1, r2, r3, r4⟩ := lp_goLaw hL bs (L + 1) dFu 241 0 [] D (by omega) (fuel_lt (by omega)) (by omega) S ED D13 (fun _ => D14)
  refine ⟨d', by rw [ee, r1], fun a k z => by rw [r2.1 a k (by omega), Df a k z], by rw [r2.2, D2], r3, fun ds hd => ?_⟩
  obtain ⟨a1, tl, a2, a3, a4⟩ := r4 ds hd
  have e : ds = tl := by rw [a2]; rfl
  rw [if_pos D17] at a4
  rw [e]
  exact ⟨a1, a3, a4⟩
theorem l_k4 {v : Int64} {x : Int32} (h : 0 ≤ v.toInt ∧ v.toInt ≤ 1000000000000) : (4 * v + x.toInt64).toInt = v.toInt * 4 + x.toInt := by
  have := i_rng x
  have e : (4 * v).toInt = 4 * v.toInt := by rw [Int64.toInt_mul, show (4 : Int64).toInt = 4 from rfl]; exact Int.bmod_eq_of_le (by omega) (by omega)
  rw [Int64.toInt_add, e, l_ofI, Int.bmod_eq_of_le (by omega) (by omega)]
  omega
theorem l_k20 {v : Int64} {x : Int32} (h : 0 ≤ v.toInt ∧ v.toInt ≤ 1000000000000) : (20 * v + x.toInt64).toInt = v.toInt * 20 + x.toInt := by
  have := i_rng x
  have e : (20 * v).toInt = 20 * v.toInt := by rw [Int64.toInt_mul, show (20 : Int64).toInt = 20 from rfl]; exact Int.bmod_eq_of_le (by omega) (by omega)
  rw [Int64.toInt_add, e, l_ofI, Int.bmod_eq_of_le (by omega) (by omega)]
  omega
theorem l_k40 {v : Int64} {x : Int32} (h : 0 ≤ v.toInt ∧ v.toInt ≤ 1000000000000) : (40 * v + x.toInt64).toInt = v.toInt * 40 + x.toInt := by
  have := i_rng x
  have e : (40 * v).toInt = 40 * v.toInt := by rw [Int64.toInt_mul, show (40 : Int64).toInt = 40 from rfl]; exact Int.bmod_eq_of_le (by omega) (by omega)
  rw [Int64.toInt_add, e, l_ofI, Int.bmod_eq_of_le (by omega) (by omega)]
  omega
theorem l_k200 {v : Int64} {x : Int32} (h : 0 ≤ v.toInt ∧ v.toInt ≤ 1000000000000) : (200 * v + x.toInt64).toInt = v.toInt * 200 + x.toInt := by
  have := i_rng x
  have e : (200 * v).toInt = 200 * v.toInt := by rw [Int64.toInt_mul, show (200 : Int64).toInt = 200 from rfl]; exact Int.bmod_eq_of_le (by omega) (by omega)
  rw [Int64.toInt_add, e, l_ofI, Int.bmod_eq_of_le (by omega) (by omega)]
  omega
theorem l_slot {v : Int64} (h : 0 ≤ v.toInt ∧ v.toInt ≤ 1000000000000000) : dIn ((v - v / 8191 * 8191).toInt32) 8191 := by
  have k : (8191 : Int64).toInt = 8191 := rfl
  have e1 : (v / 8191).toInt = v.toInt / 8191 := by
    rw [Int64.toInt_div, k, Int.tdiv_eq_ediv_of_nonneg h.1]
    exact Int.bmod_eq_of_le (by omega) (by omega)
  have e2 : (v / 8191 * 8191).toInt = v.toInt / 8191 * 8191 := by
    rw [Int64.toInt_mul, e1, k]
    exact Int.bmod_eq_of_le (by omega) (by omega)
  have e3 : (v - v / 8191 * 8191).toInt = v.toInt - v.toInt / 8191 * 8191 := by
    rw [Int64.toInt_sub, e2]
    exact Int.bmod_eq_of_le (by omega) (by omega)
  have e4 := l_to32 (x := v - v / 8191 * 8191) (by rw [e3]; omega)
  rw [e3] at e4
  generalize (v - v / 8191 * 8191).toInt32 = w at e4 ⊢
  exact ⟨by omega, by omega⟩
theorem mKey_inj {j j' : Nat} {env env' : Nat → Int32} (h1 : eOK env) (h2 : eOK env') (h : mKey j env = mKey j' env') : j = j' ∧ ∀ i, i < 6 → env i = env' i := by
  unfold mKey at h
  obtain ⟨a0, a1, a2, a3, a4, a5⟩ := h1
  obtain ⟨b0, b1, b2, b3, b4, b5⟩ := h2
  unfold bt at *
  have s200 : ∀ A A' e e' : Int, A * 200 + e = A' * 200 + e' → 0 ≤ e ∧ e ≤ 199 → 0 ≤ e' ∧ e' ≤ 199 → A = A' ∧ e = e' := fun A A' e e' => by omega
  have s40 : ∀ A A' e e' : Int, A * 40 + e = A' * 40 + e' → 0 ≤ e ∧ e ≤ 39 → 0 ≤ e' ∧ e' ≤ 39 → A = A' ∧ e = e' := fun A A' e e' => by omega
  have s20 : ∀ A A' e e' : Int, A * 20 + e = A' * 20 + e' → 0 ≤ e ∧ e ≤ 19 → 0 ≤ e' ∧ e' ≤ 19 → A = A' ∧ e = e' := fun A A' e e' => by omega
  have s4 : ∀ A A' e e' : Int, A * 4 + e = A' * 4 + e' → 0 ≤ e ∧ e ≤ 3 → 0 ≤ e' ∧ e' ≤ 3 → A = A' ∧ e = e' := fun A A' e e' => by omega
  obtain ⟨h, z5⟩ := s200 _ _ _ _ h a5 b5
  obtain ⟨h, z4⟩ := s200 _ _ _ _ h a4 b4
  obtain ⟨h, z3⟩ := s200 _ _ _ _ h a3 b3
  obtain ⟨h, z2⟩ := s40 _ _ _ _ h a2 b2
  obtain ⟨h, z1⟩ := s20 _ _ _ _ h a1 b1
  obtain ⟨h, z0⟩ := s4 _ _ _ _ h a0 b0
  refine ⟨by omega, fun i hi => ?_⟩
  rw [i_eq]
  match i, hi with
  | 0, _ => exact z0
  | 1, _ => exact z1
  | 2, _ => exact z2
  | 3, _ => exact z3
  | 4, _ => exact z4
  | 5, _ => exact z5
theorem R_worth {hC hM : dH} (L3 : Q3 hC hM) (mo : mOK hM) (hl : ¬ hC.1 42 2 = -1) (e0 : hC.1 43 0 = hM.1 4 107) (e1 : hC.1 43 1 = hM.1 4 118) (e2 : hC.1 43 2 = hM.1 4 111) (e3 : hC.1 43 3 = hM.1 4 104) (e4 : hC.1 43 4 = hM.1 4 110) (e5 : hC.1 43 5 = hM.1 4 116) (ok : eOK (hC.1 43)) :
    ∃ (v : Int32) (hC' hM' : dH), f_X5_worth hC = some (v, hC') ∧ f_X12_worthNow hM = some (v, hM') ∧ fC hC hC' ∧ fM hM hM' ∧ v = wS (hM.1 2) (hM.1 3) (dI (hC.1 42 2)) (e6 (hC.1 43 0) (hC.1 43 1) (hC.1 43 2) (hC.1 43 3) (hC.1 43 4) (hC.1 43 5)) := by
  generalize eE : e6 (hC.1 43 0) (hC.1 43 1) (hC.1 43 2) (hC.1 43 3) (hC.1 43 4) (hC.1 43 5) = env
  have env43 : ∀ i, i < 6 → hC.1 43 i = env i := fun i hi => by
    rw [← eE]
    match i, hi with
    | 0, _ => rfl
    | 1, _ => rfl
    | 2, _ => rfl
    | 3, _ => rfl
    | 4, _ => rfl
    | 5, _ => rfl
  have oke : eOK env := by
    unfold eOK at ok ⊢
    rw [← env43 0 (by omega), ← env43 1 (by omega), ← env43 2 (by omega), ← env43 3 (by omega), ← env43 4 (by omega), ← env43 5 (by omega)]
    exact ok
  have hE : EV env hM := ⟨by rw [← e0]; exact env43 0 (by omega), by rw [← e1]; exact env43 1 (by omega), by rw [← e2]; exact env43 2 (by omega), by rw [← e3]; exact env43 3 (by omega), by rw [← e4]; exact env43 4 (by omega), by rw [← e5]; exact env43 5 (by omega)⟩
  obtain ⟨q1, q2, q3, q4, q5⟩ := L3
  have hl' : ¬ (hC.1 42 2).toInt = -1 := fun z => hl (by rw [i_eq, z, tm1])
  have q31 := q3.1
  have q32 := q3.2
  have hl0 : 0 ≤ (hC.1 42 2).toInt ∧ (hC.1 42 2).toInt < (hC.1 42 1).toInt := by omega
  clear hl'
  obtain ⟨j, hj⟩ : ∃ j : Nat, (hC.1 42 2).toInt = j := ⟨(hC.1 42 2).toInt.toNat, by omega⟩
  have j4 : j < 4 := by omega
  obtain ⟨ln, tx, cs, pl, cl, sz, cd⟩ := q5 j (by omega)
  have dj : dI (hC.1 42 2) = j := dI_of hj
  rw [dj]
  obtain ⟨ll, hll⟩ : ∃ l : Nat, (hM.1 3 j).toInt = l := ⟨(hM.1 3 j).toInt.toNat, by have := ln.1; omega⟩
  have dl : dI (hM.1 3 j) = ll := dI_of hll
  have l240 : ll ≤ 240 := by have := ln.2; omega
  have hM30 : (hM.1 0 30).toInt = j := by rw [← q2]; exact hj
  have k240 : (240 : Int32).toInt = 240 := rfl
  have e240 : (240 * hM.1 0 30).toInt = ((240 * j : Nat) : Int) := by rw [i_mul (by rw [k240]; omega), k240, hM30]; omega
  have hPM : ∀ d : dH, d.1 0 9 = hM.1 3 j → d.1 0 8 = 240 * hM.1 0 30 → d.2.2 = 2 → (∀ k, d.1 1 k = hM.1 1 k) → (∀ k, d.1 2 k = hM.1 2 k) → PM d (tOf (hM.1 2) j) (dI (hM.1 3 j)) := fun d d9 d8 dt _ d2 => by
    refine ⟨by rw [d9, dl]; exact hll, by rw [dl]; exact l240, Or.inr dt, by rw [d8, e240]; omega, by rw [d8, dI_of e240, dt, bln2, dl]; omega, fun k hk => ?_, fun k => by unfold tOf bOf; omega⟩
    rw [dl] at hk
    rw [dt, d8, dI_of e240, d2]
    have := tx k (by omega)
    unfold bt at this
    unfold tOf bOf
    generalize (hM.1 2 (240 * j + k)).toInt = z at *
    split <;> omega
  obtain ⟨d', g1, g2, g3, g4, g5⟩ := go_M (env := env) hPM hE
  obtain ⟨f1, xo, f14⟩ := g5 cs pl
  have ews : wS (hM.1 2) (hM.1 3) j env = xWorth env cs := by unfold wS; rw [pl]
  have k0 : (0 : Int32).toInt = 0 := rfl
  -- the class
  obtain ⟨c', w1, w2, w3⟩ := lp_worth (env := env) (t := 45 + j) (jj := j) (N := cs.length) rfl (by omega) cl cs dFu 0 [] false 0 0 hC (fuel_lt (by omega)) (by omega) hj sz (fun i hi => by
    have := cd i hi
    unfold cCo at this
    rw [if_pos j4] at this
    rw [Nat.zero_add]
    exact this) env43 rfl rfl (by show 0 ≤ 64; omega) (fun i hi => absurd hi (by show ¬ i < 0; omega)) xo
  have wc : f_X5_worth hC = some (xWorth env cs, c') := by
    unfold f_X5_worth
    rw [if_neg (show ¬ hC.1 42 2 < 0 by rw [i_lt, k0]; omega), if_pos (show hC.1 42 2 < hC.1 42 1 by rw [i_lt]; omega), if_pos (dIn_of hj (show j < 5 by omega)), dj]
    exact w1
  have fc : fC hC c' := ⟨fun a k _ h => w2 a k h, w3⟩
  -- the key
  obtain ⟨a0, a1, a2, a3, a4, a5⟩ := oke
  have oke : eOK env := ⟨a0, a1, a2, a3, a4, a5⟩
  obtain ⟨x0, x1, x2, x3, x4, x5⟩ := hE
  unfold bt at a0 a1 a2 a3 a4 a5
  have mk : mKey j env = (((((((j : Int) + 1) * 4 + (env 0).toInt) * 20 + (env 1).toInt) * 40 + (env 2).toInt) * 200 + (env 3).toInt) * 200 + (env 4).toInt) * 200 + (env 5).toInt := rfl
  obtain ⟨v1, hv1⟩ : ∃ v1 : Int64, v1 = 1 + (hM.1 0 30).toInt64 := ⟨_, rfl⟩
  have t1' : v1.toInt = (j : Int) + 1 := by
    rw [hv1, Int64.toInt_add, l_ofI, hM30, show (1 : Int64).toInt = 1 from rfl, Int.bmod_eq_of_le (by omega) (by omega)]
    omega
  obtain ⟨v2, hv2⟩ : ∃ v2 : Int64, v2 = 4 * v1 + (hM.1 4 107).toInt64 := ⟨_, rfl⟩
  have t2 : v2.toInt = ((j : Int) + 1) * 4 + (env 0).toInt := by rw [hv2, l_k4 (by omega), t1', x0]
  obtain ⟨v3, hv3⟩ : ∃ v3 : Int64, v3 = 20 * v2 + (hM.1 4 118).toInt64 := ⟨_, rfl⟩
  have t3 : v3.toInt = v2.toInt * 20 + (env 1).toInt := by rw [hv3, l_k20 (by omega), x1]
  obtain ⟨v4, hv4⟩ : ∃ v4 : Int64, v4 = 40 * v3 + (hM.1 4 111).toInt64 := ⟨_, rfl⟩
  have t4 : v4.toInt = v3.toInt * 40 + (env 2).toInt := by rw [hv4, l_k40 (by omega), x2]
  obtain ⟨v5, hv5⟩ : ∃ v5 : Int64, v5 = 200 * v4 + (hM.1 4 104).toInt64 := ⟨_, rfl⟩
  have t5 : v5.toInt = v4.toInt * 200 + (env 3).toInt := by rw [hv5, l_k200 (by omega), x3]
  obtain ⟨v6, hv6⟩ : ∃ v6 : Int64, v6 = 200 * v5 + (hM.1 4 110).toInt64 := ⟨_, rfl⟩
  have t6 : v6.toInt = v5.toInt * 200 + (env 4).toInt := by rw [hv6, l_k200 (by omega), x4]
  obtain ⟨v7, hv7⟩ : ∃ v7 : Int64, v7 = 200 * v6 + (hM.1 4 116).toInt64 := ⟨_, rfl⟩
  have t7 : v7.toInt = v6.toInt * 200 + (env 5).toInt := by rw [hv7, l_k200 (by omega), x5]
  have t7m : v7.toInt = mKey j env := by rw [mk, t7, t6, t5, t4, t3, t2]
  have pos : 0 < v7.toInt := by omega
  have slot := l_slot (v := v7) (by omega)
  obtain ⟨v8, hv8⟩ : ∃ v8 : Int32, v8 = (v7 - v7 / 8191 * 8191).toInt32 := ⟨_, rfl⟩
  rw [← hv8] at slot
  have s8 : dI v8 < 8191 := by
    have := dI_c slot.1
    have := slot.2
    omega
  have eW : f_X12_worthNow hM = if lg_cmp (hM.2.1 13 (dI v8)) v7 = 0 then some (hM.1 14 (dI v8), hM) else some ((dPut (dPutL d' 13 (dI v8) v7) 14 (dI v8) (d'.1 0 14)).1 0 14, dPut (dPutL d' 13 (dI v8) v7) 14 (dI v8) (d'.1 0 14)) := by
    unfold f_X12_worthNow
    rw [Option.bind_some, ← hv1, Option.bind_some, ← hv2, Option.bind_some, ← hv3, Option.bind_some, ← hv4, Option.bind_some, ← hv5, Option.bind_some, ← hv6, Option.bind_some, ← hv7, Option.bind_some, ← hv8]
    rw [if_pos slot, if_pos slot, if_pos (dIn_of hM30 j4), dI_of hM30, g1, Option.bind_some, if_pos slot, Option.bind_some, if_pos slot]
    rfl
  rw [eW]
  by_cases hit : lg_cmp (hM.2.1 13 (dI v8)) v7 = 0
  · rw [if_pos hit]
    rw [l_cmp_eq] at hit
    refine ⟨xWorth env cs, c', hM, wc, ?_, fc, ⟨fun _ _ _ _ _ => rfl, fun _ _ => rfl, fun _ _ => rfl, id⟩, ews.symm⟩
    rcases mo (dI v8) s8 with z | ⟨j', env', z1, z2, z3, z4⟩
    · rw [hit] at z
      omega
    · rw [hit, t7m] at z3
      obtain ⟨ej, ee⟩ := mKey_inj oke z2 z3
      rw [z4, ← ej, ← wS_ext ee, ews]
  · rw [if_neg hit]
    have e14 : (dPut (dPutL d' 13 (dI v8) v7) 14 (dI v8) (d'.1 0 14)).1 0 14 = xWorth env cs := by
      rw [dPut_ne (by omega)]
      exact f14
    rw [e14]
    refine ⟨_, c', _, wc, rfl, fc, ⟨fun a k h1 h2 h3 => ?_, fun k hk => ?_, fun a ha => ?_, fun m => ?_⟩, ews.symm⟩
    · rw [dPut_ne (fun z => h3 z.1)]
      exact g2 a k (fun z => h1 z.1)
    · rw [dPut_ne (by omega)]
      exact g2 0 k (by omega)
    · show (dPutL d' 13 (dI v8) v7).2.1 a = _
      rw [dPutL_row_ne _ _ _ ha, g3]
    · intro s hs
      show ((dPutL d' 13 (dI v8) v7).2.1 13 s).toInt = 0 ∨ ∃ (j0 : Nat) (env0 : Nat → Int32), (j0 : Int) < ((dPut (dPutL d' 13 (dI v8) v7) 14 (dI v8) (d'.1 0 14)).1 0 7).toInt ∧ eOK env0 ∧ ((dPutL d' 13 (dI v8) v7).2.1 13 s).toInt = mKey j0 env0 ∧ (dPut (dPutL d' 13 (dI v8) v7) 14 (dI v8) (d'.1 0 14)).1 14 s = wS ((dPut (dPutL d' 13 (dI v8) v7) 14 (dI v8) (d'.1 0 14)).1 2) ((dPut (dPutL d' 13 (dI v8) v7) 14 (dI v8) (d'.1 0 14)).1 3) j0 env0
      have r2 : (dPut (dPutL d' 13 (dI v8) v7) 14 (dI v8) (d'.1 0 14)).1 2 = hM.1 2 := funext fun k => by rw [dPut_ne (by omega)]; exact g2 2 k (by omega)
      have r3 : (dPut (dPutL d' 13 (dI v8) v7) 14 (dI v8) (d'.1 0 14)).1 3 = hM.1 3 := funext fun k => by rw [dPut_ne (by omega)]; exact g2 3 k (by omega)
      have r7 : (dPut (dPutL d' 13 (dI v8) v7) 14 (dI v8) (d'.1 0 14)).1 0 7 = hM.1 0 7 := by rw [dPut_ne (by omega)]; exact g2 0 7 (by omega)
      rw [r2, r3, r7]
      by_cases z : s = dI v8
      · refine Or.inr ⟨j, env, by rw [← q1]; omega, oke, ?_, ?_⟩
        · rw [← t7m, z]
          show (if 13 = 13 ∧ dI v8 = dI v8 then v7 else _).toInt = _
          rw [if_pos ⟨rfl, rfl⟩]
        · rw [z, dPut_at, f14, ews]
      · have k1 : (dPutL d' 13 (dI v8) v7).2.1 13 s = hM.2.1 13 s := by
          show (if 13 = 13 ∧ s = dI v8 then v7 else d'.2.1 13 s) = _
          rw [if_neg (fun y => z y.2), g3]
        have k2 : (dPut (dPutL d' 13 (dI v8) v7) 14 (dI v8) (d'.1 0 14)).1 14 s = hM.1 14 s := by
          rw [dPut_ne (fun y => z y.2)]
          exact g2 14 s (by omega)
        rw [k1, k2]
        exact m s hs
