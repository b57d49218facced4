/-! PURE: DAYS told -/
section DA
variable {K : Int} {c d : dH} {B : Nat → Nat} {L i kk n : Nat} {x y row : Int32}
theorem four (s : Int32) : f_X11_placeIn 3 s = f_X12_spotOf 8 s ∧ (f_X12_spotOf 8 s = -1 ∨ bt 0 3 (f_X12_spotOf 8 s)) := by
  refine ⟨rfl, ?_⟩
  show sfindF s [119, 114, 98, 100] 0 = -1 ∨ bt 0 3 (sfindF s [119, 114, 98, 100] 0)
  unfold sfindF
  split
  · exact Or.inr ⟨by decide, by decide⟩
  · unfold sfindF
    split
    · exact Or.inr ⟨by decide, by decide⟩
    · unfold sfindF
      split
      · exact Or.inr ⟨by decide, by decide⟩
      · unfold sfindF
        split
        · exact Or.inr ⟨by decide, by decide⟩
        · exact Or.inl rfl
theorem R_step (Pc : PC c B L) (Pd : PM d B L) (hi : (c.1 1 2).toInt = i) (hj : (d.1 0 10).toInt = i) (hL : i ≤ L) (hf : d.1 0 11 = -1) (hk : (c.1 52 0).toInt = kk) (hk4 : kk ≤ 4) (hy : y.toInt = n) (hn : n < 16) (hr : row.toInt = ((128 + 2 * n : Nat) : Int)) :
    ∃ (ok : Bool) (j : Nat) (c' d' : dH), f_X3_readStep y c = some (ok, c') ∧ f_X12_readStep row d = some d' ∧ (c'.1 1 2).toInt = j ∧ (d'.1 0 10).toInt = j ∧ j ≤ L ∧ (∀ a k, ¬ (a = 1 ∧ k = 2) → ¬ (a = 54 + kk ∧ k = n) → ¬ (a = 60 + kk ∧ k = n) → c'.1 a k = c.1 a k) ∧ (∀ a k, ¬ (a = 0 ∧ k = 10) → ¬ (a = 0 ∧ k = 11) → ¬ (a = 9 ∧ (k = 128 + 2 * n ∨ k = 129 + 2 * n)) → d'.1 a k = d.1 a k) ∧ d'.2 = d.2 ∧ d'.1 0 11 = (if ok then -1 else Int32.ofNat j) ∧ (ok = true → c'.1 (54 + kk) n = d'.1 9 (128 + 2 * n) ∧ c'.1 (60 + kk) n = d'.1 9 (129 + 2 * n) ∧ bt 0 3 (c'.1 (54 + kk) n) ∧ bt (-1) 9 (c'.1 (60 + kk) n)) := by
  have hP := Pc.2.1
  have dk : dI (c.1 52 0) = kk := dI_of hk
  have hk5 : dIn (c.1 52 0) 5 := ⟨by omega, by omega⟩
  have hy16 : dIn y 16 := ⟨by omega, by omega⟩
  have dy : dI y = n := dI_of hy
  have hr1 : (row + 1).toInt = ((129 + 2 * n : Nat) : Int) := by rw [i_add1 (by omega), hr]; omega
  have ir : dIn row 160 := dIn_of hr (by omega)
  have ir1 : dIn (row + 1) 160 := dIn_of hr1 (by omega)
  have dr : dI row = 128 + 2 * n := dI_of hr
  have dr1 : dI (row + 1) = 129 + 2 * n := dI_of hr1
  obtain ⟨c1, e1, e2, e3⟩ := C_sign Pc hi hL
  obtain ⟨d1, m1, m2, m3, m4⟩ := M_look Pd hj hL
  have pl := pS_le (B := B) hL hP
  obtain ⟨f1, f2⟩ := four (sg B L (pS B L i))
  unfold f_X3_readStep f_X12_readStep
  rw [e1, m1]
  simp only [Option.bind_some]
  rw [f1]
  generalize hv : f_X12_spotOf 8 (sg B L (pS B L i)) = v at f2
  by_cases v1 : v = -1
  · rw [if_pos v1, if_pos v1, M_fails (by rw [m3 0 11 (by omega)]; exact hf)]
    refine ⟨false, pS B L i, c1, _, rfl, rfl, e2, by rw [dPut_ne (by omega)]; exact m2, pl.2, fun a k h1 _ _ => e3 a k h1, fun a k h1 h2 _ => by rw [dPut_ne h2, m3 a k h1], m4, ?_, fun z => by cases z⟩
    rw [dPut_at, if_neg (by decide)]
    exact (oNat m2).resolve_right (by omega)
  · have vb : bt 0 3 v := f2.resolve_left v1
    have vb1 := vb.1
    have vb2 := vb.2
    -- the sign is there
    have hin : pS B L i < L := by
      by_cases q : pS B L i < L
      · exact q
      · exfalso
        rw [sg_out q] at hv
        exact v1 (hv.symm.trans rfl)
    have c52 : (dPut c1 1 2 (c1.1 1 2 + 1)).1 52 0 = c.1 52 0 := by rw [dPut_ne (by omega), e3 52 0 (by omega)]
    have c52' : (dPut (dPut c1 1 2 (c1.1 1 2 + 1)) (54 + kk) n v).1 52 0 = c.1 52 0 := by rw [dPut_ne (by omega), c52]
    rw [if_neg v1, if_neg v1, c52, if_pos hk5, if_pos hy16, dk, dy, c52', if_pos hk5, if_pos hy16, dk]
    simp only [if_pos ir, if_pos ir1, dr, dr1]
    generalize eA : dPut (dPut (dPut c1 1 2 (c1.1 1 2 + 1)) (54 + kk) n v) (60 + kk) n (-1) = A
    generalize eD : dPut (dPut (dPut d1 0 10 (d1.1 0 10 + 1)) 9 (128 + 2 * n) v) 9 (129 + 2 * n) (-1) = D
    have Aat : (A.1 1 2).toInt = ((pS B L i + 1 : Nat) : Int) := by rw [← eA, dPut_ne (by omega), dPut_ne (by omega), dPut_at, i_add1 (by omega), e2]; omega
    have Aw : A.1 (54 + kk) n = v := by rw [← eA, dPut_ne (by omega), dPut_at]
    have Ad : A.1 (60 + kk) n = -1 := by rw [← eA, dPut_at]
    have Af : ∀ a k, ¬ (a = 1 ∧ k = 2) → ¬ (a = 54 + kk ∧ k = n) → ¬ (a = 60 + kk ∧ k = n) → A.1 a k = c.1 a k := fun a k h1 h2 h3 => by rw [← eA, dPut_ne h3, dPut_ne h2, dPut_ne h1, e3 a k h1]
    have Dat : (D.1 0 10).toInt = ((pS B L i + 1 : Nat) : Int) := by rw [← eD, dPut_ne (by omega), dPut_ne (by omega), dPut_at, i_add1 (by omega), m2]; omega
    have Dw : D.1 9 (128 + 2 * n) = v := by rw [← eD, dPut_ne (by omega), dPut_at]
    have Dd : D.1 9 (129 + 2 * n) = -1 := by rw [← eD, dPut_at]
    have Df : ∀ a k, ¬ (a = 0 ∧ k = 10) → ¬ (a = 9 ∧ (k = 128 + 2 * n ∨ k = 129 + 2 * n)) → D.1 a k = d.1 a k := fun a k h1 h2 => by rw [← eD, dPut_ne (by omega), dPut_ne (by omega), dPut_ne h1, m3 a k h1]
    have D2 : D.2 = d.2 := by rw [← eD]; exact m4
    have Df11 : D.1 0 11 = -1 := by rw [Df 0 11 (by omega) (by omega)]; exact hf
    have PA : PC A B L := PC_c (Af 1 1 (by omega) (by omega) (by omega)) (fun k => Af 2 k (by omega) (by omega) (by omega)) Pc
    have PD : PM D B L := PM_c (Df 0 9 (by omega) (by omega)) (Df 0 8 (by omega) (by omega)) (by rw [D2]) (fun k => Df 1 k (by omega) (by omega)) (fun k => Df 2 k (by omega) (by omega)) Pd
    have A52 : A.1 52 0 = c.1 52 0 := Af 52 0 (by omega) (by omega) (by omega)
    have k1 : (1 : Int32).toInt = 1 := rfl
    have k2 : (2 : Int32).toInt = 2 := rfl
    have k3 : (3 : Int32).toInt = 3 := rfl
    -- one of w and b: a digit
    have dig : ∃ (ok : Bool) (j : Nat) (c' d' : dH), f_X3_readStep_J68 y A = some (ok, c') ∧ ((f_X12_look D).bind fun rv9 => (f_X12_isDigit rv9.2).bind fun v11 => if v11 = true then some (dPut (dPut rv9.2 9 (129 + 2 * n) (rv9.1 - 48)) 0 10 ((dPut rv9.2 9 (129 + 2 * n) (rv9.1 - 48)).1 0 10 + 1)) else (f_X12_fails rv9.2).bind fun rv14 => some rv14.2) = some d' ∧ (c'.1 1 2).toInt = j ∧ (d'.1 0 10).toInt = j ∧ j ≤ L ∧ (∀ a k, ¬ (a = 1 ∧ k = 2) → ¬ (a = 54 + kk ∧ k = n) → ¬ (a = 60 + kk ∧ k = n) → c'.1 a k = c.1 a k) ∧ (∀ a k, ¬ (a = 0 ∧ k = 10) → ¬ (a = 0 ∧ k = 11) → ¬ (a = 9 ∧ (k = 128 + 2 * n ∨ k = 129 + 2 * n)) → d'.1 a k = d.1 a k) ∧ d'.2 = d.2 ∧ d'.1 0 11 = (if ok then -1 else Int32.ofNat j) ∧ (ok = true → c'.1 (54 + kk) n = d'.1 9 (128 + 2 * n) ∧ c'.1 (60 + kk) n = d'.1 9 (129 + 2 * n) ∧ bt 0 3 (c'.1 (54 + kk) n) ∧ bt (-1) 9 (c'.1 (60 + kk) n)) := by
      obtain ⟨A1, g1, g2, g3⟩ := C_sign PA Aat (by omega)
      obtain ⟨D1, w1, w2, w3, w4⟩ := M_look PD Dat (by omega)
      have pl2 := pS_le (B := B) (i := pS B L i + 1) (L := L) (by omega) hP
      have PD1 : PM D1 B L := PM_c (w3 0 9 (by omega)) (w3 0 8 (by omega)) (by rw [w4]) (fun k => w3 1 k (by omega)) (fun k => w3 2 k (by omega)) PD
      unfold f_X3_readStep_J68
      rw [g1, w1]
      simp only [Option.bind_some]
      rw [C_isDigit Pc.2.2.2, M_isDigit PD1 w2]
      simp only [Option.bind_some]
      by_cases dg : pDig B L (pS B L (pS B L i + 1)) = true
      · have sp := pDig_sp dg
        have es := sg_in Pc.2.2.2 sp.1
        have k48 : (48 : Int32).toInt = 48 := rfl
        have ev : (sg B L (pS B L (pS B L i + 1)) - 48).toInt = (B (pS B L (pS B L i + 1)) : Int) - 48 := by rw [i_sub (by rw [k48]; omega), es, k48]
        rw [if_pos dg, if_pos dg, g3 52 0 (by omega), A52, if_pos hk5, if_pos hy16, dk, dy]
        refine ⟨true, pS B L (pS B L i + 1) + 1, _, _, rfl, rfl, ?_, ?_, by omega, fun a k h1 h2 h3 => ?_, fun a k h1 h2 h3 => ?_, ?_, ?_, fun _ => ⟨?_, ?_, ?_, ?_⟩⟩
        · rw [dPut_at, dPut_ne (by omega), i_add1 (by omega), g2]; omega
        · rw [dPut_at, dPut_ne (by omega), i_add1 (by omega), w2]; omega
        · rw [dPut_ne h1, dPut_ne h3, g3 a k h1, Af a k h1 h2 h3]
        · rw [dPut_ne h1, dPut_ne (by omega), w3 a k h1, Df a k h1 h3]
        · show D1.2 = d.2
          rw [w4, D2]
        · rw [dPut_ne (by omega), dPut_ne (by omega), w3 0 11 (by omega), Df11, if_pos rfl]
        · rw [dPut_ne (by omega), dPut_ne (by omega), g3 _ _ (by omega), Aw, dPut_ne (by omega), dPut_ne (by omega), w3 _ _ (by omega), Dw]
        · rw [dPut_ne (by omega), dPut_at, dPut_ne (by omega), dPut_at]
        · rw [dPut_ne (by omega), dPut_ne (by omega), g3 _ _ (by omega), Aw]
          exact vb
        · rw [dPut_ne (by omega), dPut_at]
          exact ⟨by omega, by omega⟩
      · rw [if_neg dg, if_neg dg, M_fails (by rw [w3 0 11 (by omega)]; exact Df11), Option.bind_some]
        refine ⟨false, pS B L (pS B L i + 1), A1, _, rfl, rfl, g2, by rw [dPut_ne (by omega)]; exact w2, pl2.2, fun a k h1 h2 h3 => by rw [g3 a k h1, Af a k h1 h2 h3], fun a k h1 h2 h3 => by rw [dPut_ne h2, w3 a k h1, Df a k h1 h3], by show D1.2 = d.2; rw [w4, D2], ?_, fun z => by cases z⟩
        rw [dPut_at, if_neg (by decide)]
        exact (oNat w2).resolve_right (by omega)
    -- r and d: none
    have nod : ∃ (ok : Bool) (j : Nat) (c' d' : dH), some (true, A) = some (ok, c') ∧ some D = some d' ∧ (c'.1 1 2).toInt = j ∧ (d'.1 0 10).toInt = j ∧ j ≤ L ∧ (∀ a k, ¬ (a = 1 ∧ k = 2) → ¬ (a = 54 + kk ∧ k = n) → ¬ (a = 60 + kk ∧ k = n) → c'.1 a k = c.1 a k) ∧ (∀ a k, ¬ (a = 0 ∧ k = 10) → ¬ (a = 0 ∧ k = 11) → ¬ (a = 9 ∧ (k = 128 + 2 * n ∨ k = 129 + 2 * n)) → d'.1 a k = d.1 a k) ∧ d'.2 = d.2 ∧ d'.1 0 11 = (if ok then -1 else Int32.ofNat j) ∧ (ok = true → c'.1 (54 + kk) n = d'.1 9 (128 + 2 * n) ∧ c'.1 (60 + kk) n = d'.1 9 (129 + 2 * n) ∧ bt 0 3 (c'.1 (54 + kk) n) ∧ bt (-1) 9 (c'.1 (60 + kk) n)) :=
      ⟨true, _, A, D, rfl, rfl, Aat, Dat, by omega, Af, fun a k h1 _ h3 => Df a k h1 h3, D2, by rw [if_pos rfl]; exact Df11, fun _ => ⟨by rw [Aw, Dw], by rw [Ad, Dd], by rw [Aw]; exact vb, by rw [Ad]; exact ⟨by decide, by decide⟩⟩⟩
    by_cases z0 : v = 0
    · rw [if_pos z0, if_neg (show ¬ v = 1 by rw [z0]; decide), if_neg (show ¬ v = 3 by rw [z0]; decide)]
      exact dig
    · by_cases z2 : v = 2
      · rw [if_neg z0, if_pos z2, if_neg (show ¬ v = 1 by rw [z2]; decide), if_neg (show ¬ v = 3 by rw [z2]; decide)]
        exact dig
      · rw [if_neg z0, if_neg z2]
        by_cases z1 : v = 1
        · rw [if_pos z1]
          exact nod
        · rw [if_neg z1, if_pos (show v = 3 by rw [i_eq, t0] at z0; rw [i_eq, k2] at z2; rw [i_eq, t1] at z1; rw [i_eq, k3]; omega)]
          exact nod
/-- what is read of DAYS: the class's draft, the reference's -/
def DR (kk N : Nat) (c d : dH) : Prop := ∀ i, i < N → c.1 (54 + kk) i = d.1 9 (128 + 2 * i) ∧ c.1 (60 + kk) i = d.1 9 (129 + 2 * i) ∧ bt 0 3 (c.1 (54 + kk) i) ∧ bt (-1) 9 (c.1 (60 + kk) i)
def kdC (kk a k : Nat) : Prop := ¬ (a = 1 ∧ k = 2) ∧ a ≠ 54 + kk ∧ a ≠ 60 + kk ∧ ¬ (a = 65 ∧ k = kk)
def kdM (a k : Nat) : Prop := ¬ (a = 0 ∧ (k = 10 ∨ k = 11)) ∧ ¬ (a = 9 ∧ 128 ≤ k) ∧ ¬ (a = 10 ∧ k = 4)
theorem lp_days (hk4 : kk ≤ 4) : ∀ (m nf nf2 n i : Nat) (y : Int32) (c d : dH), n + m = 16 → m < nf → m + 1 < nf2 → 1 ≤ m → PC c B L → PM d B L → (c.1 1 2).toInt = i → (d.1 0 10).toInt = i → i ≤ L → d.1 0 11 = -1 → (c.1 52 0).toInt = kk → y.toInt = n → DR kk n c d →
    ∃ (r : Int32) (c' d' : dH), f_X3_findFault_L10 nf y c = some (r, c') ∧ f_X12_readDays_L17 nf2 y true d = some d' ∧ d'.1 0 11 = r ∧ (∀ a k, kdC kk a k → c'.1 a k = c.1 a k) ∧ (∀ a k, kdM a k → d'.1 a k = d.1 a k) ∧ d'.2 = d.2 ∧ (r = -1 → ∃ N : Nat, 1 ≤ N ∧ N ≤ 16 ∧ (c'.1 65 kk).toInt = N ∧ (d'.1 10 4).toInt = N ∧ DR kk N c' d') := by
  intro m
  induction m with
  | zero => intro nf nf2 n i y c d h1 h2 h3 h4; omega
  | succ m ih =>
    intro nf nf2 n i y c d hm hnf hnf2 _ Pc Pd hi hj hL hf hk hy D0
    obtain ⟨nf, rfl⟩ : ∃ z, nf = z + 1 := ⟨nf - 1, by omega⟩
    obtain ⟨nf2, rfl⟩ : ∃ z, nf2 = z + 1 := ⟨nf2 - 1, by omega⟩
    have hP := Pc.2.1
    have k16 : (16 : Int32).toInt = 16 := rfl
    have k15 : (15 : Int32).toInt = 15 := rfl
    have k64 : (64 : Int32).toInt = 64 := rfl
    have k2 : (2 : Int32).toInt = 2 := rfl
    have er : (2 * (64 + y)).toInt = ((128 + 2 * n : Nat) : Int) := by
      have : (64 + y).toInt = 64 + n := by rw [i_add (by rw [k64]; omega), k64, hy]
      rw [i_mul (by rw [this, k2]; omega), this, k2]
      omega
    obtain ⟨ok, j, c1, d1, e1, e2, at1, at2, jL, fc, fd, fd2, flt, dat⟩ := R_step Pc Pd hi hj hL hf hk hk4 hy (by omega) er
    rw [f_X3_findFault_L10, f_X12_readDays_L17, if_pos (show y < 16 by rw [i_lt, k16]; omega), if_pos rfl, e1, e2]
    simp only [Option.bind_some]
    cases ok with
    | false =>
      rw [if_neg (by decide)] at flt
      have hne : ¬ d1.1 0 11 = -1 := by
        rw [flt]
        intro z
        rw [i_eq, i_ofNat (by omega), tm1] at z
        omega
      rw [if_neg (show ¬ false = true by decide), if_neg hne]
      have ej : c1.1 1 2 = Int32.ofNat j := (oNat at1).resolve_right (by omega)
      refine ⟨_, c1, d1, rfl, rfl, by rw [flt, ej], fun a k h => fc a k h.1 (fun z => h.2.1 z.1) (fun z => h.2.2.1 z.1), fun a k h => fd a k (fun z => h.1 ⟨z.1, Or.inl z.2⟩) (fun z => h.1 ⟨z.1, Or.inr z.2⟩) (fun z => h.2.1 ⟨z.1, by rcases z.2 with q | q <;> omega⟩), fd2, fun z => ?_⟩
      exfalso
      rw [ej, i_eq, i_ofNat (by omega), tm1] at z
      omega
    | true =>
      rw [if_pos rfl] at flt
      have c52 : c1.1 52 0 = c.1 52 0 := fc 52 0 (by omega) (by omega) (by omega)
      have hk5 : dIn (c.1 52 0) 5 := ⟨by omega, by omega⟩
      have dk : dI (c.1 52 0) = kk := dI_of hk
      rw [if_pos rfl, if_pos flt, c52, if_pos hk5, dk]
      generalize eA : dPut c1 65 kk (y + 1) = A
      have Af : ∀ a k, ¬ (a = 65 ∧ k = kk) → A.1 a k = c1.1 a k := fun a k h => by rw [← eA, dPut_ne h]
      have A65 : (A.1 65 kk).toInt = ((n + 1 : Nat) : Int) := by rw [← eA, dPut_at, i_add1 (by omega), hy]; omega
      have PA : PC A B L := PC_c (by rw [Af 1 1 (by omega), fc 1 1 (by omega) (by omega) (by omega)]) (fun k => by rw [Af 2 k (by omega), fc 2 k (by omega) (by omega) (by omega)]) Pc
      have PD : PM d1 B L := PM_c (fd 0 9 (by omega) (by omega) (by omega)) (fd 0 8 (by omega) (by omega) (by omega)) (by rw [fd2]) (fun k => fd 1 k (by omega) (by omega) (by omega)) (fun k => fd 2 k (by omega) (by omega) (by omega)) Pd
      have Aat : (A.1 1 2).toInt = j := by rw [Af 1 2 (by omega)]; exact at1
      have DRn : DR kk (n + 1) A d1 := fun i hi => by
        rw [Af _ _ (by omega), Af _ _ (by omega)]
        by_cases q : i = n
        · rw [q]
          exact dat rfl
        · rw [fc _ _ (by omega) (by omega) (by omega), fc _ _ (by omega) (by omega) (by omega), fd _ _ (by omega) (by omega) (by omega), fd _ _ (by omega) (by omega) (by omega)]
          exact D0 i (by omega)
      obtain ⟨A1, g1, g2, g3⟩ := C_sign PA Aat jL
      obtain ⟨D1, w1, w2, w3, w4⟩ := M_look PD at2 jL
      have pl := pS_le (B := B) jL hP
      have PA1 : PC A1 B L := PC_c (g3 1 1 (by omega)) (fun k => g3 2 k (by omega)) PA
      have PD1 : PM D1 B L := PM_c (w3 0 9 (by omega)) (w3 0 8 (by omega)) (by rw [w4]) (fun k => w3 1 k (by omega)) (fun k => w3 2 k (by omega)) PD
      have DR1 : DR kk (n + 1) A1 D1 := fun i hi => by rw [g3 _ _ (by omega), g3 _ _ (by omega), w3 _ _ (by omega), w3 _ _ (by omega)]; exact DRn i hi
      have pp : pS B L (pS B L j) = pS B L j := pS_pS jL hP
      have frC : ∀ a k, kdC kk a k → A1.1 a k = c.1 a k := fun a k h => by rw [g3 a k h.1, Af a k h.2.2.2, fc a k h.1 (fun z => h.2.1 z.1) (fun z => h.2.2.1 z.1)]
      have frM : ∀ a k, kdM a k → D1.1 a k = d.1 a k := fun a k h => by rw [w3 a k (fun z => h.1 ⟨z.1, Or.inl z.2⟩), fd a k (fun z => h.1 ⟨z.1, Or.inl z.2⟩) (fun z => h.1 ⟨z.1, Or.inr z.2⟩) (fun z => h.2.1 ⟨z.1, by rcases z.2 with q | q <;> omega⟩)]
      have D11 : D1.1 0 11 = -1 := by rw [w3 0 11 (by omega)]; exact flt
      have y1 : (y + 1).toInt = ((n + 1 : Nat) : Int) := y_suc hy (by omega)
      rw [g1, w1, Option.bind_some, Option.bind_some]
      dsimp only
      -- the reference's end of its loop
      have fin : ∃ d2 : dH, f_X12_readDays_L17 nf2 (y + 1) false D1 = some d2 ∧ d2.1 0 11 = (if sg B L (pS B L j) = -1 then -1 else Int32.ofNat (pS B L j)) ∧ (∀ a k, kdM a k → d2.1 a k = d.1 a k) ∧ d2.2 = d.2 ∧ d2.1 10 4 = y + 1 ∧ (∀ k, d2.1 9 k = D1.1 9 k) := by
        obtain ⟨nf2, rfl⟩ : ∃ z, nf2 = z + 1 := ⟨nf2 - 1, by omega⟩
        rw [f_X12_readDays_L17, if_neg (by decide), Option.bind_some]
        obtain ⟨D2, u1, u2, u3, u4⟩ := M_look (PM_c (d' := dPut D1 10 4 (y + 1)) (dPut_ne (by omega)) (dPut_ne (by omega)) rfl (fun k => dPut_ne (by omega)) (fun k => dPut_ne (by omega)) PD1) (i := pS B L j) (by rw [dPut_ne (by omega)]; exact w2) (by omega)
        rw [pp] at u1 u2
        rw [u1, Option.bind_some]
        dsimp only
        by_cases q : sg B L (pS B L j) = -1
        · rw [if_pos q, if_pos q]
          exact ⟨D2, rfl, by rw [u3 0 11 (by omega), dPut_ne (by omega)]; exact D11, fun a k h => by rw [u3 a k (fun z => h.1 ⟨z.1, Or.inl z.2⟩), dPut_ne h.2.2, frM a k h], by rw [u4]; exact w4.trans fd2, by rw [u3 10 4 (by omega), dPut_at], fun k => by rw [u3 9 k (by omega), dPut_ne (by omega)]⟩
        · rw [if_neg q, if_neg q, M_fails (by rw [u3 0 11 (by omega), dPut_ne (by omega)]; exact D11), Option.bind_some]
          refine ⟨_, rfl, ?_, fun a k h => by rw [dPut_ne (fun z => h.1 ⟨z.1, Or.inr z.2⟩), u3 a k (fun z => h.1 ⟨z.1, Or.inl z.2⟩), dPut_ne h.2.2, frM a k h], by show D2.2 = d.2; rw [u4]; exact w4.trans fd2, by rw [dPut_ne (by omega), u3 10 4 (by omega), dPut_at], fun k => by rw [dPut_ne (by omega), u3 9 k (by omega), dPut_ne (by omega)]⟩
          rw [dPut_at]
          exact (oNat u2).resolve_right (by omega)
      obtain ⟨d2, v1, v2, v3, v4, v5, v6⟩ := fin
      have ej : A1.1 1 2 = Int32.ofNat (pS B L j) := (oNat g2).resolve_right (by omega)
      have nej : Int32.ofNat (pS B L j) = -1 → False := fun z => by rw [i_eq, i_ofNat (by omega), tm1] at z; omega
      unfold f_X12_readDays_J57 f_X12_readDays_J74
      by_cases qe : sg B L (pS B L j) = -1
      · -- the end
        have q59 : ¬ sg B L (pS B L j) = 59 := by rw [qe]; decide
        rw [if_pos qe, if_neg q59, if_neg (show ¬ false = true by decide), if_neg (show ¬ false = true by decide), v1]
        refine ⟨-1, A1, d2, rfl, rfl, by rw [v2, if_pos qe], frC, v3, v4, fun _ => ⟨n + 1, by omega, by omega, by rw [g3 65 kk (by omega)]; exact A65, by rw [v5]; exact y1, fun i hi => by rw [v6, v6]; exact DR1 i hi⟩⟩
      · rw [if_neg qe]
        by_cases q15 : y = 15
        · -- the sixteenth
          have n15 : n = 15 := by rw [i_eq, hy, k15] at q15; omega
          have y16 : y + 1 = 16 := by rw [i_eq, y1, n15, k16]; rfl
          rw [if_pos q15]
          by_cases q59 : sg B L (pS B L j) = 59
          · rw [if_pos q59, if_pos rfl, if_pos y16, M_fails D11, Option.bind_some]
            refine ⟨_, A1, _, rfl, rfl, ?_, frC, fun a k h => by rw [dPut_ne (fun z => h.1 ⟨z.1, Or.inr z.2⟩), frM a k h], w4.trans fd2, fun z => absurd z (by rw [ej]; exact nej)⟩
            rw [dPut_at, ej]
            exact (oNat w2).resolve_right (by omega)
          · rw [if_neg q59, if_neg (show ¬ false = true by decide), if_neg (show ¬ false = true by decide), v1]
            exact ⟨_, A1, d2, rfl, rfl, by rw [v2, if_neg qe, ej], frC, v3, v4, fun z => absurd z (by rw [ej]; exact nej)⟩
        · have n15 : n ≠ 15 := fun z => q15 (by rw [i_eq, hy, k15, z]; rfl)
          rw [if_neg q15]
          obtain ⟨A2, t1', t2, t3⟩ := C_take PA1 g2 (by omega) 59
          rw [pp] at t1' t2
          rw [t1', Option.bind_some]
          dsimp only
          by_cases q59 : sg B L (pS B L j) = 59
          · have hin : pS B L j < L := by
              by_cases q : pS B L j < L
              · exact q
              · exact absurd (sg_out q) qe
            have y16 : ¬ y + 1 = 16 := by rw [i_eq, y1, k16]; omega
            rw [if_pos q59] at t2
            rw [decide_eq_true q59, if_pos rfl, if_pos q59, if_pos rfl, if_neg y16, if_pos rfl, Option.bind_some]
            have A2f := fun a k (h : ¬ (a = 1 ∧ k = 2)) => t3 a k h
            obtain ⟨r, c3, d3, z1, z2, z3, z4, z5, z6, z7⟩ := ih nf nf2 (n + 1) (pS B L j + 1) (y + 1) A2 (dPut D1 0 10 (D1.1 0 10 + 1)) (by omega) (by omega) (by omega) (by omega) (PC_c (t3 1 1 (by omega)) (fun k => t3 2 k (by omega)) PA1) (PM_c (dPut_ne (by omega)) (dPut_ne (by omega)) rfl (fun k => dPut_ne (by omega)) (fun k => dPut_ne (by omega)) PD1) t2 (by rw [dPut_at, i_add1 (by omega), w2]; omega) (by omega) (by rw [dPut_ne (by omega)]; exact D11) (by rw [t3 52 0 (by omega), frC 52 0 ⟨by omega, by omega, by omega, by omega⟩]; exact hk) y1 (fun i hi => by rw [t3 _ _ (by omega), t3 _ _ (by omega), dPut_ne (by omega), dPut_ne (by omega)]; exact DR1 i hi)
            exact ⟨r, c3, d3, z1, z2, z3, fun a k h => by rw [z4 a k h, t3 a k h.1, frC a k h], fun a k h => by rw [z5 a k h, dPut_ne (fun z => h.1 ⟨z.1, Or.inl z.2⟩), frM a k h], z6.trans (w4.trans fd2), z7⟩
          · rw [if_neg q59] at t2
            rw [decide_eq_false q59, if_neg (show ¬ false = true by decide), if_neg q59, if_neg (show ¬ false = true by decide), if_neg (show ¬ false = true by decide), v1]
            have ej2 : A2.1 1 2 = Int32.ofNat (pS B L j) := (oNat t2).resolve_right (by omega)
            exact ⟨_, A2, d2, rfl, rfl, by rw [v2, if_neg qe, ej2], fun a k h => by rw [t3 a k h.1, frC a k h], v3, v4, fun z => absurd z (by rw [ej2]; exact nej)⟩
end DA
