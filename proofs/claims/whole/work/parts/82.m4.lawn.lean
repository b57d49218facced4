/-! PURE: the reference's SUMS -/
theorem xJ_43 (a b : Int) : xJ (-43) a b = a + b := by unfold xJ; rw [if_pos rfl]
theorem xJ_45 (a b : Int) : xJ (-45) a b = a - b := by unfold xJ; rw [if_neg (by decide), if_pos rfl]
theorem xJ_42 (a b : Int) : xJ (-42) a b = a * b := by unfold xJ; rw [if_neg (by decide), if_neg (by decide), if_pos rfl]
theorem xJ_47 (a b : Int) : xJ (-47) a b = if b = 0 then 0 else Int.tdiv a b := by unfold xJ; rw [if_neg (by decide), if_neg (by decide), if_neg (by decide), if_pos rfl]
section LN
variable {B : Nat → Nat} {L dp : Nat} {env : Nat → Int32}
def jnI (s v w : Int32) : Int32 := xH (xJ (-s) v.toInt w.toInt)
theorem xC_join (env : Nat → Int32) {c a b : Int32} {st : List Int32} (h1 : c.toInt < -6) (h2 : c ≠ -33) : xC env c (b :: a :: st) = some (xH (xJ c a.toInt b.toInt) :: st) := by
  unfold xC
  rw [if_neg (by omega), if_neg (by omega), if_neg h2]
theorem xS_join {c a b : Int32} {st : List Int32} (h1 : c.toInt < -6) (h2 : c ≠ -33) (h3 : c ≠ -59) (h4 : c ≠ -63) (h5 : (c = -42 ∨ c = -43 ∨ c = -45 ∨ c = -47 ∨ c = -60 ∨ c = -61 ∨ c = -62) ∨ ((a = 0 ∨ a = 1) ∧ (b = 0 ∨ b = 1))) : xS c (b :: a :: st) := by
  unfold xS
  rw [if_neg (by omega), if_neg h2]
  exact ⟨h3, h4, h5⟩
theorem xC_of (env : Nat → Int32) {c : Int32} {t : Nat} (h : c.toInt = -1 - (t : Int)) (ht : t ≤ 5) (st : List Int32) : -6 ≤ c.toInt ∧ xC env c st = some (env t :: st) := by
  have e : (-1 - c.toInt).toNat = t := by omega
  refine ⟨by omega, ?_⟩
  unfold xC
  rw [if_neg (by omega), if_pos (by omega), e]
theorem let_i {t : Nat} (ht : t ≤ 5) : (-1 - Int32.ofNat t).toInt = -1 - (t : Int) := by
  have e : (Int32.ofNat t).toInt = t := i_ofNat (by omega)
  rw [i_sub (by rw [tm1, e]; omega), tm1, e]
theorem xV_let (env : Nat → Int32) {t : Nat} (ht : t ≤ 5) : xV env 1 [-1 - Int32.ofNat t] (env t) :=
  xV_one (xC_of env (let_i ht) ht []).1 (fun st => (xC_of env (let_i ht) ht st).2)
theorem two_of {s x1 x2 : Int32} (h : decide (s.toInt = x1.toInt ∨ s.toInt = x2.toInt) = true) : s = x1 ∨ s = x2 := by
  rcases of_decide_eq_true h with a | a
  · exact Or.inl (i_eq.mpr a)
  · exact Or.inr (i_eq.mpr a)
theorem jnT (env : Nat → Int32) : JnM (fun v : Int32 => v) env okT jnI := by
  intro s v w st h
  rcases two_of (x1 := 42) (x2 := 47) h with rfl | rfl
  · exact ⟨xC_join env (by decide) (by decide), xS_join (by decide) (by decide) (by decide) (by decide) (Or.inl (by decide))⟩
  · exact ⟨xC_join env (by decide) (by decide), xS_join (by decide) (by decide) (by decide) (by decide) (Or.inl (by decide))⟩
theorem jnS (env : Nat → Int32) : JnM (fun v : Int32 => v) env okS jnI := by
  intro s v w st h
  rcases two_of (x1 := 43) (x2 := 45) h with rfl | rfl
  · exact ⟨xC_join env (by decide) (by decide), xS_join (by decide) (by decide) (by decide) (by decide) (Or.inl (by decide))⟩
  · exact ⟨xC_join env (by decide) (by decide), xS_join (by decide) (by decide) (by decide) (by decide) (Or.inl (by decide))⟩
theorem St_two {ok : Int → Bool} {A : dH → Option (Int32 × dH)} {Lp : Nat → Int32 → dH → Option (Int32 × dH)} {x1 x2 : Int32} (hx1 : x1 ≠ -1) (hx2 : x2 ≠ -1) (hne : x1 ≠ x2) (hok : ∀ v : Int, ok v = decide (v = x1.toInt ∨ v = x2.toInt)) (K : Nat → Int32 → Bool → dH → Option (Int32 × dH))
    (e : ∀ n y d, Lp (n + 1) y d = if d.1 0 11 = -1 then (f_X12_look d).bind (fun rv => if rv.1 = x1 then (f_X12_look rv.2).bind (fun rw => if rw.1 = x1 then K n y true rw.2 else K n y false rw.2) else (f_X12_look rv.2).bind fun ru => if ru.1 = x2 then (f_X12_look ru.2).bind (fun rw => if rw.1 = x1 then K n y true rw.2 else K n y false rw.2) else some (y, ru.2)) else some (y, d))
    (hK : ∀ n y z d, K n y z d = (A (dPut d 0 10 (d.1 0 10 + 1))).bind fun rv => Lp n (jnI (if z then x1 else x2) y rv.1) rv.2) : StM B L dp ok A jnI Lp := by
  refine ⟨fun n y d j S => ?_, fun n v d h => by rw [e, if_neg h]⟩
  have hB := S.1.2.2.2.2.2.2
  have hP := S.1.2.1
  have pp := pS_pS (B := B) S.2.2.1 hP
  obtain ⟨d1, e1, S1, G1⟩ := SM_look S
  obtain ⟨d2, e2, S2, G2⟩ := SM_look S1
  obtain ⟨d3, e3, S3, G3⟩ := SM_look S2
  rw [pp] at e2 S2 e3 S3
  rw [pp] at S3 e3
  rw [e, if_pos S.2.2.2.1, e1]
  simp only [Option.bind_some]
  rw [hok, e2]
  simp only [Option.bind_some]
  rw [e3]
  simp only [Option.bind_some]
  have z1 : (sg B L (pS B L j) = x1) ↔ pC B L (pS B L j) = x1.toInt := by rw [i_eq, sg_pC hB]
  have z2 : (sg B L (pS B L j) = x2) ↔ pC B L (pS B L j) = x2.toInt := by rw [i_eq, sg_pC hB]
  by_cases a : sg B L (pS B L j) = x1
  · have lt : pS B L j < L := sg_lt (by intro y; exact hx1 (by rw [i_eq, ← z1.mp a, y, tm1]))
    obtain ⟨S4, G4⟩ := SM_next S2 lt
    refine ⟨_, GM_t G1 (GM_t G2 G4), fun _ => ⟨S4, ?_⟩, fun z => by (rw [decide_eq_true (Or.inl (z1.mp a))] at z; cases z)⟩
    rw [if_pos a, if_pos a, hK, if_pos rfl, a]
  · by_cases b : sg B L (pS B L j) = x2
    · have lt : pS B L j < L := sg_lt (by intro y; exact hx2 (by rw [i_eq, ← z2.mp b, y, tm1]))
      obtain ⟨S4, G4⟩ := SM_next S3 lt
      refine ⟨_, GM_t G1 (GM_t G2 (GM_t G3 G4)), fun _ => ⟨S4, ?_⟩, fun z => by (rw [decide_eq_true (Or.inr (z2.mp b))] at z; cases z)⟩
      rw [if_neg a, if_pos b, if_neg a, hK, if_neg (by decide), b]
    · have nk : ¬ (pC B L (pS B L j) = x1.toInt ∨ pC B L (pS B L j) = x2.toInt) := fun z => z.elim (fun w => a (z1.mpr w)) (fun w => b (z2.mpr w))
      refine ⟨d2, GM_t G1 G2, fun z => by (rw [decide_eq_false nk] at z; cases z), fun _ => ⟨S2, ?_⟩⟩
      rw [if_neg a, if_neg b]
theorem letM (s : Int32) : f_X12_isAmong 5 s = (pLet s.toInt).isSome := by
  show ([107, 118, 111, 104, 110, 116] : List Int32).any (fun b => b == s) = _
  have k1 : (107 : Int32).toInt = 107 := rfl
  have k2 : (118 : Int32).toInt = 118 := rfl
  have k3 : (111 : Int32).toInt = 111 := rfl
  have k4 : (104 : Int32).toInt = 104 := rfl
  have k5 : (110 : Int32).toInt = 110 := rfl
  have k6 : (116 : Int32).toInt = 116 := rfl
  have cv : ∀ x : Int32, (x == s) = decide (s.toInt = x.toInt) := fun x => by
    by_cases q : x = s
    · rw [decide_eq_true (by rw [q])]; exact beq_iff_eq.mpr q
    · rw [decide_eq_false (fun z => q (i_eq.mpr z.symm))]; exact beq_eq_false_iff_ne.mpr q
  simp only [List.any_cons, List.any_nil, cv, k1, k2, k3, k4, k5, k6, Bool.or_false]
  unfold pLet
  by_cases h1 : s.toInt = 107
  · rw [if_pos h1]; simp [h1]
  rw [if_neg h1]
  by_cases h2 : s.toInt = 118
  · rw [if_pos h2]; simp [h2]
  rw [if_neg h2]
  by_cases h3 : s.toInt = 111
  · rw [if_pos h3]; simp [h3]
  rw [if_neg h3]
  by_cases h4 : s.toInt = 104
  · rw [if_pos h4]; simp [h4]
  rw [if_neg h4]
  by_cases h5 : s.toInt = 110
  · rw [if_pos h5]; simp [h5]
  rw [if_neg h5]
  by_cases h6 : s.toInt = 116
  · rw [if_pos h6]; simp [h6]
  rw [if_neg h6]
  simp [h1, h2, h3, h4, h5, h6]
theorem letE {s : Int32} {t : Nat} {d : dH} (hE : EV env d) (h : pLet s.toInt = some t) : dIn s 128 ∧ d.1 4 (dI s) = env t ∧ t ≤ 5 := by
  obtain ⟨a0, a1, a2, a3, a4, a5⟩ := hE
  unfold pLet at h
  by_cases h1 : s.toInt = 107
  · rw [if_pos h1] at h; cases h
    exact ⟨dIn_of (k := 107) h1 (by omega), by rw [dI_of (k := 107) h1]; exact a0, by omega⟩
  rw [if_neg h1] at h
  by_cases h2 : s.toInt = 118
  · rw [if_pos h2] at h; cases h
    exact ⟨dIn_of (k := 118) h2 (by omega), by rw [dI_of (k := 118) h2]; exact a1, by omega⟩
  rw [if_neg h2] at h
  by_cases h3 : s.toInt = 111
  · rw [if_pos h3] at h; cases h
    exact ⟨dIn_of (k := 111) h3 (by omega), by rw [dI_of (k := 111) h3]; exact a2, by omega⟩
  rw [if_neg h3] at h
  by_cases h4 : s.toInt = 104
  · rw [if_pos h4] at h; cases h
    exact ⟨dIn_of (k := 104) h4 (by omega), by rw [dI_of (k := 104) h4]; exact a3, by omega⟩
  rw [if_neg h4] at h
  by_cases h5 : s.toInt = 110
  · rw [if_pos h5] at h; cases h
    exact ⟨dIn_of (k := 110) h5 (by omega), by rw [dI_of (k := 110) h5]; exact a4, by omega⟩
  rw [if_neg h5] at h
  by_cases h6 : s.toInt = 116
  · rw [if_pos h6] at h; cases h
    exact ⟨dIn_of (k := 116) h6 (by omega), by rw [dI_of (k := 116) h6]; exact a5, by omega⟩
  rw [if_neg h6] at h
  cases h
theorem lp_numM (A T S : dH → Option (Int32 × dH)) : ∀ (m n i v ct : Nat) (y2 y3 : Int32) (d : dH), SM B L i dp d → ct + m = 4 → y3.toInt = ct → y2.toInt = v → v < 10 ^ ct → m + 1 < n →
    (∀ e, pNum B L m i v = .inl e → ∃ d', f_X12_atom_L90 A T S n y2 y3 d = some (0, d') ∧ GM d d' ∧ d'.1 0 11 = Int32.ofNat e ∧ e ≤ L) ∧
    (∀ j w, pNum B L m i v = .inr (j, w) → ∃ v' d', f_X12_atom_L90 A T S n y2 y3 d = some (v', d') ∧ v'.toInt = w ∧ GM d d' ∧ SM B L j dp d') := by
  intro m
  have k4 : (4 : Int32).toInt = 4 := rfl
  induction m with
  | zero =>
    intro n i v ct y2 y3 d S0 hc h3 h2 hv hn
    obtain ⟨n, rfl⟩ : ∃ z, n = z + 1 := ⟨n - 1, by omega⟩
    rw [f_X12_atom_L90, M_isDigit S0.1 S0.2.1]
    simp only [Option.bind_some]
    rw [pNum]
    by_cases q : pDig B L i = true
    · rw [if_pos q, if_pos q, if_pos S0.2.2.2.1, if_pos (show y3 = 4 by rw [i_eq, h3, k4]; omega)]
      obtain ⟨d2, f1, G2, f3, f4⟩ := SM_fail S0
      rw [f1]
      exact ⟨fun e he => by (cases he; exact ⟨d2, rfl, G2, f3, S0.2.2.1⟩), fun j w he => by cases he⟩
    · rw [if_neg q, if_neg q]
      exact ⟨fun e he => by (cases he), fun j w he => by (cases he; exact ⟨y2, d, rfl, h2, GM_r d, S0⟩)⟩
  | succ m ih =>
    intro n i v ct y2 y3 d S0 hc h3 h2 hv hn
    obtain ⟨n, rfl⟩ : ∃ z, n = z + 1 := ⟨n - 1, by omega⟩
    rw [f_X12_atom_L90, M_isDigit S0.1 S0.2.1]
    simp only [Option.bind_some]
    rw [pNum]
    by_cases q : pDig B L i = true
    · have sp := pDig_sp q
      obtain ⟨hin, hix⟩ := M_at S0.1 S0.2.1 sp.1
      have by1 := S0.1.2.2.2.2.2.1 i sp.1
      rw [if_pos (show B i < 128 by omega)] at by1
      have hv2 : v < 1000 := Nat.lt_of_lt_of_le hv (Nat.pow_le_pow_right (by omega) (show ct ≤ 3 by omega))
      have k10 : (10 : Int32).toInt = 10 := rfl
      have k48 : (48 : Int32).toInt = 48 := rfl
      have m1 : (10 * y2).toInt = 10 * v := by rw [i_mul (by rw [k10]; omega), k10, h2]
      have m2 : (10 * y2 + d.1 d.2.2 (dI (d.1 0 8) + i)).toInt = 10 * v + B i := by rw [i_add (by omega), m1, by1]
      have m3 : (10 * y2 + d.1 d.2.2 (dI (d.1 0 8) + i) - 48).toInt = ((10 * v + (B i - 48) : Nat) : Int) := by rw [i_sub (by rw [k48]; omega), m2, k48]; omega
      rw [if_pos q, if_pos q, if_pos S0.2.2.2.1, if_neg (show ¬ y3 = 4 by rw [i_eq, h3, k4]; omega), if_pos hin, hix]
      obtain ⟨S4, G4⟩ := SM_next S0 sp.1
      have hv3 : 10 * v + (B i - 48) < 10 ^ (ct + 1) := by rw [Nat.pow_succ]; omega
      obtain ⟨u1, u2⟩ := ih n (i + 1) _ (ct + 1) _ (y3 + 1) _ S4 (by omega) (by rw [i_add1 (by omega), h3]; omega) m3 hv3 (by omega)
      refine ⟨fun e he => ?_, fun j w he => ?_⟩
      · obtain ⟨d', a1, a2, a3⟩ := u1 e he
        exact ⟨d', a1, GM_t G4 a2, a3⟩
      · obtain ⟨v', d', a1, a2, a3, a4⟩ := u2 j w he
        exact ⟨v', d', a1, a2, GM_t G4 a3, a4⟩
    · rw [if_neg q, if_neg q]
      exact ⟨fun e he => by (cases he), fun j w he => by (cases he; exact ⟨y2, d, rfl, h2, GM_r d, S0⟩)⟩
theorem goesM {d : dH} {q : Nat} (S : SM B L q dp d) (lt : q < L) (h6 : dp ≤ 6) : (dp = 6 → ∃ d1, f_X12_goesIn d = some (false, d1) ∧ GM d d1 ∧ d1.1 0 11 = Int32.ofNat q) ∧ (dp < 6 → ∃ d1, f_X12_goesIn d = some (true, d1) ∧ GM d d1 ∧ SM B L (q + 1) (dp + 1) d1) := by
  have t6 : (6 : Int32).toInt = 6 := rfl
  have hd := S.2.2.2.2
  have hP := S.1.2.1
  have hq := S.2.1
  unfold f_X12_goesIn
  refine ⟨fun z => ?_, fun z => ?_⟩
  · rw [if_pos (show d.1 0 12 = 6 by rw [i_eq, hd, t6]; omega)]
    obtain ⟨d2, f1, G2, f3, f4⟩ := SM_fail S
    rw [f1]
    exact ⟨d2, rfl, G2, f3⟩
  · rw [if_neg (show ¬ d.1 0 12 = 6 by rw [i_eq, hd, t6]; omega)]
    have G1 := GM_p d (k := 12) (by omega) (d.1 0 12 + 1)
    have G2 := GM_p (dPut d 0 12 (d.1 0 12 + 1)) (k := 10) (by omega) ((dPut d 0 12 (d.1 0 12 + 1)).1 0 10 + 1)
    refine ⟨_, rfl, GM_t G1 G2, SM_m S (GM_t G1 G2) ?_ (by omega) ?_ ?_⟩
    · rw [dPut_at, dPut_ne (by omega), i_add1 (by omega), hq]; omega
    · rw [dPut_ne (by omega), dPut_ne (by omega)]; exact S.2.2.2.1
    · rw [dPut_ne (by omega), dPut_at, i_add1 (by omega), hd]; omega
/-- one nesting out -/
theorem outM {d : dH} {q : Nat} (S : SM B L q (dp + 1) d) (h6 : dp ≤ 6) : SM B L q dp (dPut d 0 12 (d.1 0 12 - 1)) ∧ GM d (dPut d 0 12 (d.1 0 12 - 1)) := by
  have hd := S.2.2.2.2
  have t1' : (1 : Int32).toInt = 1 := rfl
  have G1 := GM_p d (k := 12) (by omega) (d.1 0 12 - 1)
  exact ⟨SM_m S G1 (by rw [dPut_ne (by omega)]; exact S.2.1) S.2.2.1 (by rw [dPut_ne (by omega)]; exact S.2.2.2.1) (by rw [dPut_at, i_sub (by rw [t1']; omega), hd, t1']; omega), G1⟩
theorem atom_M {k : Nat} (hk : dp + k = 6) {A T S : dH → Option (Int32 × dH)} (hS : ∀ k', k = k' + 1 → RM (fun v : Int32 => v) env (2 * k' + 3) B L (dp + 1) S (pSum B L k')) : RM (fun v : Int32 => v) env (2 * k + 1) B L dp (f_X12_atom A T S) (pAtm B L k) := by
  intro q d S0 hE
  have hP := S0.1.2.1
  have hB := S0.1.2.2.2.2.2.2
  have k91 : (91 : Int32).toInt = 91 := rfl
  have k93 : (93 : Int32).toInt = 93 := rfl
  obtain ⟨d1, e1, S1, G1⟩ := SM_look S0
  have pl := pS_le (B := B) S0.2.2.1 hP
  have pp : pS B L (pS B L q) = pS B L q := pS_pS S0.2.2.1 hP
  unfold f_X12_atom pAtm pAt
  rw [e1]
  simp only [Option.bind_some]
  rw [show f_X12_isAmong 5 (sg B L (pS B L q)) = (pLet (pC B L (pS B L q))).isSome by rw [letM, sg_pC hB]]
  by_cases a : pC B L (pS B L q) = 91
  · have lt : pS B L q < L := sg_lt (by rw [a]; decide)
    have nl : (pLet (pC B L (pS B L q))).isSome = false := by rw [a]; rfl
    rw [if_neg (by rw [nl]; decide), if_pos (show sg B L (pS B L q) = 91 by rw [i_eq, sg_pC hB, a, k91]), if_pos a]
    obtain ⟨gf, gt⟩ := goesM S1 lt (by omega)
    cases k with
    | zero =>
      obtain ⟨d2, f1, G2, f3⟩ := gf (by omega)
      rw [f1]
      exact OM_l rfl (GM_t G1 G2) f3 pl.2
    | succ k =>
      obtain ⟨d2, f1, G2, S2⟩ := gt (by omega)
      rw [f1]
      simp only [Option.bind_some]
      rw [if_pos trivial]
      obtain ⟨ol, or⟩ := hS k rfl _ _ S2 (EV_g (GM_t G1 G2) hE)
      cases hg : pSum B L k (pS B L q + 1) with
      | inl e =>
        obtain ⟨v, d3, u1, u2, u3, u4⟩ := ol e hg
        rw [u1]
        simp only [Option.bind_some]
        rw [FM_takes (by rw [u3]; exact ofN_ne (by omega))]
        exact OM_l rfl (GM_t G1 (GM_t G2 u2)) u3 u4
      | inr r =>
        obtain ⟨j, cs⟩ := r
        obtain ⟨v, d3, u1, u2, u3, u4, u5⟩ := or j cs hg
        have pl3 := pS_le (B := B) u3.2.2.1 hP
        rw [u1]
        simp only [Option.bind_some]
        obtain ⟨d4, G4, tk, nt⟩ := SM_takes u3 (x := 93) (by decide)
        by_cases b : pC B L (pS B L j) = 93
        · obtain ⟨w1, S4⟩ := tk (by rw [b, k93])
          rw [w1]
          simp only [Option.bind_some]
          rw [if_pos trivial, if_pos b]
          obtain ⟨S5, G5⟩ := outM S4 (by omega)
          exact OM_r rfl (GM_t G1 (GM_t G2 (GM_t u2 (GM_t G4 G5)))) S5 (by omega) (xV_mono u5 (by omega))
        · obtain ⟨w1, w2⟩ := nt (by rw [k93]; exact b)
          rw [w1]
          simp only [Option.bind_some]
          rw [if_neg (by decide), if_neg b]
          exact OM_l rfl (GM_t G1 (GM_t G2 (GM_t u2 G4))) w2 pl3.2
  · rw [if_neg a]
    cases hl : pLet (pC B L (pS B L q)) with
    | some t =>
      have lt : pS B L q < L := sg_lt (by intro y; rw [y] at hl; cases hl)
      obtain ⟨S2, G2⟩ := SM_next S1 lt
      obtain ⟨l1, l2, l3⟩ := letE (s := sg B L (pS B L q)) (EV_g (GM_t G1 G2) hE) (by rw [sg_pC hB]; exact hl)
      rw [if_pos (show (some t).isSome = true from rfl), if_pos l1, l2]
      exact OM_r rfl (GM_t G1 G2) S2 (by omega) (xV_mono (xV_let env l3) (by omega))
    | none =>
      rw [if_neg (by decide), if_neg (show ¬ sg B L (pS B L q) = 91 by rw [i_eq, sg_pC hB, k91]; exact a), M_isDigit S1.1 S1.2.1]
      simp only [Option.bind_some]
      unfold f_X12_atom_J86
      by_cases dg : pDig B L (pS B L q) = true
      · rw [if_pos dg, if_pos dg]
        obtain ⟨u1, u2⟩ := lp_numM A T S 4 dFu (pS B L q) 0 0 0 0 d1 S1 rfl rfl rfl (by decide) (fuel_lt (by omega))
        cases hn : pNum B L 4 (pS B L q) 0 with
        | inl e =>
          obtain ⟨d2, w1, w2, w3, w4⟩ := u1 e hn
          exact OM_l w1 (GM_t G1 w2) w3 w4
        | inr r =>
          obtain ⟨j, w⟩ := r
          obtain ⟨v', d2, w1, w2, w3, w4⟩ := u2 j w hn
          have sp := (pNum_sp B L 4 (pS B L q) 0 pl.2).2 j w hn
          have hj : q < j := by
            by_cases z : j = pS B L q
            · have := sp.2.2.2 z
              rw [dg] at this
              cases this
            · omega
          have ev : v' = Int32.ofNat w := (oNat w2).resolve_right (by omega)
          refine OM_r w1 (GM_t G1 w3) w4 hj (xV_mono (xV_one (by rw [i_ofNat (by omega)]; omega) (fun st => ?_)) (by omega))
          unfold xC
          rw [if_pos (by rw [i_ofNat (by omega)]; omega), ev]
      · rw [if_neg dg, if_neg dg]
        obtain ⟨d2, f1, G2, f3, f4⟩ := SM_fail S1
        rw [f1]
        simp only [Option.bind_some]
        have P2 : PM d2 B L := PM_c (G2.1 0 9 (by omega)) (G2.1 0 8 (by omega)) (by rw [G2.2]) (fun k => G2.1 1 k (by omega)) (fun k => G2.1 2 k (by omega)) S1.1
        have en : dFu = 19999 + 1 := rfl
        rw [en, f_X12_atom_L90, M_isDigit P2 (i := pS B L q) (by rw [f4 10 (by omega)]; exact S1.2.1)]
        simp only [Option.bind_some]
        rw [if_neg dg]
        exact OM_l rfl (GM_t G1 G2) f3 pl.2
theorem termK (A T S : dH → Option (Int32 × dH)) (n : Nat) (y : Int32) (z : Bool) (d : dH) : f_X12_term_J45 A T S (f_X12_term_L5 A T S n) y z d = (A (dPut d 0 10 (d.1 0 10 + 1))).bind fun rv => f_X12_term_L5 A T S n (jnI (if z then 42 else 47) y rv.1) rv.2 := by
  unfold f_X12_term_J45 f_X12_term_J87
  simp only [Option.bind_some]
  congr 1
  funext rv
  cases z with
  | true =>
    rw [if_pos rfl, wiM, l_mul]
    unfold jnI
    rw [if_pos rfl, show (-(42 : Int32)) = -42 from rfl, xJ_42]
  | false =>
    rw [if_neg (by decide)]
    unfold jnI
    rw [if_neg (show ¬ false = true by decide), show (-(47 : Int32)) = -47 from rfl, xJ_47]
    by_cases q : rv.1.toInt = 0
    · rw [if_pos (by rw [l_cmp_eq]; exact (l_zero _).mpr q), wiM, if_pos q]
      rfl
    · rw [if_neg (by rw [l_cmp_eq]; exact fun w => q ((l_zero _).mp w)), if_pos (fun w => q ((l_zero _).mp w)), wiM, l_div, if_neg q]
theorem sumK (A T S : dH → Option (Int32 × dH)) (n : Nat) (y : Int32) (z : Bool) (d : dH) : f_X12_sum_J45 A T S (f_X12_sum_L5 A T S n) y z d = (T (dPut d 0 10 (d.1 0 10 + 1))).bind fun rv => f_X12_sum_L5 A T S n (jnI (if z then 43 else 45) y rv.1) rv.2 := by
  unfold f_X12_sum_J45 f_X12_sum_J77
  simp only [Option.bind_some]
  congr 1
  funext rv
  cases z with
  | true =>
    rw [if_pos rfl, wiM, l_add]
    unfold jnI
    rw [if_pos rfl, show (-(43 : Int32)) = -43 from rfl, xJ_43]
  | false =>
    rw [if_neg (by decide), wiM, l_sub]
    unfold jnI
    rw [if_neg (show ¬ false = true by decide), show (-(45 : Int32)) = -45 from rfl, xJ_45]
theorem sumA_M {k n : Nat} (hL : L ≤ 240) (hA : RM (fun v : Int32 => v) env (2 * k + 1) B L dp (g_X12_atom n).1 (pAtm B L k)) : RM (fun v : Int32 => v) env (2 * k + 3) B L dp (g_X12_atom (n + 2)).2.2 (pSum B L k) := by
  rw [pSum_e]
  have hT : RM (fun v : Int32 => v) env (2 * k + 2) B L dp (g_X12_atom (n + 1)).2.1 (pTm B L (pAtm B L k)) := fun q d S0 hE =>
    beg_M (Lp := f_X12_term_L5 (g_X12_atom n).1 (g_X12_atom n).2.1 (g_X12_atom n).2.2) (St_two (x1 := 42) (x2 := 47) (by decide) (by decide) (by decide) (fun v => rfl) (fun n' y z d => f_X12_term_J45 (g_X12_atom n).1 (g_X12_atom n).2.1 (g_X12_atom n).2.2 (f_X12_term_L5 (g_X12_atom n).1 (g_X12_atom n).2.1 (g_X12_atom n).2.2 n') y z d) (fun n y d => by rw [f_X12_term_L5]; rfl) (fun n y z d => termK _ _ _ n y z d)) (jnT env) hA hL hE (hA q d S0 hE)
  intro q d S0 hE
  exact beg_M (Lp := f_X12_sum_L5 (g_X12_atom (n + 1)).1 (g_X12_atom (n + 1)).2.1 (g_X12_atom (n + 1)).2.2) (St_two (x1 := 43) (x2 := 45) (by decide) (by decide) (by decide) (fun v => rfl) (fun n' y z d => f_X12_sum_J45 (g_X12_atom (n + 1)).1 (g_X12_atom (n + 1)).2.1 (g_X12_atom (n + 1)).2.2 (f_X12_sum_L5 (g_X12_atom (n + 1)).1 (g_X12_atom (n + 1)).2.1 (g_X12_atom (n + 1)).2.2 n') y z d) (fun n y d => by rw [f_X12_sum_L5]; rfl) (fun n y z d => sumK _ _ _ n y z d)) (jnS env) hT hL hE (hT q d S0 hE)
theorem sum_M (hL : L ≤ 240) : ∀ (k n dp : Nat), dp + k = 6 → 3 * k + 3 ≤ n → RM (fun v : Int32 => v) env (2 * k + 3) B L dp (g_X12_atom n).2.2 (pSum B L k) := by
  intro k
  induction k with
  | zero =>
    intro n dp hx hn
    obtain ⟨n, rfl⟩ : ∃ z, n = z + 1 + 2 := ⟨n - 3, by omega⟩
    exact sumA_M hL (atom_M (A := (g_X12_atom n).1) (T := (g_X12_atom n).2.1) (S := (g_X12_atom n).2.2) hx (fun k' h => by omega))
  | succ k ih =>
    intro n dp hx hn
    obtain ⟨n, rfl⟩ : ∃ z, n = z + 1 + 2 := ⟨n - 3, by omega⟩
    exact sumA_M hL (atom_M (A := (g_X12_atom n).1) (T := (g_X12_atom n).2.1) (S := (g_X12_atom n).2.2) hx (fun k' h => by
      obtain rfl : k = k' := by omega
      exact ih n (dp + 1) (by omega) (by omega)))
end LN
