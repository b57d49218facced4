/-! PURE: loops over the PLACES -/
section LP
variable {n : Nat} {hC hM : dH} {x y w : Int32}
theorem Ct.nat (C : Ct hC hM) : (dI (hC.1 3 2) : Int) = (hC.1 3 2).toInt ∧ dI (hC.1 3 2) ≤ 7 := by
  have := dI_c C.ge
  have := C.le
  exact ⟨by omega, by omega⟩
theorem pl_j (C : Ct hC hM) {j m : Nat} (hy : y.toInt = j) (hj : j + (m + 1) = dI (hC.1 3 2)) : Pl hC y := by
  have := C.nat
  exact ⟨by omega, by omega⟩
theorem lt_j (C : Ct hC hM) {j m : Nat} (hy : y.toInt = j) (hj : j + (m + 1) = dI (hC.1 3 2)) : y < hC.1 3 2 := by
  have := C.nat
  rw [i_lt]
  omega
theorem ge_j (C : Ct hC hM) {j : Nat} (hy : y.toInt = j) (hj : j + 0 = dI (hC.1 3 2)) : ¬ y < hC.1 3 2 := by
  have := C.nat
  rw [i_lt]
  omega
theorem or0 (a : Int32) : a ||| 0 = a := by
  apply Int32.toBitVec_inj.mp
  show a.toBitVec ||| (0 : BitVec 32) = a.toBitVec
  simp
theorem lp_kinds (C : Ct hC hM) (x : Int32) : ∀ (m n j : Nat) (y2 y3 : Int32), m < n → y3.toInt = j → j + m = dI (hC.1 3 2) → ∃ v, f_X1_ofKind_L4 hC n x y2 y3 = some v ∧ f_X12_kinds_L30 n x y2 y3 hM = some (v, hM) := by
  intro m
  induction m with
  | zero =>
    intro n j y2 y3 hn hy hj
    obtain ⟨n, rfl⟩ : ∃ k, n = k + 1 := ⟨n - 1, by omega⟩
    rw [f_X1_ofKind_L4, f_X12_kinds_L30, C.np, if_neg (ge_j C hy hj), if_neg (ge_j C hy hj)]
    exact ⟨_, rfl, rfl⟩
  | succ m ih =>
    intro n j y2 y3 hn hy hj
    obtain ⟨n, rfl⟩ : ∃ k, n = k + 1 := ⟨n - 1, by omega⟩
    have hp := pl_j C hy hj
    have nx := C.nat
    rw [f_X1_ofKind_L4, f_X12_kinds_L30, C.np, if_pos (lt_j C hy hj), if_pos (lt_j C hy hj), C_toldOf C hp in2, M_of C hp in2]
    simp only [Option.bind_some]
    by_cases q : hC.1 (6 + dI y3) (dI 2) = x
    · rw [if_pos q, if_pos q]
      unfold f_X1_ofKind_J28 f_X12_kinds_J56
      simp only [Option.bind_some]
      exact ih n (j + 1) _ (y3 + 1) (by omega) (y_suc hy (by omega)) (by omega)
    · rw [if_neg q, if_neg q]
      unfold f_X1_ofKind_J28 f_X12_kinds_J56
      rw [Option.bind_some, or0]
      exact ih n (j + 1) _ (y3 + 1) (by omega) (y_suc hy (by omega)) (by omega)
theorem ok_kinds : st_kinds Rel := by
  intro n hC hM hn R x
  have R1 := R.t0
  unfold aC_kinds aM_kinds f_X11_kinds f_X12_kinds f_X1_ofKind
  rw [Option.bind_some]
  generalize dPut hM 0 0 0 = h1 at R1 ⊢
  have C := R1.ct
  have k0 : (0 : Int64).toInt = 0 := rfl
  have k3 : (3 : Int64).toInt = 3 := rfl
  have k4 : (4 : Int32).toInt = 4 := rfl
  have fin : ∀ v : Int32, dAg (Rel (n + 1)) (Option.map (fun v => (v, hC)) (some v)) (some (v, h1)) := fun v => ag rfl rfl (Rel_mono R1)
  simp only [C_isThere, C.np, M_isIn, k0, k3, i_lt, t0, k4, decide_eq_true_eq]
  by_cases hp : 0 < (hC.1 3 2).toInt
  · have hp0 : ¬ hC.1 3 2 = 0 := fun z => by rw [z, t0] at hp; omega
    rw [if_pos hp, if_neg hp0]
    by_cases a : 0 ≤ x.toInt ∧ x.toInt ≤ 3
    · have a1 : ¬ x.toInt < 0 := by omega
      have a2 : x.toInt < 4 := by omega
      obtain ⟨v, e1, e2⟩ := lp_kinds C x (dI (hC.1 3 2)) dFu 0 0 0 (fuel_lt (by have := C.nat; omega)) rfl (by omega)
      rw [if_neg a1, if_pos a2, if_pos a, e1, e2]
      exact fin v
    · rw [if_neg a]
      by_cases a1 : x.toInt < 0
      · rw [if_pos a1]
        exact fin _
      · have a2 : ¬ x.toInt < 4 := by omega
        rw [if_neg a1, if_neg a2]
        exact fin _
  · have hp0 : hC.1 3 2 = 0 := by rw [i_eq, t0]; have := C.ge; omega
    rw [if_neg hp, if_pos hp0]
    exact fin _
theorem ok_calm : st_calm Rel := by
  intro n hC hM hn R x
  have R1 := R.t0
  unfold aC_calm aM_calm f_X11_calm f_X12_calm
  rw [Option.bind_some]
  generalize dPut hM 0 0 0 = h1 at R1 ⊢
  have C := R1.ct
  have fin : ∀ v : Int32, dAg (Rel (n + 1)) (Option.map (fun v => (v, hC)) (some v)) (some (v, h1)) := fun v => ag rfl rfl (Rel_mono R1)
  by_cases hx : Pl hC x
  · rw [C_pl hx, M_pl C hx, if_pos rfl, if_pos rfl]
    have hn7 := hx.nat C
    obtain ⟨s1, s2, s3⟩ := R1.sr.2.2.2.2.2.2.2 (dI x) hn7.2
    obtain ⟨b1, b2, b3, b4⟩ := R1.sw.2.2.2.2.2.2 (dI x) hn7.2
    have hi := hx.in7 C
    have r2 := C.2.1.2.2.2.1
    have k60 : (60 : Int32).toInt = 60 := rfl
    have lp : ∀ (m n j : Nat) (y : Int32), m < n → y.toInt = j → j + m = 61 → ∃ v, f_X11_calm_L15 hC n x y = some v ∧ f_X12_calm_L17 n x y h1 = some (v, h1) := by
      intro m
      induction m with
      | zero =>
        intro n j y hn hy hj
        obtain ⟨n, rfl⟩ : ∃ k, n = k + 1 := ⟨n - 1, by omega⟩
        have a : 60 < y := by rw [i_lt, k60]; omega
        rw [f_X11_calm_L15, f_X12_calm_L17, if_pos a, if_pos a]
        exact ⟨_, rfl, rfl⟩
      | succ m ih =>
        intro n j y hn2 hy hj
        obtain ⟨n, rfl⟩ : ∃ k, n = k + 1 := ⟨n - 1, by omega⟩
        have a : ¬ 60 < y := by rw [i_lt, k60]; omega
        rw [f_X11_calm_L15, f_X12_calm_L17, if_neg a, if_neg a, C_troublesOf C 66 hx, Option.bind_some, C_patienceOf C 66 hx, Option.bind_some, if_pos (ix0 hi).2, if_pos (ix1 hi).2, (ix0 hi).1, (ix1 hi).1, ← s2, ← s3, ← C.2.2.1 2 (by omega)]
        have r21 := r2.1
        have r22 := r2.2
        have m1 : 0 ≤ y.toInt * (hC.1 4 2).toInt := Int.mul_nonneg (by omega) r21
        have m2 : y.toInt * (hC.1 4 2).toInt ≤ 60 * 9 := Int.mul_le_mul (by omega) r22 r21 (by omega)
        have e1 : (y * hC.1 4 2).toInt = y.toInt * (hC.1 4 2).toInt := i_mul (by omega)
        have b21 := b2.1
        have b22 := b2.2
        have e2 : (hC.1 67 (14 + dI x) - y * hC.1 4 2).toInt = (hC.1 67 (14 + dI x)).toInt - y.toInt * (hC.1 4 2).toInt := by rw [i_sub (by rw [e1]; omega), e1]
        have b31 := b3.1
        have ee : (hC.1 (66 + 1) (21 + dI x) < hC.1 (66 + 1) (14 + dI x) - y * hC.1 4 2) ↔ (hC.1 67 (21 + dI x) < jmax 0 (hC.1 67 (14 + dI x) - y * hC.1 4 2)) := by
          show (hC.1 67 (21 + dI x) < hC.1 67 (14 + dI x) - y * hC.1 4 2) ↔ _
          rw [i_lt, i_lt, i_jmax, t0, e2]
          omega
        by_cases q : hC.1 67 (21 + dI x) < jmax 0 (hC.1 67 (14 + dI x) - y * hC.1 4 2)
        · rw [if_pos (ee.mpr q), if_pos q]
          exact ih n (j + 1) (y + 1) (by omega) (y_suc hy (by omega)) (by omega)
        · rw [if_neg (fun z => q (ee.mp z)), if_neg q]
          exact ⟨_, rfl, rfl⟩
    obtain ⟨v, e1, e2⟩ := lp 61 dFu 0 0 (fuel_lt (by omega)) rfl rfl
    rw [e1, e2]
    exact fin v
  · rw [C_npl hx, M_npl C hx, if_neg (by decide), if_neg (by decide)]
    exact fin _
/-- the second one's round -/
theorem lp_round1 (C : Ct hC hM) (x : Int32) {kC kM : Int32 → Int32 → Int32 → Int32 → Option Int32} {y4 : Int32} (hk : ∀ y2 y3, Pl' hC y3 → ∃ v, kC x y2 y3 (y4 + 1) = some v ∧ kM x y2 y3 (y4 + 1) = some v ∧ (¬ Pl hC x → v = -1)) :
    ∀ (m n j : Nat) (y2 y3 y5 : Int32), m < n → y5.toInt = j → j + m = dI (hC.1 3 2) → Pl' hC y3 → ∃ v, f_X1_roundComes_L16 kC hC n x y2 y3 y4 y5 = some v ∧ f_X12_roundAt_L16 kM hM n x y2 y3 y4 y5 = some v ∧ (¬ Pl hC x → v = -1) := by
  intro m
  induction m with
  | zero =>
    intro n j y2 y3 y5 hn hy hj h3
    obtain ⟨n, rfl⟩ : ∃ k, n = k + 1 := ⟨n - 1, by omega⟩
    rw [f_X1_roundComes_L16, f_X12_roundAt_L16, C.np, if_neg (ge_j C hy hj), if_neg (ge_j C hy hj)]
    exact hk y2 y3 h3
  | succ m ih =>
    intro n j y2 y3 y5 hn hy hj h3
    obtain ⟨n, rfl⟩ : ∃ k, n = k + 1 := ⟨n - 1, by omega⟩
    have hp := pl_j C hy hj
    have nx := C.nat
    rw [f_X1_roundComes_L16, f_X12_roundAt_L16, C.np, if_pos (lt_j C hy hj), if_pos (lt_j C hy hj), C_toldOf C hp in2, M_of C hp in2, Option.bind_some, Option.bind_some]
    unfold f_X1_roundComes_J61 f_X12_roundAt_J64
    by_cases q : hC.1 (6 + dI y5) (dI 2) = y4
    · rw [if_pos q, if_pos q, C_apart C h3 hp.p', M_between C h3 hp, Option.bind_some, Option.bind_some]
      by_cases q2 : y5 = x
      · rw [if_pos q2, if_pos q2]
        exact ⟨_, rfl, rfl, fun z => absurd (q2 ▸ hp) z⟩
      · rw [if_neg q2, if_neg q2]
        exact ih n (j + 1) _ y5 (y5 + 1) (by omega) (y_suc hy (by omega)) (by omega) hp.p'
    · rw [if_neg q, if_neg q]
      exact ih n (j + 1) _ y3 (y5 + 1) (by omega) (y_suc hy (by omega)) (by omega) h3
theorem lp_round (C : Ct hC hM) (hp : 0 < (hC.1 3 2).toInt) (x : Int32) : ∀ (m n j : Nat) (y2 y3 y4 : Int32), m < n → y4.toInt = j → j + m = 4 → Pl' hC y3 → ∃ v, f_X1_roundComes_L7 hC n x y2 y3 y4 = some v ∧ f_X12_roundAt_L7 hM n x y2 y3 y4 = some v ∧ (¬ Pl hC x → v = -1) := by
  intro m
  have k4 : (4 : Int32).toInt = 4 := rfl
  induction m with
  | zero =>
    intro n j y2 y3 y4 hn hy hj h3
    obtain ⟨n, rfl⟩ : ∃ k, n = k + 1 := ⟨n - 1, by omega⟩
    have a : ¬ y4 < 4 := by rw [i_lt, k4]; omega
    rw [f_X1_roundComes_L7, f_X12_roundAt_L7, if_neg a, if_neg a]
    exact ⟨_, rfl, rfl, fun _ => rfl⟩
  | succ m ih =>
    intro n j y2 y3 y4 hn hy hj h3
    obtain ⟨n, rfl⟩ : ∃ k, n = k + 1 := ⟨n - 1, by omega⟩
    have a : y4 < 4 := by rw [i_lt, k4]; omega
    rw [f_X1_roundComes_L7, f_X12_roundAt_L7, if_pos a, if_pos a]
    exact lp_round1 C x (fun y2 y3 h3 => ih n (j + 1) y2 y3 (y4 + 1) (by omega) (y_suc hy (by omega)) (by omega) h3) (dI (hC.1 3 2)) dFu 0 y2 y3 0 (fuel_lt (by have := C.nat; omega)) rfl (by omega) h3
theorem R_round (C : Ct hC hM) (hp : 0 < (hC.1 3 2).toInt) (x : Int32) : ∃ v, f_X1_roundComes x hC = some v ∧ f_X12_roundAt x hM = some v ∧ (¬ Pl hC x → v = -1) :=
  lp_round C hp x 4 dFu 0 0 (-1) 0 (fuel_lt (by omega)) rfl rfl ⟨by rw [tm1]; omega, by rw [tm1]; omega⟩
theorem C_round0 (C : Ct hC hM) (hp : ¬ 0 < (hC.1 3 2).toInt) (x : Int32) : f_X1_roundComes x hC = some (-1) := by
  have h0 : hC.1 3 2 = 0 := by rw [i_eq, t0]; have := C.ge; omega
  have st : ∀ (n : Nat) (k : Int32 → Int32 → Int32 → Int32 → Option Int32) (y2 y3 y4 : Int32), f_X1_roundComes_L16 k hC (n + 1) x y2 y3 y4 0 = k x y2 y3 (y4 + 1) := fun n k y2 y3 y4 => by
    rw [f_X1_roundComes_L16, h0, if_neg (by decide)]
  have e : dFu = 19995 + 1 + 1 + 1 + 1 + 1 := rfl
  unfold f_X1_roundComes
  rw [e, f_X1_roundComes_L7, if_pos (by decide), e, st, f_X1_roundComes_L7, if_pos (by decide), e, st, f_X1_roundComes_L7, if_pos (by decide), e, st, f_X1_roundComes_L7, if_pos (by decide), e, st, f_X1_roundComes_L7, if_neg (by decide)]
theorem ok_round : st_round Rel := by
  intro n hC hM hn R x
  have R1 := R.t0
  unfold aC_round aM_round f_X11_round f_X12_round
  rw [Option.bind_some]
  generalize dPut hM 0 0 0 = h1 at R1 ⊢
  have C := R1.ct
  have fin : ∀ v : Int32, dAg (Rel (n + 1)) (Option.map (fun v => (v, hC)) (some v)) (some (v, h1)) := fun v => ag rfl rfl (Rel_mono R1)
  by_cases hp : 0 < (hC.1 3 2).toInt
  · obtain ⟨v, e1, e2, e3⟩ := R_round C hp x
    rw [e1]
    by_cases hx : Pl hC x
    · rw [M_pl C hx, if_pos rfl, e2]
      exact fin v
    · rw [M_npl C hx, if_neg (by decide), e3 hx]
      exact fin _
  · have hx : ¬ Pl hC x := fun z => hp (by have := z.1; have := z.2; omega)
    rw [C_round0 C hp, M_npl C hx, if_neg (by decide)]
    exact fin _
end LP
