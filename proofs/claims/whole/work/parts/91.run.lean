/-! PURE: RUN and DO -/
section RN
variable {K K' : Int} {n t w : Nat} {hC hM hC' hM' : dH} {x y q : Int32}
def mCan (w : Nat) (q y : Int32) (h : dH) : Option Bool := if q = 0 then f_X12_canWalk w y h else if q = 1 then some (f_X12_canRest w h) else if q = 2 then some (f_X12_canRestore w y h) else if h.1 w 27 < 999 then some true else some false
def mDo (w : Nat) (q y : Int32) (h : dH) : Option dH := if q = 0 then (f_X12_walks w y (h.1 5 2) h).bind (fun r => some r.2) else if q = 1 then f_X12_sitsDown w h else if q = 2 then f_X12_restores w y h else f_X12_goDay w h
theorem bindS {α : Type} (o : Option α) : (o.bind fun v => some v) = o := by cases o <;> rfl
theorem M_canStep {r : Nat} (hr : x.toInt = r) (hr2 : r + 1 < 160) : f_X12_canStep w x hM = mCan w (hM.1 9 r) (hM.1 9 (r + 1)) hM := by
  have e : (x + 1).toInt = ((r + 1 : Nat) : Int) := by rw [i_add1 (by omega), hr]; omega
  unfold f_X12_canStep mCan
  rw [if_pos (dIn_of hr (by omega)), if_pos (dIn_of e (by omega)), if_pos (dIn_of e (by omega)), dI_of hr, dI_of e, bindS]
theorem M_steps0 {r : Nat} (hr : x.toInt = r) (hr2 : r + 1 < 160) : f_X12_steps0 w x hM = mDo w (hM.1 9 r) (hM.1 9 (r + 1)) hM := by
  have e : (x + 1).toInt = ((r + 1 : Nat) : Int) := by rw [i_add1 (by omega), hr]; omega
  unfold f_X12_steps0 mDo
  rw [if_pos (dIn_of hr (by omega)), if_pos (dIn_of e (by omega)), if_pos (dIn_of e (by omega)), dI_of hr, dI_of e, bindS, bindS, bindS]
theorem mCan3 : mCan w 3 y hM = if hM.1 w 27 < 999 then some true else some false := by
  unfold mCan
  rw [if_neg (by decide), if_neg (by decide), if_neg (by decide)]
theorem mDo3 : mDo w 3 y hM = f_X12_goDay w hM := by
  unfold mDo
  rw [if_neg (by decide), if_neg (by decide), if_neg (by decide)]
theorem q03 (hq : bt 0 3 q) : q = 0 ∨ q = 1 ∨ q = 2 ∨ q = 3 := by
  have h1 := hq.1
  have h2 := hq.2
  have k2 : (2 : Int32).toInt = 2 := rfl
  have k3 : (3 : Int32).toInt = 3 := rfl
  rw [i_eq, i_eq, i_eq, i_eq, t0, t1, k2, k3]
  omega
theorem R_try (h : tw t w) (S : ST K t w hC hM) (hK : 0 ≤ K ∧ K ≤ 50000) (hp : 0 < (hC.1 3 2).toInt) (hq : bt 0 3 q) : ∃ b : Bool, f_X8_canDo t q y hC = some b ∧ mCan w q y hM = some b ∧ (b = true → ∃ (v : Int32) (c d : dH), f_X8_carryOut t q y hC = some (v, c) ∧ mDo w q y hM = some d ∧ SN (K + 1) t w hC hM c d) := by
  obtain ⟨C, L3, mo, s, sw, hat, lg⟩ := id S
  have k999 : (999 : Int32).toInt = 999 := rfl
  rcases q03 hq with rfl | rfl | rfl | rfl
  · unfold mCan mDo
    rw [if_pos rfl, if_pos rfl, C_can0 C hat, M_canWalk C w (by rw [s.1]; exact hat), s.1, ← s.2.1, ← s.2.2.1]
    refine ⟨_, rfl, rfl, fun b => ?_⟩
    obtain ⟨v, c, d, u1, u2, u3, N, u4, u5⟩ := R_walk h S hK b
    exact ⟨v, c, d, co0 u1, by rw [u2]; rfl, N⟩
  · unfold mCan mDo
    rw [if_neg (by decide), if_pos rfl, if_neg (by decide), if_pos rfl, C_can1, M_canRest C s]
    refine ⟨_, rfl, rfl, fun b => ?_⟩
    rw [decide_eq_true_iff] at b
    obtain ⟨v, c, d, u1, u2, u3, u6, N, u4, u5⟩ := R_read h S b.1 b.2
    exact ⟨v, c, d, co1 u1, u2, SN_mono (by omega) N⟩
  · unfold mCan mDo
    rw [if_neg (by decide), if_neg (by decide), if_pos rfl, if_neg (by decide), if_neg (by decide), if_pos rfl, C_can2, M_canRestore C s]
    refine ⟨_, rfl, rfl, fun b => ?_⟩
    obtain ⟨v, c, d, u1, u2, u3, u6, N, u4, u5⟩ := R_putBack h S (rsB_pl b)
    exact ⟨v, c, d, co2 u1, u2, SN_mono (by omega) N⟩
  · rw [mCan3, mDo3, C_can3, ← s.2.2.2.2.2.2.1]
    by_cases b : (hC.1 (t + 1) 6).toInt < 999
    · have lg1 := lg.1
      obtain ⟨v, c, d, u1, u2, u3, u4, N, _⟩ := R_day h S b (c := dI (hM.1 w 28)) (dI_c lg1).symm
      exact ⟨true, by rw [decide_eq_true ⟨hp, b⟩], if_pos (by rw [i_lt, k999]; exact b), fun _ => ⟨v, c, d, co3 u1, u2, SN_mono (by omega) N⟩⟩
    · exact ⟨false, by rw [decide_eq_false (fun z => b z.2)], if_neg (by rw [i_lt, k999]; exact b), fun z => by cases z⟩
theorem R_doQ (R : RelK K hC hM) (hK : 0 ≤ K ∧ K ≤ 50000) (hp : 0 < (hC.1 3 2).toInt) (hq : bt 0 3 q) : ∃ b : Bool, mCan 11 q y hM = some b ∧ (b = false → f_X11_doAsAct q y hC = some (-1, hC)) ∧ (b = true → ∃ (v : Int32) (c m m2 : dH), f_X11_doAsAct q y hC = some (v, c) ∧ f_X12_remember hM = some m ∧ (∀ k, m.1 9 k = hM.1 9 k) ∧ mDo 11 q y m = some m2 ∧ 0 ≤ v.toInt ∧ RelK (K + 1) c m2 ∧ aF hC hM c m2) := by
  obtain ⟨b, e1, e2, _⟩ := R_try (y := y) (Or.inl ⟨rfl, rfl⟩) R.st hK hp hq
  refine ⟨b, e2, fun z => da_no (by rw [e1, z]), fun z => ?_⟩
  rw [z] at e1
  obtain ⟨_, m0, _, em, _, F, _⟩ := R_keepF R
  have h9 : ∀ m, f_X12_remember hM = some m → ∀ k, m.1 9 k = hM.1 9 k := fun m e k => by
    rw [em] at e
    cases e
    exact F.2.1 9 k (by omega) (by omega) (by omega) (by omega) (by omega)
  unfold mDo
  rcases q03 hq with rfl | rfl | rfl | rfl
  · rw [C_can0 R.ct R.atA] at e1
    obtain ⟨v, c, m, m2, u1, u2, u3, u4, R', F'⟩ := R_do0 R hK (Option.some.inj e1)
    exact ⟨v, c, m, m2, u1, u2, h9 m u2, by rw [if_pos rfl, u3]; rfl, u4, R', F'⟩
  · rw [C_can1] at e1
    have b := decide_eq_true_iff.mp (Option.some.inj e1)
    obtain ⟨v, c, m, m2, u1, u2, u3, u4, u5, R', F'⟩ := R_do1 (x := y) R b.1 b.2
    exact ⟨v, c, m, m2, u1, u2, h9 m u2, by rw [if_neg (by decide), if_pos rfl, u3], u5, R', F'⟩
  · rw [C_can2] at e1
    obtain ⟨v, c, m, m2, u1, u2, u3, u4, u5, R', F'⟩ := R_do2 R (Option.some.inj e1)
    exact ⟨v, c, m, m2, u1, u2, h9 m u2, by rw [if_neg (by decide), if_neg (by decide), if_pos rfl, u3], u5, R', F'⟩
  · rw [C_can3] at e1
    have b := decide_eq_true_iff.mp (Option.some.inj e1)
    obtain ⟨v, c, m, m2, u1, u2, u3, u4, u5, R', F'⟩ := R_do3 (x := y) R b.1 b.2
    exact ⟨v, c, m, m2, u1, u2, h9 m u2, by rw [if_neg (by decide), if_neg (by decide), if_neg (by decide), u3], u5, R', F'⟩
/-- a STEP told -/
theorem C_told (D : rDays (hC.1 52 0) (hM.1 0 26) (cWh hC) (cDg hC) (hC.1 65) (hM.1 9) (hM.1 10)) (hx : 0 ≤ x.toInt ∧ x.toInt < (hC.1 52 0).toInt) {i : Nat} (hy : y.toInt = i) (hi : (i : Int) < (hC.1 65 (dI x)).toInt) : f_X3_whatOf x y hC = some (hM.1 9 (2 * (16 * dI x + i))) ∧ f_X3_digitOf x y hC = some (hM.1 9 (2 * (16 * dI x + i) + 1)) ∧ bt 0 3 (hM.1 9 (2 * (16 * dI x + i))) := by
  obtain ⟨d1, d2, d3⟩ := D
  have d22 := d2.2
  have dx := dI_c hx.1
  obtain ⟨b1, b2, b3⟩ := d3 (dI x) (by omega)
  have b22 := b2.2
  obtain ⟨c1, c2, c3, c4⟩ := b3 i hi
  have hx5 : dIn x 5 := ⟨hx.1, by omega⟩
  have dy : dI y = i := dI_of hy
  have hy16 : dIn y 16 := ⟨by omega, by omega⟩
  have es : f_X3_sizeOf x hC = some (hC.1 65 (dI x)) := by
    unfold f_X3_sizeOf
    rw [C_isKept, if_pos (decide_eq_true hx), if_pos hx5]
  refine ⟨?_, ?_, by rw [← c1]; exact c3⟩
  · unfold f_X3_whatOf
    rw [es, Option.bind_some, if_neg (by rw [i_lt, t0]; omega), if_pos (by rw [i_lt]; omega), if_pos hx5, if_pos hy16, dy, ← c1, cWh_at (by omega)]
  · unfold f_X3_digitOf
    rw [es, Option.bind_some, if_neg (by rw [i_lt, t0]; omega), if_pos (by rw [i_lt]; omega), if_pos hx5, if_pos hy16, dy, ← c2, cDg_at (by omega)]
theorem row2 {i j : Nat} (hx : x.toInt = j) (hy : y.toInt = i) (hj : j < 5) (hi : i < 16) : (2 * (16 * x + y)).toInt = ((2 * (16 * j + i) : Nat) : Int) := by
  have k16 : (16 : Int32).toInt = 16 := rfl
  have kk2 : (2 : Int32).toInt = 2 := rfl
  have e1 : (16 * x).toInt = 16 * x.toInt := by rw [i_mul (by rw [k16]; omega), k16]
  have e2 : (16 * x + y).toInt = 16 * x.toInt + y.toInt := by rw [i_add (by rw [e1]; omega), e1]
  rw [i_mul (by rw [kk2, e2]; omega), kk2, e2]
  omega
theorem lp_perf : ∀ (m k i : Nat) (K : Int) (x y : Int32) (hC hM : dH), m < k → y.toInt = i → 0 ≤ x.toInt ∧ x.toInt < (hC.1 52 0).toInt → (i : Int) + m = (hC.1 65 (dI x)).toInt → RelK K hC hM → 0 < (hC.1 3 2).toInt → 0 ≤ K → K + m ≤ 50000 → ∃ (r : Int32) (c d : dH), f_X11_perform_L34 k x (hC.1 65 (dI x)) y hC = some (r, c) ∧ f_X12_perform_L24 k x y hM = some (r, d) ∧ RelK (K + m) c d := by
  intro m
  induction m with
  | zero =>
    intro k i K x y hC hM hk hy hx hm R hp hK1 hK2
    obtain ⟨k, rfl⟩ : ∃ z, k = z + 1 := ⟨k - 1, by omega⟩
    have D := R.day
    have dx := dI_c hx.1
    have d22 := D.2.1.2
    have hx5 : dIn x 5 := ⟨hx.1, by omega⟩
    have b1 := (D.2.2 (dI x) (by omega)).1
    have a : ¬ y < hC.1 65 (dI x) := by rw [i_lt]; omega
    rw [f_X11_perform_L34, f_X12_perform_L24, if_pos hx5, ← b1, if_neg a, if_neg a]
    exact ⟨_, _, _, rfl, rfl, RelK_mono (by omega) R⟩
  | succ m ih =>
    intro k i K x y hC hM hk hy hx hm R hp hK1 hK2
    obtain ⟨k, rfl⟩ : ∃ z, k = z + 1 := ⟨k - 1, by omega⟩
    have D := R.day
    have dx := dI_c hx.1
    have d22 := D.2.1.2
    have hx5 : dIn x 5 := ⟨hx.1, by omega⟩
    obtain ⟨b1, b2, b3⟩ := D.2.2 (dI x) (by omega)
    have b22 := b2.2
    have a : y < hC.1 65 (dI x) := by rw [i_lt]; omega
    obtain ⟨t1', t2, t3⟩ := C_told D hx hy (by omega)
    have hr := row2 (x := x) (y := y) dx.symm hy (by omega) (by omega)
    obtain ⟨b, u1, u2, u3⟩ := R_doQ (y := hM.1 9 (2 * (16 * dI x + i) + 1)) R ⟨by omega, by omega⟩ hp t3
    rw [f_X11_perform_L34, f_X12_perform_L24, if_pos hx5, ← b1, if_pos a, if_pos a, t1', t2, Option.bind_some, Option.bind_some, M_canStep hr (by omega), u1, Option.bind_some]
    cases b with
    | false =>
      rw [u2 rfl, Option.bind_some]
      exact ⟨_, _, _, if_pos rfl, if_neg (by decide), RelK_mono (by omega) R⟩
    | true =>
      obtain ⟨v, c, m1, m2, v1, v2, v9, v3, v4, R', F⟩ := u3 rfl
      have vn : ¬ v = -1 := fun z => by rw [z, tm1] at v4; omega
      rw [v1, Option.bind_some, if_pos rfl, v2, Option.bind_some, M_steps0 hr (by omega), v9, v9, v3, Option.bind_some]
      have e65 : c.1 65 (dI x) = hC.1 65 (dI x) := F.1 65 _ (by omega) (by omega) (by omega) (by omega) (by omega) (by omega)
      have e52 : c.1 52 0 = hC.1 52 0 := F.1 52 0 (by omega) (by omega) (by omega) (by omega) (by omega) (by omega)
      have e32 : c.1 3 2 = hC.1 3 2 := F.1 3 2 (by omega) (by omega) (by omega) (by omega) (by omega) (by omega)
      obtain ⟨r, c3, d3, w1, w2, w3⟩ := ih k (i + 1) (K + 1) x (y + 1) c m2 (by omega) (y_suc hy (by omega)) (by rw [e52]; exact hx) (by rw [e65]; omega) R' (by rw [e32]; exact hp) (by omega) (by omega)
      rw [e65] at w1
      refine ⟨r, c3, d3, ?_, w2, RelK_mono (by omega) w3⟩
      rw [← w1]
      exact if_neg vn
theorem ok_perform : st_perform Rel := by
  intro n hC hM hn R x
  have R1 : RelK (60 * n) hC (dPut hM 0 0 0) := R.t0
  unfold aC_perform aM_perform f_X11_perform f_X12_perform
  rw [Option.bind_some]
  generalize dPut hM 0 0 0 = h1 at R1 ⊢
  have C := R1.ct
  have D := R1.day
  have fin : dAg (Rel (n + 1)) (some (-1, hC)) (some (-1, h1)) := ag rfl rfl (Rel_mono R1)
  rw [C_isThere, C.np, M_isPlan, C_isKept, ← D.1]
  by_cases hp : 0 < (hC.1 3 2).toInt
  · have hp0 : ¬ hC.1 3 2 = 0 := fun z => by rw [z, t0] at hp; omega
    rw [if_pos (decide_eq_true hp), if_neg hp0]
    by_cases hx : 0 ≤ x.toInt ∧ x.toInt < (hC.1 52 0).toInt
    · have dx := dI_c hx.1
      have d22 := D.2.1.2
      have b2 := (D.2.2 (dI x) (by omega)).2.1
      have b21 := b2.1
      have b22 := b2.2
      have hx5 : dIn x 5 := ⟨hx.1, by omega⟩
      have es : f_X3_sizeOf x hC = some (hC.1 65 (dI x)) := by
        unfold f_X3_sizeOf
        rw [C_isKept, if_pos (decide_eq_true hx), if_pos hx5]
      rw [if_pos (decide_eq_true hx), if_pos (decide_eq_true hx), es, Option.bind_some]
      have ds := dI_c (x := hC.1 65 (dI x)) (by omega)
      obtain ⟨r, c, d, e1, e2, R'⟩ := lp_perf (dI (hC.1 65 (dI x))) dFu 0 (60 * n) x 0 hC h1 (fuel_lt (by omega)) rfl hx (by omega) R1 hp (by omega) (by omega)
      rw [e1, e2]
      exact ag rfl rfl (RelK_mono (by omega) R')
    · rw [if_neg (by rw [decide_eq_true_iff]; exact hx), if_neg (by rw [decide_eq_true_iff]; exact hx)]
      exact fin
  · have hp0 : hC.1 3 2 = 0 := by rw [i_eq, t0]; have := C.ge; omega
    rw [if_neg (by rw [decide_eq_true_iff]; exact hp), if_pos hp0]
    have : (if decide (0 ≤ x.toInt ∧ x.toInt < (hC.1 52 0).toInt) = true then some ((-1 : Int32), h1) else some (-1, h1)) = some (-1, h1) := by split <;> rfl
    rw [this]
    exact fin
/-- trials leave all that counts as it is -/
theorem gC.e68 (g : gC 68 hC hC') : eC hC hC' := fun a k hk => g.1 a k (fun z => by rw [z] at hk; cases hk) (fun z => by rw [z] at hk; cases hk) (fun z => by rw [z] at hk; cases hk)
theorem gM.e12 (g : gM 12 hM hM') : eM hM hM' := ⟨fun a k hk => by
    by_cases a0 : a = 0
    · rw [a0] at hk ⊢
      by_cases q : k < 8 ∨ 14 < k ∧ k ≠ 17
      · exact g.2.1 k q
      · exfalso
        rcases (show k = 8 ∨ k = 9 ∨ k = 10 ∨ k = 11 ∨ k = 12 ∨ k = 13 ∨ k = 14 ∨ k = 17 by omega) with rfl | rfl | rfl | rfl | rfl | rfl | rfl | rfl <;> cases hk
    · exact g.1 a k (fun z => by rw [z] at hk; cases hk) a0 (fun z => by rw [z] at hk; cases hk) (fun z => by rw [z] at hk; cases hk), g.2.2.2⟩
theorem lp_run : ∀ (m k i : Nat) (K : Int) (x y q : Int32) (hC hM : dH), m < k → y.toInt = i → 0 ≤ x.toInt ∧ x.toInt < (hC.1 52 0).toInt → (i : Int) + m = (hC.1 65 (dI x)).toInt → rDays (hC.1 52 0) (hM.1 0 26) (cWh hC) (cDg hC) (hC.1 65) (hM.1 9) (hM.1 10) → ST K 68 12 hC hM → hC.1 67 4 = hM.1 11 25 → 0 < (hC.1 3 2).toInt → 0 ≤ K → K + m ≤ 50000 → ∃ (r : Int32) (c d : dH), f_X11_run_L60 k x q (hC.1 65 (dI x)) y hC = some (r, c) ∧ f_X12_run_L47 k x q y hM = some (r, d) ∧ gC 68 hC c ∧ gM 12 hM d := by
  intro m
  have jn : ∀ (i : Nat) (K : Int) (x y q : Int32) (hC hM : dH), dIn x 5 → hC.1 65 (dI x) = hM.1 10 (dI x) → y.toInt = i → (i : Int) ≤ (hC.1 65 (dI x)).toInt → ST K 68 12 hC hM → hC.1 67 4 = hM.1 11 25 → ∃ (r : Int32) (c d : dH), f_X11_run_J82 q (hC.1 65 (dI x)) y hC = some (r, c) ∧ f_X12_run_J98 x q y hM = some (r, d) ∧ gC 68 hC c ∧ gM 12 hM d := by
    intro i K x y q hC hM hx5 b1 hy hi S s25
    unfold f_X11_run_J82 f_X12_run_J98
    by_cases q1 : q = 1
    · rw [if_pos q1, if_pos q1]
      have e : f_X8_seenInAll 68 hC - f_X8_seenInAll 66 hC = hM.1 12 25 - hM.1 11 25 := by
        show hC.1 69 4 - hC.1 67 4 = _
        rw [s25]
        have : hC.1 69 4 = hM.1 12 25 := S.2.2.2.1.2.2.2.2.1
        rw [this]
      rw [e]
      exact ⟨_, _, _, rfl, rfl, gC_rf _ _, gM_rf _ _⟩
    · rw [if_neg q1, if_neg q1, if_pos hx5, ← b1]
      by_cases q2 : y = hC.1 65 (dI x)
      · rw [if_pos q2, if_neg (by rw [i_lt]; rw [i_eq] at q2; omega)]
        exact ⟨_, _, _, rfl, rfl, gC_rf _ _, gM_rf _ _⟩
      · rw [if_neg q2, if_pos (by rw [i_lt]; rw [i_eq] at q2; omega)]
        exact ⟨_, _, _, rfl, rfl, gC_rf _ _, gM_rf _ _⟩
  induction m with
  | zero =>
    intro k i K x y q hC hM hk hy hx hm D S s25 hp hK1 hK2
    obtain ⟨k, rfl⟩ : ∃ z, k = z + 1 := ⟨k - 1, by omega⟩
    have dx := dI_c hx.1
    have d22 := D.2.1.2
    have hx5 : dIn x 5 := ⟨hx.1, by omega⟩
    have b1 := (D.2.2 (dI x) (by omega)).1
    have a : ¬ y < hC.1 65 (dI x) := by rw [i_lt]; omega
    rw [f_X11_run_L60, f_X12_run_L47, if_pos hx5, ← b1, if_neg a, if_neg a]
    exact jn i K x y q hC hM hx5 b1 hy (by omega) S s25
  | succ m ih =>
    intro k i K x y q hC hM hk hy hx hm D S s25 hp hK1 hK2
    obtain ⟨k, rfl⟩ : ∃ z, k = z + 1 := ⟨k - 1, by omega⟩
    have dx := dI_c hx.1
    have d22 := D.2.1.2
    have hx5 : dIn x 5 := ⟨hx.1, by omega⟩
    obtain ⟨b1, b2, b3⟩ := D.2.2 (dI x) (by omega)
    have b22 := b2.2
    have a : y < hC.1 65 (dI x) := by rw [i_lt]; omega
    obtain ⟨t1', t2, t3⟩ := C_told D hx hy (by omega)
    have hr := row2 (x := x) (y := y) dx.symm hy (by omega) (by omega)
    obtain ⟨b, u1, u2, u3⟩ := R_try (y := hM.1 9 (2 * (16 * dI x + i) + 1)) (Or.inr ⟨rfl, rfl⟩) S ⟨by omega, by omega⟩ hp t3
    rw [f_X11_run_L60, f_X12_run_L47, if_pos hx5, ← b1, if_pos a, if_pos a]
    unfold f_X11_tryStep
    rw [t1', t2, Option.bind_some, Option.bind_some, u1, Option.bind_some, M_canStep hr (by omega), u2, Option.bind_some]
    cases b with
    | false =>
      simp only [Bool.false_eq_true, ↓reduceIte, Option.bind_some]
      exact jn i K x y q hC hM hx5 b1 hy (by omega) S s25
    | true =>
      obtain ⟨v, c, d, v1, v2, N⟩ := u3 rfl
      rw [if_pos rfl, if_pos rfl, v1, Option.bind_some, Option.bind_some, if_pos rfl, M_steps0 hr (by omega), v2, Option.bind_some]
      have S' := SN.st (Or.inr ⟨rfl, rfl⟩) S N
      have e65 : c.1 65 (dI x) = hC.1 65 (dI x) := N.1.1 65 _ (by omega) (by omega) (by omega)
      have e52 : c.1 52 0 = hC.1 52 0 := N.1.1 52 0 (by omega) (by omega) (by omega)
      have e32 : c.1 3 2 = hC.1 3 2 := N.1.1 3 2 (by omega) (by omega) (by omega)
      have D' : Q5 c d := Q5_e (gC.on (Or.inr rfl) N.1 (fun _ => rfl) (fun _ => rfl) (fun _ => rfl) (fun _ => rfl)) (gM.on N.2.1 (fun _ => rfl) (fun _ => rfl) (fun _ => rfl) (ezz rfl rfl rfl rfl rfl rfl rfl rfl)) D
      obtain ⟨r, c3, d3, w1, w2, w3, w4⟩ := ih k (i + 1) (K + 1) x (y + 1) q c d (by omega) (y_suc hy (by omega)) (by rw [e52]; exact hx) (by rw [e65]; omega) D' S' (by rw [N.1.1 67 4 (by omega) (by omega) (by omega), N.2.1.1 11 25 (by omega) (by omega) (by omega) (by omega)]; exact s25) (by rw [e32]; exact hp) (by omega) (by omega)
      rw [e65] at w1
      exact ⟨r, c3, d3, w1, w2, gC_tr N.1 w3, gM_tr N.2.1 w4⟩
/-- a trial begins -/
theorem M_copy (h : dH) : f_X12_copy h = some (dPut (dCpy h 11 12 0 0 28) 12 28 0) := lp_copy 28 dFu 0 0 h (fuel_lt (by omega)) rfl rfl
theorem gM_copy (h : dH) : gM 12 h (dPut (dCpy h 11 12 0 0 28) 12 28 0) := gM_row (Or.inr rfl) (fun a k ha => by rw [dPut_ne (by omega), dCpy_ne ha]) rfl
theorem copy12 (h : dH) {k : Nat} (hk : k < 28) : (dPut (dCpy h 11 12 0 0 28) 12 28 0).1 12 k = h.1 11 k := by
  rw [dPut_ne (by omega), cpy_at (by omega) (by omega)]
  exact ixe _ (by omega)
theorem ST_trial (R : RelK K hC hM) : f_X8_loadFrom 68 67 28 0 hC = some (dCpy hC 67 69 0 0 28) ∧ gC 68 hC (dCpy hC 67 69 0 0 28) ∧ ST K 68 12 (dCpy hC 67 69 0 0 28) (dPut (dCpy hM 11 12 0 0 28) 12 28 0) := by
  have g : gC 68 hC (dCpy hC 67 69 0 0 28) := ⟨fun a k h1 _ _ => dCpy_ne h1, rfl⟩
  have gm := gM_copy hM
  have ck : ∀ k, k < 28 → (dCpy hC 67 69 0 0 28).1 69 k = hC.1 67 k := fun k hk => by
    rw [cpy_at (by omega) (by omega)]
    exact ixe _ (by omega)
  have mk : ∀ k, k < 28 → (dPut (dCpy hM 11 12 0 0 28) 12 28 0).1 12 k = hM.1 11 k := fun k hk => copy12 hM hk
  refine ⟨rfl, g, g.ct (Or.inr rfl) (gm.ct (Or.inr rfl) R.ct), Q3_g (Or.inr ⟨rfl, rfl⟩) g gm R.2.2.1, gm.2.2.2 R.2.2.2.1, ?_, ?_, ?_, ?_⟩
  · show sR ((dCpy hC 67 69 0 0 28).1 69) ((dPut (dCpy hM 11 12 0 0 28) 12 28 0).1 12)
    obtain ⟨s0, s1, s2, s3, s4, s5, s6, s7⟩ := R.sr
    refine ⟨by rw [mk 23 (by omega), ck 0 (by omega)]; exact s0, by rw [ck 1 (by omega), mk 21 (by omega)]; exact s1, by rw [ck 2 (by omega), mk 22 (by omega)]; exact s2, by rw [ck 3 (by omega), mk 24 (by omega)]; exact s3, by rw [ck 4 (by omega), mk 25 (by omega)]; exact s4, by rw [ck 5 (by omega), mk 26 (by omega)]; exact s5, by rw [ck 6 (by omega), mk 27 (by omega)]; exact s6, fun p hp7 => ?_⟩
    rw [ck (7 + p) (by omega), ck (14 + p) (by omega), ck (21 + p) (by omega), mk (3 * p + 2) (by omega), mk (3 * p) (by omega), mk (3 * p + 1) (by omega)]
    exact s7 p hp7
  · show sW ((dCpy hC 67 69 0 0 28).1 3 2) ((dCpy hC 67 69 0 0 28).1 4) K ((dCpy hC 67 69 0 0 28).1 69)
    rw [g.r4 (Or.inr rfl), g.r32 (Or.inr rfl)]
    exact sW_c ck R.sw
  · show -1 ≤ ((dCpy hC 67 69 0 0 28).1 69 0).toInt ∧ ((dCpy hC 67 69 0 0 28).1 69 0).toInt < ((dCpy hC 67 69 0 0 28).1 3 2).toInt
    rw [ck 0 (by omega), g.r32 (Or.inr rfl)]
    exact R.atA
  · rw [dPut_at]
    exact ⟨by decide, by decide⟩
theorem ok_run : st_run Rel := by
  intro n hC hM hn R x q
  have R1 : RelK (60 * n) hC (dPut hM 0 0 0) := R.t0
  unfold aC_run aM_run f_X11_run f_X12_run
  rw [Option.bind_some]
  generalize dPut hM 0 0 0 = h1 at R1 ⊢
  have C := R1.ct
  have D := R1.day
  have k0 : (0 : Int64).toInt = 0 := rfl
  have k1 : (1 : Int64).toInt = 1 := rfl
  have fin : dAg (Rel (n + 1)) (some (-1000000, hC)) (some (-1000000, h1)) := ag rfl rfl (Rel_mono R1)
  rw [C_isThere, C.np, M_isPlan, C_isKept, ← D.1, M_isIn, k0, k1]
  by_cases hp : 0 < (hC.1 3 2).toInt
  · have hp0 : ¬ hC.1 3 2 = 0 := fun z => by rw [z, t0] at hp; omega
    rw [if_pos (decide_eq_true hp), if_neg hp0]
    by_cases hx : 0 ≤ x.toInt ∧ x.toInt < (hC.1 52 0).toInt
    · rw [if_pos (decide_eq_true hx), if_pos (decide_eq_true hx)]
      by_cases a : 0 ≤ q.toInt ∧ q.toInt ≤ 1
      · obtain ⟨l1, g, S⟩ := ST_trial R1
        rw [if_neg (by rw [i_lt, t0]; omega), if_neg (by rw [i_lt, t1]; omega), if_pos (decide_eq_true a), l1, Option.bind_some, M_copy, Option.bind_some]
        have gm := gM_copy h1
        generalize dCpy hC 67 69 0 0 28 = hC2 at g S ⊢
        generalize dPut (dCpy h1 11 12 0 0 28) 12 28 0 = hM2 at gm S ⊢
        have R2 : RelK (60 * n) hC2 hM2 := RelK_e R1 (gC.e68 g) (gM.e12 gm)
        have D2 := R2.day
        have e52 : hC2.1 52 0 = hC.1 52 0 := g.1 52 0 (by omega) (by omega) (by omega)
        have e32 : hC2.1 3 2 = hC.1 3 2 := g.1 3 2 (by omega) (by omega) (by omega)
        rw [← e52] at hx
        rw [← e32] at hp
        have dx := dI_c hx.1
        have d22 := D2.2.1.2
        have b2 := (D2.2.2 (dI x) (by omega)).2.1
        have b21 := b2.1
        have b22 := b2.2
        have hx5 : dIn x 5 := ⟨hx.1, by omega⟩
        have es : f_X3_sizeOf x hC2 = some (hC2.1 65 (dI x)) := by
          unfold f_X3_sizeOf
          rw [C_isKept, if_pos (decide_eq_true hx), if_pos hx5]
        have ds := dI_c (x := hC2.1 65 (dI x)) (by omega)
        obtain ⟨r, c, d, e1, e2, e3, e4⟩ := lp_run (dI (hC2.1 65 (dI x))) dFu 0 (60 * n) x 0 q hC2 hM2 (fuel_lt (by omega)) rfl hx (by omega) D2 S R2.sr.2.2.2.2.1 hp (by omega) (by omega)
        rw [es, Option.bind_some, e1, e2]
        exact ag rfl rfl (Rel_mono (RelK_e R2 (gC.e68 e3) (gM.e12 e4)))
      · rw [if_neg (show ¬ decide (0 ≤ q.toInt ∧ q.toInt ≤ 1) = true by rw [decide_eq_true_iff]; exact a)]
        by_cases a1 : q < 0
        · rw [if_pos a1]
          exact fin
        · rw [if_neg a1, if_pos (by rw [i_lt, t0] at a1; rw [i_lt, t1]; omega)]
          exact fin
    · rw [if_neg (by rw [decide_eq_true_iff]; exact hx), if_neg (by rw [decide_eq_true_iff]; exact hx)]
      exact fin
  · have hp0 : hC.1 3 2 = 0 := by rw [i_eq, t0]; have := C.ge; omega
    rw [if_neg (by rw [decide_eq_true_iff]; exact hp), if_pos hp0]
    have : (if decide (0 ≤ x.toInt ∧ x.toInt < (hC.1 52 0).toInt) = true then some ((-1000000 : Int32), h1) else some (-1000000, h1)) = some (-1000000, h1) := by split <;> rfl
    rw [this]
    exact fin
end RN
