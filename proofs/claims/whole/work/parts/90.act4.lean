/-! PURE: YEARS, RUN, DO, and what would be -/
section AE
variable {K K' : Int} {n t w : Nat} {hC hM hC' hM' : dH} {x y : Int32}
theorem RelK_L (R : RelK K hC hM) (v : Int64) : RelK K hC (dPutL hM 0 36 v) := RelK_e R (eC_rf _) ⟨fun _ _ _ => rfl, fun m => m⟩
theorem dPutL_at {h : dH} {v : Int64} : (dPutL h 0 36 v).2.1 0 36 = v := by
  show (if (0 : Nat) = 0 ∧ (36 : Nat) = 36 then v else h.2.1 0 36) = v
  exact if_pos ⟨rfl, rfl⟩
/-- a draw -/
def drw (x : Int64) (m : Int32) : Int32 := ((((x).toUInt64 >>> ((33 : Int32).toInt64.toUInt64 &&& Int64.toUInt64 63)).toInt64 - ((x).toUInt64 >>> ((33 : Int32).toInt64.toUInt64 &&& Int64.toUInt64 63)).toInt64 / (m : Int32).toInt64 * (m : Int32).toInt64) : Int64).toInt32
def nxt (x : Int64) : Int64 := (x * 6364136223846793005) + 1442695040888963407
theorem n64 (hx : 0 < x.toInt) : ¬ (x : Int32).toInt64 = 0 := fun z => by
  have := congrArg Int64.toInt z
  rw [l_ofI] at this
  have h0 : (0 : Int64).toInt = 0 := rfl
  omega
theorem C_draw {s : Int64} (hx : 0 < x.toInt) : f_X11_draw s x hC = some (drw s x) := by
  unfold f_X11_draw
  rw [if_pos (by rw [i_lt, t0]; exact hx), if_pos (n64 hx)]
  rfl
theorem M_draw (hx : 0 < x.toInt) : f_X12_draw x hM = some (drw (nxt (hM.2.1 0 36)) x, dPutL hM 0 36 (nxt (hM.2.1 0 36))) := by
  unfold f_X12_draw
  rw [Option.bind_some, if_pos (n64 hx), dPutL_at]
  rfl
theorem aF_L (v : Int64) (hv : v = v) : (∀ a k, (dPutL hM 0 36 v).1 a k = hM.1 a k) := fun _ _ => rfl
/-- one of the years' ACTS, behind what was kept -/
theorem R_year (P : Kp K hC hM) (hK : 0 ≤ K ∧ K ≤ 50000) (hp : 0 < (hC.1 3 2).toInt) : 
    (∃ c m : dH, f_X11_letDayGoBy hC = some c ∧ (if hM.1 11 27 < 999 then f_X12_goDay 11 hM else some hM) = some m ∧ RelK (K + 1) c m ∧ aF hC hM c m) ∧
    (∀ p : Int32, ∃ (b : Bool) (c m : dH), f_X11_walkOrRead p hC = some (bi b, c) ∧ RelK (K + 1) c m ∧ aF hC hM c m ∧ ∃ b2 : Bool, f_X12_canWalk 11 p hM = some b ∧ f_X12_canRest 11 hM = b2 ∧ (b = true → ∃ v, f_X12_walks 11 p (hM.1 5 2) hM = some (v, m)) ∧ (b = false → b2 = true → f_X12_sitsDown 11 hM = some m) ∧ (b = false → b2 = false → m = hM)) := by
  have R := P.1
  have C := R.ct
  have s := R.sr
  have S := R.st
  have k999 : (999 : Int32).toInt = 999 := rfl
  constructor
  · unfold f_X11_letDayGoBy
    rw [C_can3, Option.bind_some, ← s.2.2.2.2.2.2.1]
    by_cases b : (hC.1 67 6).toInt < 999
    · obtain ⟨v, hW, c, m, e1, e2, e3, e4, e5, R', F⟩ := Kp_dayF P b
      rw [if_pos (decide_eq_true ⟨hp, b⟩), if_pos (by rw [i_lt, k999]; exact b), e1, Option.bind_some, co3 e2, e3]
      exact ⟨c, m, rfl, rfl, R', F⟩
    · rw [if_neg (show ¬ decide (0 < (hC.1 3 2).toInt ∧ (hC.1 (66 + 1) 6).toInt < 999) = true by rw [decide_eq_true_iff]; exact fun z => b z.2), if_neg (by rw [i_lt, k999]; exact b)]
      exact ⟨hC, hM, rfl, rfl, RelK_mono (by omega) R, aF_rf⟩
  · intro p
    unfold f_X11_walkOrRead
    rw [C_can0 C R.atA, Option.bind_some, M_canWalk C 11 (by rw [s.1]; exact R.atA), s.1, ← s.2.1, ← s.2.2.1]
    by_cases b : cwB hC (hC.1 67 0) (hC.1 67 1) (hC.1 67 2) p = true
    · obtain ⟨v, c2, m2, u1, u2, u3, N, u4, u5⟩ := R_walk (Or.inl ⟨rfl, rfl⟩) S hK b
      refine ⟨true, c2, m2, ?_, Kp_step P N u4 u5, aF_SN N, _, congrArg some b, rfl, (fun _ => ⟨v, u2⟩), (fun z => by cases z), (fun z => by cases z)⟩
      show (if cwB hC (hC.1 67 0) (hC.1 67 1) (hC.1 67 2) p = true then _ else _) = _
      rw [if_pos b, co0 u1]
      rfl
    · have b' := Bool.eq_false_iff.mpr b
      have e : (if cwB hC (hC.1 (66 + 1) 0) (hC.1 (66 + 1) 1) (hC.1 (66 + 1) 2) p = true then (f_X8_carryOut 66 0 p hC).bind fun rv6 => some ((1 : Int32), rv6.2) else (f_X8_canDo 66 1 (-1) hC).bind fun v2 => if v2 = true then (f_X8_carryOut 66 1 (-1) hC).bind fun rv3 => some ((0 : Int32), rv3.2) else some ((0 : Int32), hC)) = (f_X8_canDo 66 1 (-1) hC).bind fun v2 => if v2 = true then (f_X8_carryOut 66 1 (-1) hC).bind fun rv3 => some ((0 : Int32), rv3.2) else some ((0 : Int32), hC) := if_neg b
      rw [e, C_can1, Option.bind_some]
      by_cases q : 0 < (hC.1 67 2).toInt ∧ (hC.1 67 1).toInt < (hC.1 4 1).toInt
      · obtain ⟨v, c2, m2, u1, u2, u3, u6, N, u4, u5⟩ := R_read (Or.inl ⟨rfl, rfl⟩) S q.1 q.2
        refine ⟨false, c2, m2, ?_, Kp_step P (SN_mono (by omega) N) u4 u5, aF_SN N, true, congrArg some b', ?_, (fun z => by cases z), (fun _ _ => u2), (fun _ z => by cases z)⟩
        · rw [if_pos (decide_eq_true q), co1 u1]
          rfl
        · rw [M_canRest (t := 66) (w := 11) C s]
          exact decide_eq_true q
      · refine ⟨false, hC, hM, ?_, RelK_mono (by omega) R, aF_rf, false, congrArg some b', ?_, (fun z => by cases z), (fun _ z => by cases z), fun _ _ => rfl⟩
        · rw [if_neg (show ¬ decide (0 < (hC.1 (66 + 1) 2).toInt ∧ (hC.1 (66 + 1) 1).toInt < (hC.1 4 1).toInt) = true by rw [decide_eq_true_iff]; exact q)]
          rfl
        · rw [M_canRest (t := 66) (w := 11) C s]
          exact decide_eq_false q
theorem lp_years : ∀ (m k j : Nat) (K : Int) (x1 y6 y7 : Int32) (y4 : Int64) (hC hM : dH), m < k → y7.toInt = j → x1.toInt = (j + m : Nat) → j + m ≤ 60 → RelK K hC hM → 0 < (hC.1 3 2).toInt → hM.2.1 0 36 = y4 → 0 ≤ K → K + m ≤ 50000 → ∃ (r : Int32) (c d : dH), f_X11_years_L32 k x1 y4 y6 y7 hC = some (r, c) ∧ f_X12_years_L37 k x1 y6 y7 hM = some (r, d) ∧ RelK (K + m) c d := by
  intro m
  induction m with
  | zero =>
    intro k j K x1 y6 y7 y4 hC hM hk hy hx hj R hp hl hK1 hK2
    obtain ⟨k, rfl⟩ : ∃ z, k = z + 1 := ⟨k - 1, by omega⟩
    have a : ¬ y7 < x1 := by rw [i_lt]; omega
    rw [f_X11_years_L32, f_X12_years_L37, if_neg a, if_neg a]
    exact ⟨_, _, _, rfl, rfl, RelK_mono (by omega) R⟩
  | succ m ih =>
    intro k j K x1 y6 y7 y4 hC hM hk hy hx hj R hp hl hK1 hK2
    obtain ⟨k, rfl⟩ : ∃ z, k = z + 1 := ⟨k - 1, by omega⟩
    have a : y7 < x1 := by rw [i_lt]; omega
    obtain ⟨c, d, e1, e2, P, F, c67, m11, ca⟩ := R_keepF R
    have hl2 : d.2.1 0 36 = y4 := by rw [F.2.2 0 (by omega)]; exact hl
    have k10 : 0 < (10 : Int32).toInt := by decide
    have P2 : Kp K c (dPutL d 0 36 (nxt y4)) := ⟨RelK_L P.1 _, P.2⟩
    have hp2 : 0 < (c.1 3 2).toInt := by rw [ca 3 2 (by omega)]; exact hp
    have next : ∀ (y6' : Int32) (s' : Int64) (c' d' : dH), RelK (K + 1) c' d' → 0 < (c'.1 3 2).toInt → d'.2.1 0 36 = s' → ∃ (r : Int32) (c2 d2 : dH), f_X11_years_L32 k x1 s' y6' (y7 + 1) c' = some (r, c2) ∧ f_X12_years_L37 k x1 y6' (y7 + 1) d' = some (r, d2) ∧ RelK (K + ((m + 1 : Nat) : Int)) c2 d2 := fun y6' s' c' d' R' hp' hl' => by
      obtain ⟨r, c2, d2, u1, u2, u3⟩ := ih k (j + 1) (K + 1) x1 y6' (y7 + 1) s' c' d' (by omega) (y_suc hy (by omega)) (by omega) (by omega) R' hp' hl' (by omega) (by omega)
      exact ⟨r, c2, d2, u1, u2, RelK_mono (by omega) u3⟩
    rw [f_X11_years_L32, f_X12_years_L37, if_pos a, if_pos a, e1, e2]
    simp only [Option.bind_some]
    rw [show f_X11_drawnBehind y4 c = nxt y4 from rfl, C_draw k10, M_draw k10, Option.bind_some, Option.bind_some, hl2]
    have g1 : (dPutL d 0 36 (nxt y4)).1 0 31 = c.1 0 16 := P.1.go.1.symm
    show ∃ (r : Int32) (c_1 d_1 : dH), (if drw (nxt y4) 10 < c.1 0 16 then _ else _) = some (r, c_1) ∧ (if drw (nxt y4) 10 < (dPutL d 0 36 (nxt y4)).1 0 31 then _ else _) = some (r, d_1) ∧ _
    rw [g1]
    by_cases b : drw (nxt y4) 10 < c.1 0 16
    · rw [if_pos b, if_pos b]
      obtain ⟨⟨c2, d2, u1, u2, R', F2⟩, _⟩ := R_year P2 ⟨by omega, by omega⟩ hp2
      rw [u1, Option.bind_some]
      unfold f_X11_years_J105 f_X12_years_J149
      obtain ⟨r, c3, d3, v1, v2, v3⟩ := next y6 (nxt y4) c2 d2 R' (by rw [F2.1 3 2 (by omega) (by omega) (by omega) (by omega) (by omega) (by omega)]; exact hp2) (by rw [F2.2.2 0 (by omega)]; exact dPutL_at)
      refine ⟨r, c3, d3, v1, ?_, v3⟩
      by_cases q : (dPutL d 0 36 (nxt y4)).1 11 27 < 999
      · rw [if_pos q] at u2 ⊢
        rw [u2, Option.bind_some]
        exact v2
      · rw [if_neg q] at u2 ⊢
        cases u2
        exact v2
    · have hp3 : 0 < ((dPutL d 0 36 (nxt y4)).1 0 24).toInt := by rw [P2.1.ct.np]; exact hp2
      rw [if_neg b, if_neg b]
      dsimp only
      rw [show f_X11_drawnBehind (nxt y4) c = nxt (nxt y4) from rfl, C_draw hp2, M_draw hp3, Option.bind_some, Option.bind_some, dPutL_at, P2.1.ct.np]
      have P3 : Kp K c (dPutL (dPutL d 0 36 (nxt y4)) 0 36 (nxt (nxt y4))) := ⟨RelK_L P2.1 _, P2.2⟩
      obtain ⟨_, W⟩ := R_year P3 ⟨by omega, by omega⟩ hp2
      obtain ⟨bb, c2, d2, u1, R', F2, b2, u2, u3, u4, u5, u6⟩ := W (drw (nxt (nxt y4)) (c.1 3 2))
      rw [u1, Option.bind_some]
      unfold f_X11_years_J105 f_X12_years_J149
      obtain ⟨r, c3, d3, v1, v2, v3⟩ := next (y6 + bi bb) (nxt (nxt y4)) c2 d2 R' (by rw [F2.1 3 2 (by omega) (by omega) (by omega) (by omega) (by omega) (by omega)]; exact hp2) (by rw [F2.2.2 0 (by omega)]; exact dPutL_at)
      refine ⟨r, c3, d3, v1, ?_, v3⟩
      show (f_X12_canWalk 11 (drw (nxt (nxt y4)) (c.1 3 2)) (dPutL (dPutL d 0 36 (nxt y4)) 0 36 (nxt (nxt y4)))).bind _ = _
      rw [u2, Option.bind_some]
      cases bb with
      | true =>
        obtain ⟨v, u7⟩ := u4 rfl
        rw [if_pos rfl]
        show (f_X12_walks 11 _ ((dPutL (dPutL d 0 36 (nxt y4)) 0 36 (nxt (nxt y4))).1 5 2) (dPutL (dPutL d 0 36 (nxt y4)) 0 36 (nxt (nxt y4)))).bind _ = _
        rw [u7, Option.bind_some]
        exact v2
      | false =>
        have e0 : y6 + bi false = y6 := Int32.add_zero y6
        rw [e0] at v2
        rw [if_neg (by decide)]
        show (if f_X12_canRest 11 (dPutL (dPutL d 0 36 (nxt y4)) 0 36 (nxt (nxt y4))) = true then _ else _) = _
        rw [u3]
        cases b2 with
        | true =>
          rw [if_pos rfl]
          show (f_X12_sitsDown 11 (dPutL (dPutL d 0 36 (nxt y4)) 0 36 (nxt (nxt y4)))).bind _ = _
          rw [u5 rfl rfl, Option.bind_some]
          exact v2
        | false =>
          rw [if_neg (by decide)]
          rw [u6 rfl rfl] at v2
          exact v2
theorem ok_years : st_years Rel := by
  intro n hC hM hn R x s
  have R1 : RelK (60 * n) hC (dPut hM 0 0 0) := R.t0
  unfold aC_years aM_years f_X11_years f_X12_years
  rw [Option.bind_some]
  generalize dPut hM 0 0 0 = h1 at R1 ⊢
  have C := R1.ct
  have k1 : (1 : Int64).toInt = 1 := rfl
  have k60 : (60 : Int64).toInt = 60 := rfl
  have k60' : (60 : Int32).toInt = 60 := rfl
  have fin : dAg (Rel (n + 1)) (some (-1, hC)) (some (-1, h1)) := ag rfl rfl (Rel_mono R1)
  rw [C_isThere, C.np, M_isIn, k1, k60]
  by_cases hp : 0 < (hC.1 3 2).toInt
  · have hp0 : ¬ hC.1 3 2 = 0 := fun z => by rw [z, t0] at hp; omega
    rw [if_pos (decide_eq_true hp), if_neg hp0]
    by_cases a : 1 ≤ x.toInt ∧ x.toInt ≤ 60
    · rw [if_neg (by rw [i_lt, t1]; omega), if_neg (by rw [i_lt, k60']; omega), if_pos (decide_eq_true a), Option.bind_some]
      obtain ⟨r, c, d, e1, e2, R'⟩ := lp_years (dI x) dFu 0 (60 * n) x 0 0 s hC (dPutL h1 0 36 s) (fuel_lt (by have := dI_c (x := x) (by omega); omega)) rfl (by have := dI_c (x := x) (by omega); omega) (by have := dI_c (x := x) (by omega); omega) (RelK_L R1 s) hp dPutL_at (by omega) (by have := dI_c (x := x) (by omega); omega)
      rw [e1, e2]
      exact ag rfl rfl (RelK_mono (by have := dI_c (x := x) (by omega); omega) R')
    · rw [if_neg (show ¬ decide (1 ≤ x.toInt ∧ x.toInt ≤ 60) = true by rw [decide_eq_true_iff]; exact a)]
      by_cases a1 : x < 1
      · rw [if_pos a1]
        exact fin
      · rw [if_neg a1, if_pos (by rw [i_lt, t1] at a1; rw [i_lt, k60']; omega)]
        exact fin
  · have hp0 : hC.1 3 2 = 0 := by rw [i_eq, t0]; have := C.ge; omega
    rw [if_neg (by rw [decide_eq_true_iff]; exact hp), if_pos hp0]
    exact fin
end AE
