/-! PURE: ODDS, MEETS, MANNERS -/
section OD
variable {K : Int} {n w : Nat} {hC hM hC' hM' : dH} {x y : Int32}
theorem asc2 (a w : Int32) : ((a + 1) + w) + 1 = (a + w) + 2 := by
  rw [Int32.add_assoc a 1 w, Int32.add_comm 1 w, ← Int32.add_assoc a w 1, Int32.add_assoc (a + w) 1 1, show (1 : Int32) + 1 = 2 by decide]
theorem cwB_eq {f ho ti : Int32} (hx : Pl hC x) : cwB hC f ho ti x = (if x = f then false else if (hC.1 4 0) < (ti + wF hC f x) then false else if (hC.1 4 1) < ((ho + wF hC f x) + 1) then false else true) := if_pos hx
theorem lp_odds (C : Ct hC hM) {N : Nat} {nn ch : Int32} (hN : nn.toInt = N) (hN7 : N ≤ 7) (e84 : hC.1 84 3 = nn) (ech : hC.1 84 4 = ch) (row : ∀ k, k < N → hC.1 85 k = hM.1 22 k ∧ Pl hC (hM.1 22 k)) : ∀ (m fu k : Nat) (y part f ho ti : Int32), m < fu → y.toInt = k → k + m = N → Pl' hC f → ∃ v, g_X6_partsOf fu part y f ho ti hC = some v ∧ g_X12_oddsFrom fu y nn f ho ti ch part hM = some v := by
  intro m
  have k7 : (7 : Int32).toInt = 7 := rfl
  induction m with
  | zero =>
    intro fu k y part f ho ti hfu hy hk hf
    obtain ⟨fu, rfl⟩ : ∃ z, fu = z + 1 := ⟨fu - 1, by omega⟩
    show ∃ v, f_X6_partsOf (g_X6_partsOf fu) part y f ho ti hC = some v ∧ f_X12_oddsFrom (g_X12_oddsFrom fu) y nn f ho ti ch part hM = some v
    unfold f_X6_partsOf f_X12_oddsFrom
    rw [e84, if_neg (show ¬ y < nn by rw [i_lt]; omega), if_pos (show y = nn by rw [i_eq]; omega)]
    exact ⟨_, rfl, rfl⟩
  | succ m ih =>
    intro fu k y part f ho ti hfu hy hk hf
    obtain ⟨fu, rfl⟩ : ∃ z, fu = z + 1 := ⟨fu - 1, by omega⟩
    show ∃ v, f_X6_partsOf (g_X6_partsOf fu) part y f ho ti hC = some v ∧ f_X12_oddsFrom (g_X12_oddsFrom fu) y nn f ho ti ch part hM = some v
    have dy : dI y = k := dI_of hy
    have hy7 : dIn y 7 := ⟨by omega, by omega⟩
    obtain ⟨r1, hp⟩ := row k (by omega)
    unfold f_X6_partsOf f_X12_oddsFrom f_X6_partsOf_J101 f_X12_oddsFrom_J114
    rw [e84, ech, if_pos (show y < nn by rw [i_lt]; omega), if_pos (show y < 7 by rw [i_lt, k7]; omega), if_neg (show ¬ y = nn by rw [i_eq]; omega), if_pos hy7, if_pos hy7, dy, r1]
    simp only [Option.bind_some]
    generalize hM.1 22 k = p at hp
    rw [C_apart C hf hp.p', M_between C hf hp, C_couldWalk C 66 hf, ← C.2.2.1 0 (by omega), ← C.2.2.1 1 (by omega)]
    simp only [Option.bind_some]
    generalize ew : wF hC f p = ww
    have cw1 : cwB hC f ho ti p = (if p = f then false else if (hC.1 4 0) < (ti + ww) then false else if (hC.1 4 1) < ((ho + ww) + 1) then false else true) := by rw [cwB_eq hp, ew]
    have cw2 : f_X8_couldWalk 66 f (ho + 1) ti p hC = some (if p = f then false else if (hC.1 4 0) < (ti + ww) then false else if (hC.1 4 1) < ((ho + ww) + 2) then false else true) := by rw [C_couldWalk C 66 hf, cwB_eq hp, ew, asc2]
    rw [cw1, cw2]
    have ih1 := fun part ho ti => ih fu (k + 1) (y + 1) part p ho ti (by omega) (y_suc hy (by omega)) (by omega) hp.p'
    obtain ⟨v1, a1, b1⟩ := ih1 (part - (part.toInt64 * ch.toInt64 / 100).toInt32) (ho + ww + 1) (ti + ww)
    obtain ⟨v2, a2, b2⟩ := ih1 ((part.toInt64 * ch.toInt64 / 100).toInt32) (ho + ww + 2) (ti + ww)
    rw [a1, a2, b1, b2]
    simp only [Option.bind_some]
    by_cases h1 : p = f
    · have h1' : f = p := h1.symm
      simp only [if_pos h1, if_pos h1', Bool.false_eq_true, if_false]
      exact ⟨_, rfl, rfl⟩
    · have h1' : ¬ f = p := fun z => h1 z.symm
      simp only [if_neg h1, if_neg h1']
      by_cases h2 : hC.1 4 0 < ti + ww
      · simp only [if_pos h2, Bool.false_eq_true, if_false]
        exact ⟨_, rfl, rfl⟩
      · simp only [if_neg h2]
        by_cases h3 : hC.1 4 1 < ho + ww + 1
        · simp only [if_pos h3, Bool.false_eq_true, if_false]
          by_cases h4 : hC.1 4 1 < ho + ww + 2
          · simp only [if_pos h4, Bool.false_eq_true, if_false]
            exact ⟨_, rfl, rfl⟩
          · simp only [if_neg h4, if_true]
            exact ⟨_, rfl, rfl⟩
        · simp only [if_neg h3, if_true]
          by_cases h4 : hC.1 4 1 < ho + ww + 2
          · simp only [if_pos h4, Bool.false_eq_true, if_false]
            exact ⟨_, rfl, rfl⟩
          · simp only [if_neg h4, if_true]
            exact ⟨_, rfl, rfl⟩
theorem eC_of {c : dH} (e : ∀ a k, a ≠ 84 → a ≠ 85 → c.1 a k = hC.1 a k) : eC hC c := fun a k hk => e a k (fun z => by rw [z] at hk; cases hk) (fun z => by rw [z] at hk; cases hk)
theorem eM_of {d : dH} (e : ∀ a k, a ≠ 22 → d.1 a k = hM.1 a k) (e2 : d.2 = hM.2) : eM hM d := ⟨fun a k hk => e a k (fun z => by rw [z] at hk; cases hk), fun m => mOK_e (fun a k hk => e a k (fun z => by rw [z] at hk; cases hk)) (by rw [e2]) m⟩
theorem ok_odds : st_odds Rel := by
  intro n hC hM hn R x y ch
  have R1 : RelK (60 * n) hC (dPut hM 0 0 0) := R.t0
  unfold aC_odds aM_odds f_X11_odds f_X12_odds
  rw [Option.bind_some]
  generalize dPut hM 0 0 0 = h1 at R1 ⊢
  have C := R1.ct
  have k0 : (0 : Int64).toInt = 0 := rfl
  have k100 : (100 : Int64).toInt = 100 := rfl
  have k100' : (100 : Int32).toInt = 100 := rfl
  obtain ⟨b, c, d, e1, e2, h1', h2, h3, h4⟩ := R_row C x y
  rw [e2, Option.bind_some]
  have Rd : RelK (60 * n) hC d := RelK_e R1 (eC_rf _) (eM_of h2 h3)
  have Rc : RelK (60 * n) c d := RelK_e Rd (eC_of h1') (eM_rf _)
  have no : dAg (Rel (n + 1)) (some (-1, hC)) (some (-1, d)) := ag rfl rfl (Rel_mono Rd)
  have no2 : dAg (Rel (n + 1)) (some (-1, c)) (some (-1, d)) := ag rfl rfl (Rel_mono Rc)
  by_cases a : 0 ≤ ch.toInt ∧ ch.toInt ≤ 100
  · rw [if_neg (show ¬ ch < 0 by rw [i_lt, t0]; omega), if_neg (show ¬ 100 < ch by rw [i_lt, k100']; omega), e1, Option.bind_some]
    dsimp only
    cases b with
    | false => exact no2
    | true =>
      obtain ⟨hp, y1, y7, q1, q2⟩ := h4 rfl
      rw [if_pos rfl, if_pos rfl, M_isIn, k0, k100, if_pos (decide_eq_true a)]
      unfold f_X6_partsThatWalk
      rw [Option.bind_some]
      have dy := dI_c (x := y) (by omega)
      have Rc2 : RelK (60 * n) (dPut c 84 4 ch) d := RelK_e Rc (eC_put rfl) (eM_rf _)
      have e84 : (dPut c 84 4 ch).1 84 3 = y := by rw [dPut_ne (by omega)]; exact q1
      have ech : (dPut c 84 4 ch).1 84 4 = ch := dPut_at
      have e85 : ∀ k, (dPut c 84 4 ch).1 85 k = c.1 85 k := fun k => dPut_ne (by omega)
      have e32 : (dPut c 84 4 ch).1 3 2 = hC.1 3 2 := by rw [dPut_ne (by omega)]; exact h1' 3 2 (by omega) (by omega)
      generalize dPut c 84 4 ch = c2 at Rc2 e84 ech e85 e32
      obtain ⟨v, g1, g2⟩ := lp_odds Rc2.ct (N := dI y) (nn := y) (ch := ch) dy.symm (by omega) e84 ech (fun k hk => ⟨by rw [e85]; exact (q2 k (by omega)).1, Pl_c e32 (q2 k (by omega)).2⟩) (dI y) 9 0 0 1000000000 (c2.1 67 0) (c2.1 67 1) (c2.1 67 2) (by omega) rfl (by omega) Rc2.atA
      have s := Rc2.sr
      have eC1 : r_X6_partsOf 9 1000000000 0 (f_X8_place c2) (f_X8_hour c2) (f_X8_tired c2) c2 = some v := g1
      have eM1 : r_X12_oddsFrom 9 0 y (f_X12_where 11 d) (d.1 11 21) (d.1 11 22) ch 1000000000 d = some v := by
        show g_X12_oddsFrom 9 0 y (d.1 11 23 - 1) (d.1 11 21) (d.1 11 22) ch 1000000000 d = some v
        rw [s.1, ← s.2.1, ← s.2.2.1]
        exact g2
      rw [eC1, eM1]
      exact ag rfl rfl (Rel_mono Rc2)
  · have eC1 : (if ch < 0 then some ((-1 : Int32), hC) else if 100 < ch then some (-1, hC) else (f_X6_read x y hC).bind fun rv1 => if rv1.1 = true then (f_X6_partsThatWalk ch rv1.2).bind fun rv3 => some (rv3.1, rv3.2) else some (-1, rv1.2)) = some (-1, hC) := by
      by_cases a1 : ch < 0
      · rw [if_pos a1]
      · rw [if_neg a1, if_pos]
        rw [i_lt, t0] at a1
        rw [i_lt, k100']
        omega
    rw [eC1]
    dsimp only
    cases b with
    | false => exact no
    | true =>
      rw [if_pos rfl, M_isIn, k0, k100, if_neg (show ¬ decide (0 ≤ ch.toInt ∧ ch.toInt ≤ 100) = true by rw [decide_eq_true_iff]; exact a)]
      exact no
/-! a walk on the reference's trial -/
def WK (hC hM d : dH) (x v : Int32) : Prop := d.1 12 22 = hM.1 12 22 + wF hC (hM.1 12 23 - 1) x ∧ d.1 12 21 = hM.1 12 21 + (wF hC (hM.1 12 23 - 1) x + 1) ∧ d.1 12 23 = x + 1 ∧ d.1 12 24 = (if hM.1 12 (3 * dI x + 2) = 0 then hM.1 12 24 + hC.1 (6 + dI x) 3 else hM.1 12 24) ∧ d.1 12 (3 * dI x) = hM.1 12 (3 * dI x) + v ∧ d.1 12 (3 * dI x + 2) = hM.1 12 (3 * dI x + 2) + 1 ∧ (∀ k, (k < 21 ∨ 26 < k) → k ≠ 3 * dI x → k ≠ 3 * dI x + 2 → d.1 12 k = hM.1 12 k) ∧ gM 12 hM d
theorem M_wk (C : Ct hC hM) (hx : Pl hC x) (hat : Pl' hC (hM.1 12 23 - 1)) {co v : Int32} {h2 : dH} (e : f_X12_trouble 12 x (hC.1 (6 + dI x) 3) co hM = some (v, h2)) (g : fM hM h2) : ∃ d : dH, f_X12_walks 12 x co hM = some (v, d) ∧ WK hC hM d x v := by
  obtain ⟨M2, m0, m22, m21, m23, m24, m25, m26, mt, mv, mk, mo2, mh⟩ := M_walks C hx 12 (Or.inr rfl) hat e g
  exact ⟨M2, m0, m22, m21, m23, m24, mt, mv, mk, gM_tr (g.g 12) (gM_row (Or.inr rfl) mo2 mh)⟩
/-- where the trial is -/
def T1 (hC hM : dH) (b : Int) (f ho ti : Int32) : Prop := Ct hC hM ∧ Q3 hC hM ∧ mOK hM ∧ hM.1 12 23 - 1 = f ∧ hM.1 12 21 = ho ∧ hM.1 12 22 = ti ∧ Pl' hC f ∧ bt 0 60 ho ∧ bt 0 60 ti ∧ ∀ p, p < 7 → bt 0 b (hM.1 12 (3 * p + 2)) ∧ bt 0 30 (hM.1 12 (3 * p + 1))
theorem T1_walk {b : Int} {f ho ti : Int32} (T : T1 hC hM b f ho ti) (hb : b ≤ 150) (cw : cwB hC f ho ti x = true) : ∃ d : dH, f_X12_walks 12 x (hM.1 5 2) hM = some (tV hC hM x (hM.1 12 (3 * dI x + 2)) (hM.1 12 (3 * dI x + 1)) (ho + wF hC f x) (ti + wF hC f x) 0, d) ∧ WK hC hM d x (tV hC hM x (hM.1 12 (3 * dI x + 2)) (hM.1 12 (3 * dI x + 1)) (ho + wF hC f x) (ti + wF hC f x) 0) ∧ T1 hC d (b + 1) x (ho + (wF hC f x + 1)) (ti + wF hC f x) := by
  obtain ⟨C, L3, mo, e23, e21, e22, hf, bho, bti, rows⟩ := T
  obtain ⟨hx, hxf, b1, b2⟩ := cwB_true cw
  have hn := hx.nat C
  have hp := hn.2
  have wf := wF_bt C hf hx.p'
  have wf1 := wf.1
  have wf2 := wf.2
  have r02 := C.2.1.2.1.2
  have r12 := C.2.1.2.2.1.2
  have h1 := bho.1
  have h2 := bho.2
  have h3 := bti.1
  have h4 := bti.2
  obtain ⟨v1, v2⟩ := rows (dI x) hp
  have v11 := v1.1
  have v12 := v1.2
  have v21 := v2.1
  have v22 := v2.2
  have e1 : (ho + wF hC f x).toInt = ho.toInt + (wF hC f x).toInt := i_add (by omega)
  have e2 : (ti + wF hC f x).toInt = ti.toInt + (wF hC f x).toInt := i_add (by omega)
  have ew : (wF hC f x + 1).toInt = (wF hC f x).toInt + 1 := i_add1 (by omega)
  have e3 : (ho + (wF hC f x + 1)).toInt = ho.toInt + (wF hC f x).toInt + 1 := by rw [i_add (by rw [ew]; omega), ew]; omega
  rw [i_lt, e2] at b1
  rw [i_lt, i_add1 (by rw [e1]; omega), e1] at b2
  obtain ⟨d0, t1', g⟩ := M_tr (w := 12) (sm := 0) C L3 mo hx (Or.inr rfl) (by rw [e23]; exact hf) (by rw [e23, e21]; exact ⟨by omega, by omega⟩) (by rw [e23, e22]; exact ⟨by omega, by omega⟩) ⟨by omega, by omega⟩ ⟨by omega, by omega⟩ bs0
  rw [Int32.add_zero, C.2.2.1 2 (by omega), e23, e21, e22] at t1'
  obtain ⟨d, w0, W⟩ := M_wk C hx (by rw [e23]; exact hf) t1' g
  refine ⟨d, w0, W, ?_⟩
  obtain ⟨w22, w21, w23, w24, wt, wv, wk, gg⟩ := W
  refine ⟨gg.ct (Or.inr rfl) C, Q3_g (Or.inr ⟨rfl, rfl⟩) (gC_rf 68 hC) gg L3, gg.2.2.2 mo, by rw [w23, Int32.add_sub_cancel], by rw [w21, e23, e21], by rw [w22, e23, e22], hx.p', ⟨by omega, by omega⟩, ⟨by omega, by omega⟩, fun p hp7 => ?_⟩
  obtain ⟨z1, z2⟩ := rows p hp7
  have z11 := z1.1
  have z12 := z1.2
  rw [wk (3 * p + 1) (by omega) (by omega) (by omega)]
  refine ⟨?_, z2⟩
  by_cases q : p = dI x
  · rw [q, wv]
    have e5 : (hM.1 12 (3 * dI x + 2) + 1).toInt = (hM.1 12 (3 * dI x + 2)).toInt + 1 := i_add1 (by omega)
    exact ⟨by omega, by omega⟩
  · rw [wk (3 * p + 2) (by omega) (by omega) (by omega)]
    exact ⟨by omega, by omega⟩
theorem T1_0 (R : RelK K hC hM) : T1 hC (dPut (dCpy hM 11 12 0 0 28) 12 28 0) 60 (hC.1 67 0) (hC.1 67 1) (hC.1 67 2) := by
  obtain ⟨s0, s1, s2, s3, s4, s5, s6, s7⟩ := R.sr
  obtain ⟨w0, w1, w2, w3, w4, w6, w7⟩ := R.sw
  have gm := gM_copy hM
  have r02 := R.ct.2.1.2.1.2
  have r12 := R.ct.2.1.2.2.1.2
  have mk := fun k hk => copy12 hM (k := k) hk
  generalize dPut (dCpy hM 11 12 0 0 28) 12 28 0 = d at gm mk
  refine ⟨gm.ct (Or.inr rfl) R.ct, Q3_g (Or.inr ⟨rfl, rfl⟩) (gC_rf 68 hC) gm R.2.2.1, gm.2.2.2 R.2.2.2.1, by rw [mk 23 (by omega)]; exact s0, by rw [mk 21 (by omega)]; exact s1.symm, by rw [mk 22 (by omega)]; exact s2.symm, R.atA, ⟨by omega, by omega⟩, ⟨by omega, by omega⟩, fun p hp => ?_⟩
  obtain ⟨q1, q2, q3⟩ := s7 p hp
  obtain ⟨p1, p2, p3, p4⟩ := w7 p hp
  rw [mk (3 * p + 2) (by omega), mk (3 * p + 1) (by omega), ← q1, ← q3]
  exact ⟨⟨by omega, by omega⟩, p3⟩
/-- the second one's round: bounds -/
theorem rb1 (C : Ct hC hM) (x : Int32) {kC : Int32 → Int32 → Int32 → Int32 → Option Int32} {y4 : Int32} {b : Int} (hb : b ≤ 1000) : ∀ (m n j : Nat) (y2 y3 y5 : Int32), (∀ y2 y3, Pl' hC y3 → bt 0 (b + 20 * 7) y2 → ∀ v, kC x y2 y3 (y4 + 1) = some v → bt (-1) 5000 v) → y5.toInt = j → j + m = dI (hC.1 3 2) → Pl' hC y3 → bt 0 (b + 20 * (7 - m)) y2 → ∀ v, f_X1_roundComes_L16 kC hC n x y2 y3 y4 y5 = some v → bt (-1) 5000 v := by
  intro m
  have k2 : (2 : Int32).toInt = 2 := rfl
  induction m with
  | zero =>
    intro n j y2 y3 y5 hk hy hj h3 h2 v hv
    cases n with
    | zero => cases hv
    | succ n =>
      rw [f_X1_roundComes_L16, if_neg (ge_j C hy hj)] at hv
      exact hk y2 y3 h3 ⟨h2.1, by have := h2.2; omega⟩ v hv
  | succ m ih =>
    intro n j y2 y3 y5 hk hy hj h3 h2 v hv
    cases n with
    | zero => cases hv
    | succ n =>
      have hp := pl_j C hy hj
      have nx := C.nat
      have h21 := h2.1
      have h22 := h2.2
      rw [f_X1_roundComes_L16, if_pos (lt_j C hy hj), C_toldOf C hp in2, Option.bind_some] at hv
      unfold f_X1_roundComes_J61 at hv
      by_cases q : hC.1 (6 + dI y5) (dI 2) = y4
      · have wf := wF_bt C h3 hp.p'
        have wf1 := wf.1
        have wf2 := wf.2
        have e1 : (y2 + wF hC y3 y5).toInt = y2.toInt + (wF hC y3 y5).toInt := i_add (by omega)
        rw [if_pos q, C_apart C h3 hp.p', Option.bind_some] at hv
        by_cases q2 : y5 = x
        · rw [if_pos q2] at hv
          cases hv
          exact ⟨by omega, by omega⟩
        · rw [if_neg q2] at hv
          have e2 : (y2 + wF hC y3 y5 + 2).toInt = y2.toInt + (wF hC y3 y5).toInt + 2 := by rw [i_add (by rw [e1, k2]; omega), e1, k2]
          exact ih n (j + 1) _ y5 (y5 + 1) hk (y_suc hy (by omega)) (by omega) hp.p' ⟨by omega, by omega⟩ v hv
      · rw [if_neg q] at hv
        exact ih n (j + 1) _ y3 (y5 + 1) hk (y_suc hy (by omega)) (by omega) h3 ⟨by omega, by omega⟩ v hv
theorem rb2 (C : Ct hC hM) (x : Int32) : ∀ (m n j : Nat) (y2 y3 y4 : Int32), y4.toInt = j → j + m = 4 → Pl' hC y3 → bt 0 (140 * (4 - m)) y2 → ∀ v, f_X1_roundComes_L7 hC n x y2 y3 y4 = some v → bt (-1) 5000 v := by
  intro m
  have k4 : (4 : Int32).toInt = 4 := rfl
  induction m with
  | zero =>
    intro n j y2 y3 y4 hy hj h3 h2 v hv
    cases n with
    | zero => cases hv
    | succ n =>
      rw [f_X1_roundComes_L7, if_neg (by rw [i_lt, k4]; omega)] at hv
      cases hv
      exact ⟨by decide, by decide⟩
  | succ m ih =>
    intro n j y2 y3 y4 hy hj h3 h2 v hv
    cases n with
    | zero => cases hv
    | succ n =>
      have nx := C.nat
      have h21 := h2.1
      have h22 := h2.2
      rw [f_X1_roundComes_L7, if_pos (by rw [i_lt, k4]; omega)] at hv
      exact rb1 C x (b := 140 * (4 - (m + 1))) (by omega) (dI (hC.1 3 2)) dFu 0 y2 y3 0 (fun y2 y3 h3 h2 v hv => ih n (j + 1) y2 y3 (y4 + 1) (y_suc hy (by omega)) (by omega) h3 ⟨h2.1, by have := h2.2; omega⟩ v hv) rfl (by omega) h3 ⟨h21, by omega⟩ v hv
theorem round_bt (C : Ct hC hM) (hp : 0 < (hC.1 3 2).toInt) {v : Int32} (hv : f_X1_roundComes x hC = some v) : bt (-1) 5000 v := rb2 C x 4 dFu 0 0 (-1) 0 rfl rfl ⟨by rw [tm1]; omega, by rw [tm1]; omega⟩ ⟨by decide, by decide⟩ v hv
theorem lp_meets (hp0 : 0 < (hC.1 3 2).toInt) {N : Nat} {nn : Int32} (hN : nn.toInt = N) (hN7 : N ≤ 7) (e84 : hC.1 84 3 = nn) : ∀ (m n n2 k : Nat) (y f ho ti : Int32) (d : dH) (b : Int), m < n → m < n2 → y.toInt = k → k + m = N → T1 hC d b f ho ti → b + m ≤ 100 → (∀ k, k < N → hC.1 85 k = d.1 22 k ∧ Pl hC (d.1 22 k)) → ∃ (v : Int32) (d' : dH), f_X6_meetingPlace_L27 hC n f ho ti y = some v ∧ f_X12_meets_L29 n2 nn y d = some (v, d') ∧ gM 12 d d' := by
  intro m
  have k2 : (2 : Int32).toInt = 2 := rfl
  induction m with
  | zero =>
    intro n n2 k y f ho ti d b hn hn2 hy hk T hb row
    obtain ⟨n, rfl⟩ : ∃ z, n = z + 1 := ⟨n - 1, by omega⟩
    obtain ⟨n2, rfl⟩ : ∃ z, n2 = z + 1 := ⟨n2 - 1, by omega⟩
    have a : ¬ y < nn := by rw [i_lt]; omega
    rw [f_X6_meetingPlace_L27, f_X12_meets_L29, e84, if_neg a, if_neg a]
    exact ⟨_, _, rfl, rfl, gM_rf _ _⟩
  | succ m ih =>
    intro n n2 k y f ho ti d b hn hn2 hy hk T hb row
    obtain ⟨n, rfl⟩ : ∃ z, n = z + 1 := ⟨n - 1, by omega⟩
    obtain ⟨n2, rfl⟩ : ∃ z, n2 = z + 1 := ⟨n2 - 1, by omega⟩
    have a : y < nn := by rw [i_lt]; omega
    have dy : dI y = k := dI_of hy
    have hy7 : dIn y 7 := ⟨by omega, by omega⟩
    obtain ⟨r1, hx⟩ := row k (by omega)
    obtain ⟨C, L3, mo, e23, e21, e22, hf, bho, bti, rows⟩ := id T
    have hcw : f_X12_canWalk 12 (d.1 22 k) d = some (cwB hC f ho ti (d.1 22 k)) := by rw [M_canWalk C 12 (by rw [e23]; exact hf), e23, e21, e22]
    have hfar : f_X12_far 12 (d.1 22 k) d = some (wF hC f (d.1 22 k)) := by
      unfold f_X12_far f_X12_where
      rw [e23, M_between C hf hx]
      rfl
    unfold f_X6_meetingPlace_L27 f_X12_meets_L29
    unfold f_X12_meets_J112
    simp only [e84, if_pos a, if_pos hy7, dy, r1, Option.bind_some, C_couldWalk C 66 hf, hcw, hfar, e21]
    by_cases cw : cwB hC f ho ti (d.1 22 k) = true
    · rw [if_pos cw, if_pos cw]
      obtain ⟨vr, q1, q2, _⟩ := R_round C hp0 (d.1 22 k)
      have vb := round_bt C hp0 q1
      have vb1 := vb.1
      have vb2 := vb.2
      have wf := wF_bt C hf hx.p'
      have wf1 := wf.1
      have wf2 := wf.2
      have h1 := bho.1
      have h2 := bho.2
      rw [C_apart C hf hx.p', q1, q2]
      simp only [Option.bind_some]
      have e1 : (ho + wF hC f (d.1 22 k)).toInt = ho.toInt + (wF hC f (d.1 22 k)).toInt := i_add (by omega)
      have e2 : (ho + wF hC f (d.1 22 k) - vr).toInt = ho.toInt + (wF hC f (d.1 22 k)).toInt - vr.toInt := by rw [i_sub (by rw [e1]; omega), e1]
      have e3 : (vr + 2).toInt = vr.toInt + 2 := by rw [i_add (by rw [k2]; omega), k2]
      have e4 : (ho + wF hC f (d.1 22 k) + 1).toInt = ho.toInt + (wF hC f (d.1 22 k)).toInt + 1 := by rw [i_add1 (by rw [e1]; omega), e1]
      obtain ⟨d1, w1, W, T'⟩ := T1_walk T (by omega) cw
      have stop : ∃ (v : Int32) (d' : dH), some (d.1 22 k) = some v ∧ some (d.1 22 k, d) = some (v, d') ∧ gM 12 d d' := ⟨_, _, rfl, rfl, gM_rf _ _⟩
      have gg := W.2.2.2.2.2.2.2
      have go := ih n n2 (k + 1) (y + 1) (d.1 22 k) (ho + (wF hC f (d.1 22 k) + 1)) (ti + wF hC f (d.1 22 k)) d1 (b + 1) (by omega) (by omega) (y_suc hy (by omega)) (by omega) T' (by omega) (fun j hj => by rw [gg.1 22 j (by omega) (by omega) (by omega) (by omega)]; exact row j hj)
      obtain ⟨v, d', u1, u2, u3⟩ := go
      have cont : ∃ (v : Int32) (d' : dH), f_X6_meetingPlace_L27 hC n (d.1 22 k) (ho + (wF hC f (d.1 22 k) + 1)) (ti + wF hC f (d.1 22 k)) (y + 1) = some v ∧ ((f_X12_walks 12 (d.1 22 k) (d.1 5 2) d).bind fun rv20 => f_X12_meets_L29 n2 nn (y + 1) rv20.2) = some (v, d') ∧ gM 12 d d' := ⟨v, d', u1, by rw [w1]; exact u2, gM_tr gg u3⟩
      by_cases z1 : ho + wF hC f (d.1 22 k) < vr + 2
      · rw [if_pos z1]
        rw [i_lt, e1, e3] at z1
        by_cases z2 : vr < ho + wF hC f (d.1 22 k) + 1
        · rw [if_pos z2]
          rw [i_lt, e4] at z2
          by_cases z3 : ho + wF hC f (d.1 22 k) - vr = 0
          · rw [if_pos z3]
            exact stop
          · rw [if_neg z3, if_pos (by rw [i_eq, e2, t0] at z3; rw [i_eq, e2, t1]; omega)]
            exact stop
        · rw [if_neg z2]
          rw [i_lt, e4] at z2
          rw [if_neg (show ¬ ho + wF hC f (d.1 22 k) - vr = 0 by rw [i_eq, e2, t0]; omega), if_neg (show ¬ ho + wF hC f (d.1 22 k) - vr = 1 by rw [i_eq, e2, t1]; omega)]
          exact cont
      · rw [if_neg z1]
        rw [i_lt, e1, e3] at z1
        rw [if_neg (show ¬ ho + wF hC f (d.1 22 k) - vr = 0 by rw [i_eq, e2, t0]; omega), if_neg (show ¬ ho + wF hC f (d.1 22 k) - vr = 1 by rw [i_eq, e2, t1]; omega)]
        exact cont
    · rw [if_neg cw, if_neg cw]
      exact ⟨_, _, rfl, rfl, gM_rf _ _⟩
theorem ok_meets : st_meets Rel := by
  intro n hC hM hn R x y
  have R1 : RelK (60 * n) hC (dPut hM 0 0 0) := R.t0
  unfold aC_meets aM_meets f_X11_meets f_X12_meets
  rw [Option.bind_some]
  generalize dPut hM 0 0 0 = h1 at R1 ⊢
  have C := R1.ct
  obtain ⟨b, c, d, e1, e2, h1', h2, h3, h4⟩ := R_row C x y
  rw [e1, e2, Option.bind_some, Option.bind_some]
  have Rd : RelK (60 * n) hC d := RelK_e R1 (eC_rf _) (eM_of h2 h3)
  have Rc : RelK (60 * n) c d := RelK_e Rd (eC_of h1') (eM_rf _)
  cases b with
  | false => exact ag rfl rfl (Rel_mono Rc)
  | true =>
    obtain ⟨hp, y1, y7, q1, q2⟩ := h4 rfl
    have e32 : c.1 3 2 = hC.1 3 2 := h1' 3 2 (by omega) (by omega)
    have dy := dI_c (x := y) (by omega)
    have gm := gM_copy d
    have T := T1_0 Rc
    rw [if_pos rfl, if_pos rfl, M_copy, Option.bind_some]
    generalize dPut (dCpy d 11 12 0 0 28) 12 28 0 = d2 at gm T
    obtain ⟨v, d3, g1, g2, g3⟩ := lp_meets (hC := c) (by rw [e32]; exact hp) (N := dI y) (nn := y) dy.symm (by omega) q1 (dI y) dFu dFu 0 0 (c.1 67 0) (c.1 67 1) (c.1 67 2) d2 60 (fuel_lt (by omega)) (fuel_lt (by omega)) rfl (by omega) T (by omega) (fun k hk => by rw [gm.1 22 k (by omega) (by omega) (by omega) (by omega)]; exact ⟨(q2 k (by omega)).1, Pl_c e32 (q2 k (by omega)).2⟩)
    have eC1 : f_X6_meetingPlace c = some v := by
      unfold f_X6_meetingPlace
      rw [Option.bind_some, Option.bind_some, Option.bind_some, show f_X8_place c = c.1 67 0 from rfl, show f_X8_hour c = c.1 67 1 from rfl, show f_X8_tired c = c.1 67 2 from rfl]
      exact g1
    rw [eC1, g2]
    exact ag rfl rfl (Rel_mono (RelK_e Rc (eC_rf _) (eM_tr (gM.e12 gm) (gM.e12 g3))))
end OD
