/-! PURE: the calls that are ACTS -/
section AD
variable {K K' : Int} {n t w : Nat} {hC hM hC' hM' : dH} {x y : Int32}
/-- what an ACT leaves alone -/
def aF (hC hM hC' hM' : dH) : Prop := (∀ a k, a ≠ 67 → a ≠ 70 → a ≠ 71 → a ≠ 43 → a ≠ 51 → a ≠ 73 → hC'.1 a k = hC.1 a k) ∧ (∀ a k, a ≠ 11 → a ≠ 15 → a ≠ 0 → a ≠ 4 → a ≠ 14 → hM'.1 a k = hM.1 a k) ∧ (∀ a, a ≠ 13 → hM'.2.1 a = hM.2.1 a)
theorem aF_rf : aF hC hM hC hM := ⟨fun _ _ _ _ _ _ _ _ => rfl, fun _ _ _ _ _ _ _ => rfl, fun _ _ => rfl⟩
theorem aF_tr {c m c' m' : dH} (a : aF hC hM c m) (b : aF c m c' m') : aF hC hM c' m' := ⟨fun x k h1 h2 h3 h4 h5 h6 => (b.1 x k h1 h2 h3 h4 h5 h6).trans (a.1 x k h1 h2 h3 h4 h5 h6), fun x k h1 h2 h3 h4 h5 => (b.2.1 x k h1 h2 h3 h4 h5).trans (a.2.1 x k h1 h2 h3 h4 h5), fun x h1 => (b.2.2 x h1).trans (a.2.2 x h1)⟩
theorem aF_SN (N : SN K 66 11 hC hM hC' hM') : aF hC hM hC' hM' := ⟨fun a k h1 _ _ h4 h5 _ => N.1.1 a k h1 h4 h5, fun a k h1 _ h3 h4 h5 => N.2.1.1 a k h1 h3 h4 h5, N.2.1.2.2.1⟩
theorem R_keepF (R : RelK K hC hM) : ∃ c m : dH, f_X0_keep hC = some c ∧ f_X12_remember hM = some m ∧ Kp K c m ∧ aF hC hM c m ∧ c.1 67 = hC.1 67 ∧ m.1 11 = hM.1 11 ∧ (∀ a k, a ≤ 66 → c.1 a k = hC.1 a k) := by
  obtain ⟨c, m, e1, e2, P, f1, f2, f3⟩ := R_keep R
  exact ⟨c, m, e1, e2, P, ⟨fun a k _ h2 h3 _ _ _ => f1 a k h2 h3, fun a k _ h2 h3 _ _ => f2 a k h2 (fun z => h3 z.1), fun a _ => by rw [f3]⟩, funext fun k => f1 67 k (by omega) (by omega), funext fun k => f2 11 k (by omega) (by omega), fun a k ha => f1 a k (by omega) (by omega)⟩
theorem co0 {v : Int32} (e : f_X8_comeTo t x hC = some (v, hC')) : f_X8_carryOut t 0 x hC = some (v, hC') := by
  unfold f_X8_carryOut
  rw [if_pos rfl, e]
  rfl
theorem co1 {v : Int32} (e : f_X8_readOnLedge t hC = some (v, hC')) : f_X8_carryOut t 1 x hC = some (v, hC') := by
  unfold f_X8_carryOut
  rw [if_neg (by decide), if_pos rfl, e]
  rfl
theorem co2 {v : Int32} (e : f_X8_putBack t x hC = some (v, hC')) : f_X8_carryOut t 2 x hC = some (v, hC') := by
  unfold f_X8_carryOut
  rw [if_neg (by decide), if_neg (by decide), if_pos rfl, e]
  rfl
theorem co3 {v : Int32} (e : f_X8_endDay t hC = some (v, hC')) : f_X8_carryOut t 3 x hC = some (v, hC') := by
  unfold f_X8_carryOut
  rw [if_neg (by decide), if_neg (by decide), if_neg (by decide), e]
  rfl
theorem da_no {q : Int32} (e : f_X8_canDo 66 q x hC = some false) : f_X11_doAsAct q x hC = some (-1, hC) := by
  unfold f_X11_doAsAct
  rw [e, Option.bind_some, if_neg (by decide)]
theorem da_yes {q v : Int32} {c : dH} (hq : q ≠ 3) (e : f_X8_canDo 66 q x hC = some true) (e2 : f_X0_keep hC = some c) (e3 : f_X8_carryOut 66 q x c = some (v, hC')) : f_X11_doAsAct q x hC = some (v, hC') := by
  unfold f_X11_doAsAct f_X11_doAsAct_J41
  rw [e, Option.bind_some, if_pos rfl, e2, Option.bind_some, if_neg hq, e3]
  rfl
theorem da_day {v : Int32} {c hW : dH} (e : f_X8_canDo 66 3 x hC = some true) (e2 : f_X0_keep hC = some c) (e4 : f_X4_write c = some hW) (e3 : f_X8_carryOut 66 3 x hW = some (v, hC')) : f_X11_doAsAct 3 x hC = some (v, hC') := by
  unfold f_X11_doAsAct f_X11_doAsAct_J41
  rw [e, Option.bind_some, if_pos rfl, e2, Option.bind_some, if_pos rfl, e4, Option.bind_some, e3]
  rfl
theorem R_do0 (R : RelK K hC hM) (hK : 0 ≤ K ∧ K ≤ 50000) (b : cwB hC (hC.1 67 0) (hC.1 67 1) (hC.1 67 2) x = true) : ∃ (v : Int32) (c m m2 : dH), f_X11_doAsAct 0 x hC = some (v, c) ∧ f_X12_remember hM = some m ∧ f_X12_walks 11 x (m.1 5 2) m = some (v, m2) ∧ 0 ≤ v.toInt ∧ RelK (K + 1) c m2 ∧ aF hC hM c m2 := by
  obtain ⟨c, m, e1, e2, P, F, c67, m11, ca⟩ := R_keepF R
  have S := P.1.st
  have b' : cwB c (c.1 67 0) (c.1 67 1) (c.1 67 2) x = true := by rw [c67, cwB_c R.ct R.atA (fun a k ha => ca a k (by omega))]; exact b
  obtain ⟨v, c2, m2, u1, u2, u3, N, u4, u5⟩ := R_walk (Or.inl ⟨rfl, rfl⟩) S hK b'
  exact ⟨v, c2, m, m2, da_yes (by decide) (by rw [C_can0 R.ct R.atA]; exact congrArg some b) e1 (co0 u1), e2, u2, u3.1, Kp_step P N u4 u5, aF_tr F (aF_SN N)⟩
theorem R_do1 (R : RelK K hC hM) (b1 : 0 < (hC.1 67 2).toInt) (b2 : (hC.1 67 1).toInt < (hC.1 4 1).toInt) : ∃ (v : Int32) (c m m2 : dH), f_X11_doAsAct 1 x hC = some (v, c) ∧ f_X12_remember hM = some m ∧ f_X12_sitsDown 11 m = some m2 ∧ v = m2.1 11 22 ∧ 0 ≤ v.toInt ∧ RelK (K + 1) c m2 ∧ aF hC hM c m2 := by
  obtain ⟨c, m, e1, e2, P, F, c67, m11, ca⟩ := R_keepF R
  obtain ⟨v, c2, m2, u1, u2, u3, u6, N, u4, u5⟩ := R_read (Or.inl ⟨rfl, rfl⟩) P.1.st (by show 0 < (c.1 67 2).toInt; rw [c67]; exact b1) (by show (c.1 67 1).toInt < _; rw [c67, ca 4 1 (by omega)]; exact b2)
  exact ⟨v, c2, m, m2, da_yes (by decide) (by rw [C_can1]; exact congrArg some (decide_eq_true ⟨b1, b2⟩)) e1 (co1 u1), e2, u2, u3, u6, Kp_step P (SN_mono (by omega) N) u4 u5, aF_tr F (aF_SN N)⟩
theorem R_do2 (R : RelK K hC hM) (b : rsB hC (hC.1 67 5) x = true) : ∃ (v : Int32) (c m m2 : dH), f_X11_doAsAct 2 x hC = some (v, c) ∧ f_X12_remember hM = some m ∧ f_X12_restores 11 x m = some m2 ∧ v = m2.1 11 (3 * dI x) ∧ 0 ≤ v.toInt ∧ RelK (K + 1) c m2 ∧ aF hC hM c m2 := by
  obtain ⟨c, m, e1, e2, P, F, c67, m11, ca⟩ := R_keepF R
  have hx : Pl c x := by
    have := rsB_pl b
    show 0 ≤ x.toInt ∧ x.toInt < (c.1 3 2).toInt
    rw [ca 3 2 (by omega)]
    exact this
  obtain ⟨v, c2, m2, u1, u2, u3, u6, N, u4, u5⟩ := R_putBack (Or.inl ⟨rfl, rfl⟩) P.1.st hx
  exact ⟨v, c2, m, m2, da_yes (by decide) (by rw [C_can2]; exact congrArg some b) e1 (co2 u1), e2, u2, u3, u6, Kp_step P (SN_mono (by omega) N) u4 u5, aF_tr F (aF_SN N)⟩
theorem Kp_dayF (P : Kp K hC hM) (b : (hC.1 67 6).toInt < 999) : ∃ (v : Int32) (hW c m : dH), f_X4_write hC = some hW ∧ f_X8_endDay 66 hW = some (v, c) ∧ f_X12_goDay 11 hM = some m ∧ v = m.1 11 27 ∧ 0 ≤ v.toInt ∧ RelK (K + 1) c m ∧ aF hC hM c m := by
  obtain ⟨v, hW, c, m, e1, e2, e3, e4, e5, R', g⟩ := Kp_day P b
  refine ⟨v, hW, c, m, e1, e2, e3, e4, e5, R', ?_, fun a k h1 _ h3 h4 h5 => g.1 a k h1 h3 h4 h5, g.2.2.1⟩
  have d0 := P.1.sw.2.2.2.2.2.1.1
  obtain ⟨hW2, eW, wa, w2, w73⟩ := C_write P.1.ct (d := dI (hC.1 67 6)) (dI_c d0).symm (by have := dI_c d0; omega)
  rw [e1] at eW
  cases eW
  obtain ⟨c1, f1, g1, _⟩ := C_endDay (Or.inl rfl) (t := 66) hW
  rw [e2] at f1
  cases f1
  exact fun a k h1 _ _ h4 h5 h6 => (g1.1 a k h1 h4 h5).trans (wa a k h6)
theorem R_do3 (R : RelK K hC hM) (b0 : 0 < (hC.1 3 2).toInt) (b : (hC.1 67 6).toInt < 999) : ∃ (v : Int32) (c m m2 : dH), f_X11_doAsAct 3 x hC = some (v, c) ∧ f_X12_remember hM = some m ∧ f_X12_goDay 11 m = some m2 ∧ v = m2.1 11 27 ∧ 0 ≤ v.toInt ∧ RelK (K + 1) c m2 ∧ aF hC hM c m2 := by
  obtain ⟨c, m, e1, e2, P, F, c67, m11, ca⟩ := R_keepF R
  obtain ⟨v, hW, c2, m2, u1, u2, u3, u4, u5, R', F2⟩ := Kp_dayF P (by rw [c67]; exact b)
  exact ⟨v, c2, m, m2, da_day (by rw [C_can3]; exact congrArg some (decide_eq_true ⟨b0, b⟩)) e1 u1 (co3 u2), e2, u3, u4, u5, R', aF_tr F F2⟩
theorem Rel_n1 {hn : n < 512} (R : RelK (60 * n + 1) hC hM) : Rel (n + 1) hC hM := RelK_mono (by omega) R
theorem ok_walk : st_walk Rel := by
  intro n hC hM hn R x
  have R1 : RelK (60 * n) hC (dPut hM 0 0 0) := R.t0
  unfold aC_walk aM_walk f_X11_walk f_X12_walk
  rw [Option.bind_some]
  generalize dPut hM 0 0 0 = h1 at R1 ⊢
  have C := R1.ct
  have s := R1.sr
  rw [M_canWalk C 11 (by rw [s.1]; exact R1.atA), s.1, ← s.2.1, ← s.2.2.1, Option.bind_some]
  by_cases b : cwB hC (hC.1 67 0) (hC.1 67 1) (hC.1 67 2) x = true
  · obtain ⟨v, c, m, m2, e1, e2, e3, v0, R', F⟩ := R_do0 R1 (by omega) b
    rw [if_pos b, e1, e2, Option.bind_some, Option.bind_some, e3]
    exact ag rfl rfl (Rel_n1 (hn := hn) R')
  · have e : f_X11_doAsAct 0 x hC = some (-1, hC) := da_no (by rw [C_can0 C R1.atA]; exact congrArg some (Bool.eq_false_iff.mpr b))
    rw [if_neg b, e]
    exact ag rfl rfl (Rel_mono R1)
theorem ok_ledge : st_ledge Rel := by
  intro n hC hM hn R
  have R1 : RelK (60 * n) hC (dPut hM 0 0 0) := R.t0
  unfold aC_ledge aM_ledge f_X11_ledge f_X12_ledge
  rw [Option.bind_some]
  generalize dPut hM 0 0 0 = h1 at R1 ⊢
  have C := R1.ct
  have s := R1.sr
  rw [M_canRest (t := 66) (w := 11) C s, C.np]
  by_cases b : 0 < (hC.1 67 2).toInt ∧ (hC.1 67 1).toInt < (hC.1 4 1).toInt
  · have hp0 : ¬ hC.1 3 2 = 0 := fun z => by
      have h2 := R1.sw.2.2.1.2
      rcases C.2.1.1 with q | q
      · omega
      · have := q.1
        rw [z, t0] at this
        omega
    obtain ⟨v, c, m, m2, e1, e2, e3, ev, v0, R', F⟩ := R_do1 (x := -1) R1 b.1 b.2
    rw [if_neg hp0, if_pos (decide_eq_true b), e1, e2, Option.bind_some, Option.bind_some, e3]
    exact ag (r := v) rfl (by rw [ev]; rfl) (Rel_n1 (hn := hn) R')
  · have e : f_X11_doAsAct 1 (-1) hC = some (-1, hC) := da_no (by rw [C_can1]; exact congrArg some (decide_eq_false b))
    rw [e, if_neg (show ¬ decide (0 < (hC.1 (66 + 1) 2).toInt ∧ (hC.1 (66 + 1) 1).toInt < (hC.1 4 1).toInt) = true by rw [decide_eq_true_iff]; exact b)]
    have : (if hC.1 3 2 = 0 then some ((-1 : Int32), h1) else some (-1, h1)) = some (-1, h1) := by split <;> rfl
    rw [this]
    exact ag rfl rfl (Rel_mono R1)
theorem ok_restore : st_restore Rel := by
  intro n hC hM hn R x
  have R1 : RelK (60 * n) hC (dPut hM 0 0 0) := R.t0
  unfold aC_restore aM_restore f_X11_restore f_X12_restore
  rw [Option.bind_some]
  generalize dPut hM 0 0 0 = h1 at R1 ⊢
  have C := R1.ct
  have s := R1.sr
  rw [M_canRestore (t := 66) (w := 11) C s]
  by_cases b : rsB hC (hC.1 67 5) x = true
  · obtain ⟨v, c, m, m2, e1, e2, e3, ev, v0, R', F⟩ := R_do2 R1 b
    have hi := (rsB_pl b).in7 C
    rw [if_pos b, e1, e2, Option.bind_some, Option.bind_some, e3, Option.bind_some, if_pos (ix0 hi).2, (ix0 hi).1]
    exact ag (r := v) rfl (by rw [ev]) (Rel_n1 (hn := hn) R')
  · have e : f_X11_doAsAct 2 x hC = some (-1, hC) := da_no (by rw [C_can2]; exact congrArg some (Bool.eq_false_iff.mpr b))
    rw [if_neg b, e]
    exact ag rfl rfl (Rel_mono R1)
theorem ok_day : st_day Rel := by
  intro n hC hM hn R
  have R1 : RelK (60 * n) hC (dPut hM 0 0 0) := R.t0
  unfold aC_day aM_day f_X11_day f_X12_day
  rw [Option.bind_some]
  generalize dPut hM 0 0 0 = h1 at R1 ⊢
  have C := R1.ct
  have s := R1.sr
  have k999 : (999 : Int32).toInt = 999 := rfl
  have d2 := R1.sw.2.2.2.2.2.1.2
  rw [C.np, ← s.2.2.2.2.2.2.1]
  by_cases hp : 0 < (hC.1 3 2).toInt
  · have hp0 : ¬ hC.1 3 2 = 0 := fun z => by rw [z, t0] at hp; omega
    rw [if_neg hp0]
    by_cases b : (hC.1 67 6).toInt < 999
    · have b9 : ¬ hC.1 67 6 = 999 := fun z => by rw [z, k999] at b; omega
      obtain ⟨v, c, m, m2, e1, e2, e3, ev, v0, R', F⟩ := R_do3 (x := -1) R1 hp b
      rw [if_neg b9, e1, e2, Option.bind_some, Option.bind_some, e3]
      exact ag (r := v) rfl (by rw [ev]; rfl) (Rel_n1 (hn := hn) R')
    · have b9 : hC.1 67 6 = 999 := by rw [i_eq, k999]; omega
      have e : f_X11_doAsAct 3 (-1) hC = some (-1, hC) := da_no (by rw [C_can3]; exact congrArg some (decide_eq_false (fun z => b z.2)))
      rw [if_pos b9, e]
      exact ag rfl rfl (Rel_mono R1)
  · have hp0 : hC.1 3 2 = 0 := by rw [i_eq, t0]; have := C.ge; omega
    have e : f_X11_doAsAct 3 (-1) hC = some (-1, hC) := da_no (by rw [C_can3]; exact congrArg some (decide_eq_false (fun z => hp z.1)))
    rw [if_pos hp0, e]
    exact ag rfl rfl (Rel_mono R1)
/-- patience is set -/
theorem R_pat (P : Kp K hC hM) (hx : Pl hC x) (hy : bt 0 30 y) : RelK (K + 1) (dPut hC 67 (21 + dI x) y) (dPut hM 11 (3 * dI x + 1) y) := by
  have S := P.1.st
  obtain ⟨C, L3, mo, s, sw, hat, lg⟩ := S
  obtain ⟨s0, s1, s2, s3, s4, s5, s6, s7⟩ := s
  obtain ⟨w0, w1, w2, w3, w4, w6, w7⟩ := sw
  have hn := hx.nat C
  have hp := hn.2
  have ck : ∀ k, k ≠ 21 + dI x → (dPut hC 67 (21 + dI x) y).1 67 k = hC.1 67 k := fun k h1 => dPut_ne (by omega)
  have mk : ∀ k, k ≠ 3 * dI x + 1 → (dPut hM 11 (3 * dI x + 1) y).1 11 k = hM.1 11 k := fun k h1 => dPut_ne (by omega)
  refine Kp_step P (SN_mono (K := K) (by omega) ⟨gC_put 66 hC _ y, gM_put (Or.inl rfl) hM _ y, ?_, ?_, ?_, ?_⟩) (ck 6 (by omega)) (fun k hk => mk k (by omega))
  · show sR ((dPut hC 67 (21 + dI x) y).1 67) ((dPut hM 11 (3 * dI x + 1) y).1 11)
    refine ⟨by rw [mk 23 (by omega), ck 0 (by omega)]; exact s0, by rw [ck 1 (by omega), mk 21 (by omega)]; exact s1, by rw [ck 2 (by omega), mk 22 (by omega)]; exact s2, by rw [ck 3 (by omega), mk 24 (by omega)]; exact s3, by rw [ck 4 (by omega), mk 25 (by omega)]; exact s4, by rw [ck 5 (by omega), mk 26 (by omega)]; exact s5, by rw [ck 6 (by omega), mk 27 (by omega)]; exact s6, fun p hp7 => ?_⟩
    rw [ck (7 + p) (by omega), ck (14 + p) (by omega), mk (3 * p + 2) (by omega), mk (3 * p) (by omega)]
    refine ⟨(s7 p hp7).1, (s7 p hp7).2.1, ?_⟩
    by_cases q : p = dI x
    · rw [q, dPut_at, dPut_at]
    · rw [ck (21 + p) (by omega), mk (3 * p + 1) (by omega)]
      exact (s7 p hp7).2.2
  · show sW (hC.1 3 2) (hC.1 4) K ((dPut hC 67 (21 + dI x) y).1 67)
    refine ⟨by rw [ck 0 (by omega)]; exact w0, by rw [ck 1 (by omega)]; exact w1, by rw [ck 2 (by omega)]; exact w2, by rw [ck 3 (by omega)]; exact w3, by rw [ck 4 (by omega)]; exact w4, by rw [ck 6 (by omega)]; exact w6, fun p hp7 => ?_⟩
    obtain ⟨z1, z2, z3, z4⟩ := w7 p hp7
    rw [ck 1 (by omega), ck (7 + p) (by omega), ck (14 + p) (by omega)]
    refine ⟨z1, z2, ?_, z4⟩
    by_cases q : p = dI x
    · rw [q, dPut_at]; exact hy
    · rw [ck (21 + p) (by omega)]; exact z3
  · show -1 ≤ ((dPut hC 67 (21 + dI x) y).1 67 0).toInt ∧ ((dPut hC 67 (21 + dI x) y).1 67 0).toInt < _
    rw [ck 0 (by omega)]; exact hat
  · rw [mk 28 (by omega)]; exact lg
theorem ok_patience : st_patience Rel := by
  intro n hC hM hn R x y
  have R1 : RelK (60 * n) hC (dPut hM 0 0 0) := R.t0
  unfold aC_patience aM_patience f_X11_patience f_X12_patience
  rw [Option.bind_some]
  generalize dPut hM 0 0 0 = h1 at R1 ⊢
  have C := R1.ct
  have k0 : (0 : Int64).toInt = 0 := rfl
  have k30 : (30 : Int64).toInt = 30 := rfl
  have k30' : (30 : Int32).toInt = 30 := rfl
  have fin : dAg (Rel (n + 1)) (some (-1, hC)) (some (-1, h1)) := ag rfl rfl (Rel_mono R1)
  by_cases hx : Pl hC x
  · have hi := hx.in7 C
    have hn7 := hx.nat C
    obtain ⟨s1, s2, s3⟩ := R1.sr.2.2.2.2.2.2.2 (dI x) hn7.2
    rw [C_pl hx, M_pl C hx, if_pos rfl, if_pos rfl, M_isIn, k0, k30, C_patienceOf C 66 hx]
    simp only [Option.bind_some]
    by_cases hy : 0 ≤ y.toInt ∧ y.toInt ≤ 30
    · rw [if_neg (by rw [i_lt, t0]; omega), if_neg (by rw [i_lt, k30']; omega), if_pos (decide_eq_true hy), if_pos (ix1 hi).2, (ix1 hi).1, ← s3]
      show dAg (Rel (n + 1)) (if y = hC.1 67 (21 + dI x) then _ else _) (if hC.1 67 (21 + dI x) = y then _ else _)
      by_cases q : y = hC.1 67 (21 + dI x)
      · rw [if_pos q, if_pos q.symm]
        exact fin
      · rw [if_neg q, if_neg (fun z => q z.symm)]
        obtain ⟨c, m, e1, e2, P, F, c67, m11, ca⟩ := R_keepF R1
        have hx' : Pl c x := by
          show 0 ≤ x.toInt ∧ x.toInt < (c.1 3 2).toInt
          rw [ca 3 2 (by omega)]; exact hx
        have es : f_X8_setPatience x y c = some (dPut c 67 (21 + dI x) y) := by
          unfold f_X8_setPatience
          rw [C_pl hx', if_pos rfl, if_pos (ixk21 hi).2, (ixk21 hi).1]
        rw [e1, e2, Option.bind_some, Option.bind_some, es, if_pos (ix1 hi).2, if_pos (ix1 hi).2, m11, ← s3]
        exact ag rfl rfl (Rel_n1 (hn := hn) (R_pat P hx' hy))
    · rw [if_neg (show ¬ decide (0 ≤ y.toInt ∧ y.toInt ≤ 30) = true by rw [decide_eq_true_iff]; exact hy)]
      by_cases a1 : y < 0
      · rw [if_pos a1]
        exact fin
      · rw [if_neg a1, if_pos (by rw [i_lt, t0] at a1; rw [i_lt, k30']; omega)]
        exact fin
  · rw [C_npl hx, M_npl C hx, if_neg (by decide), if_neg (by decide)]
    exact fin
end AD
