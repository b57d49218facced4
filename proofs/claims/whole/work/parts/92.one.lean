/-! PURE: trouble, one side at a time -/
section OS
variable {K : Int} {n w : Nat} {hC hM hC' hM' : dH} {x y vi pa ho ti sm : Int32}
theorem tV_c (e1 : hC'.1 42 2 = hC.1 42 2) (e2 : hC'.1 4 2 = hC.1 4 2) (e3 : ∀ k, hC'.1 (6 + dI x) k = hC.1 (6 + dI x) k) (e4 : ∀ k, hM'.1 2 k = hM.1 2 k) (e5 : ∀ k, hM'.1 3 k = hM.1 3 k) : tV hC' hM' x vi pa ho ti sm = tV hC hM x vi pa ho ti sm := by
  unfold tV
  have m2 : hM'.1 2 = hM.1 2 := funext e4
  have m3 : hM'.1 3 = hM.1 3 := funext e5
  rw [e1, e2, e3, e3, m2, m3]
theorem tV_bt : bt 0 30 (tV hC hM x vi pa ho ti sm) := bt30 _
theorem wF_c (C : Ct hC hM) (hx : Pl' hC x) (e : ∀ a k, a ≤ 21 → hC'.1 a k = hC.1 a k) : wF hC' x y = wF hC x y := by
  have a := hx.add C
  have b := hx.2
  have c := C.le
  unfold wF
  exact e _ _ (by omega)
theorem Pl_c (e : hC'.1 3 2 = hC.1 3 2) (hx : Pl hC x) : Pl hC' x := by
  show 0 ≤ x.toInt ∧ x.toInt < (hC'.1 3 2).toInt
  rw [e]; exact hx
theorem Pl'_c (e : hC'.1 3 2 = hC.1 3 2) (hx : Pl' hC x) : Pl' hC' x := by
  show -1 ≤ x.toInt ∧ x.toInt < (hC'.1 3 2).toInt
  rw [e]; exact hx
theorem M_tr (C : Ct hC hM) (L3 : Q3 hC hM) (mo : mOK hM) (hx : Pl hC x) (hw : w = 11 ∨ w = 12) (hat : Pl' hC (hM.1 w 23 - 1)) (bho : bt 0 199 (hM.1 w 21 + wF hC (hM.1 w 23 - 1) x)) (bti : bt 0 199 (hM.1 w 22 + wF hC (hM.1 w 23 - 1) x)) (bv : bt 0 199 (hM.1 w (3 * dI x + 2))) (bp : bt 0 39 (hM.1 w (3 * dI x + 1))) (bs : bt 0 3 sm) : ∃ d : dH, f_X12_trouble w x (hC.1 (6 + dI x) 3 + sm) (hC.1 4 2) hM = some (tV hC hM x (hM.1 w (3 * dI x + 2)) (hM.1 w (3 * dI x + 1)) (hM.1 w 21 + wF hC (hM.1 w 23 - 1) x) (hM.1 w 22 + wF hC (hM.1 w 23 - 1) x) sm, d) ∧ fM hM d := by
  have hp := (hx.nat C).2
  have g : gC 68 hC (dPut (dPut hC 69 (7 + dI x) (hM.1 w (3 * dI x + 2))) 69 (21 + dI x) (hM.1 w (3 * dI x + 1))) := gC_tr (gC_put 68 hC _ _) (gC_put 68 _ _ _)
  have c7 : (dPut (dPut hC 69 (7 + dI x) (hM.1 w (3 * dI x + 2))) 69 (21 + dI x) (hM.1 w (3 * dI x + 1))).1 69 (7 + dI x) = hM.1 w (3 * dI x + 2) := by rw [dPut_ne (by omega), dPut_at]
  have c21 : (dPut (dPut hC 69 (7 + dI x) (hM.1 w (3 * dI x + 2))) 69 (21 + dI x) (hM.1 w (3 * dI x + 1))).1 69 (21 + dI x) = hM.1 w (3 * dI x + 1) := dPut_at
  generalize dPut (dPut hC 69 (7 + dI x) (hM.1 w (3 * dI x + 2))) 69 (21 + dI x) (hM.1 w (3 * dI x + 1)) = h2 at g c7 c21
  have e : ∀ a k, a ≤ 21 → h2.1 a k = hC.1 a k := fun a k ha => g.1 a k (by omega) (by omega) (by omega)
  have C2 : Ct h2 hM := g.ct (Or.inr rfl) C
  have L32 : Q3 h2 hM := Q3_e (gC.on (Or.inr rfl) g (fun _ => rfl) (fun _ => rfl) (fun _ => rfl) (fun _ => rfl)) eqOn_rf L3
  have ew : ∀ y, wF h2 (hM.1 w 23 - 1) y = wF hC (hM.1 w 23 - 1) y := fun y => wF_c C hat e
  obtain ⟨v, c, d, h1, h2', h3, h4, h5, h6⟩ := R_troubleV C2 L32 mo (Pl_c (e 3 2 (by omega)) hx) 68 w ⟨Or.inr rfl, hw⟩ c7 c21 (Pl'_c (e 3 2 (by omega)) hat) (ho := hM.1 w 21 + wF hC (hM.1 w 23 - 1) x) (ti := hM.1 w 22 + wF hC (hM.1 w 23 - 1) x) (by rw [ew]) (by rw [ew]) bho bti (by show bt 0 199 (h2.1 69 (7 + dI x)); rw [c7]; exact bv) (by show bt 0 39 (h2.1 69 (21 + dI x)); rw [c21]; exact bp) bs
  rw [e _ _ (by omega), e 4 2 (by omega)] at h2'
  refine ⟨d, ?_, h5⟩
  rw [h2', h6]
  show some (tV h2 hM x (h2.1 69 (7 + dI x)) (h2.1 69 (21 + dI x)) _ _ _, d) = _
  rw [c7, c21, tV_c (g.1 42 2 (by omega) (by omega) (by omega)) (e 4 2 (by omega)) (fun k => e _ _ (by omega)) (fun _ => rfl) (fun _ => rfl)]
theorem C_tr (C : Ct hC hM) (L3 : Q3 hC hM) (mo : mOK hM) (hx : Pl hC x) (bho : bt 0 199 ho) (bti : bt 0 199 ti) (bv : bt 0 199 (hC.1 67 (7 + dI x))) (bp : bt 0 39 (hC.1 67 (21 + dI x))) (bs : bt 0 3 sm) : ∃ c : dH, f_X8_troubleThen 66 x ho ti sm hC = some (tV hC hM x (hC.1 67 (7 + dI x)) (hC.1 67 (21 + dI x)) ho ti sm, c) ∧ fC hC c := by
  have hp := (hx.nat C).2
  have hw : (12 : Nat) = 11 ∨ (12 : Nat) = 12 := Or.inr rfl
  have x0 := hx.1
  have x1 := hx.2
  have hm : Pl' hC (-1) := ⟨by rw [tm1]; omega, by rw [tm1]; omega⟩
  have g : gM 12 hM (dPut (dPut (dPut (dPut (dPut hM 12 23 0) 12 21 (ho - wF hC (-1) x)) 12 22 (ti - wF hC (-1) x)) 12 (3 * dI x + 2) (hC.1 67 (7 + dI x))) 12 (3 * dI x + 1) (hC.1 67 (21 + dI x))) := gM_tr (gM_tr (gM_tr (gM_tr (gM_put hw hM _ _) (gM_put hw _ _ _)) (gM_put hw _ _ _)) (gM_put hw _ _ _)) (gM_put hw _ _ _)
  have m1 : (dPut (dPut (dPut (dPut (dPut hM 12 23 0) 12 21 (ho - wF hC (-1) x)) 12 22 (ti - wF hC (-1) x)) 12 (3 * dI x + 2) (hC.1 67 (7 + dI x))) 12 (3 * dI x + 1) (hC.1 67 (21 + dI x))).1 12 (3 * dI x + 1) = hC.1 67 (21 + dI x) := dPut_at
  have m2 : (dPut (dPut (dPut (dPut (dPut hM 12 23 0) 12 21 (ho - wF hC (-1) x)) 12 22 (ti - wF hC (-1) x)) 12 (3 * dI x + 2) (hC.1 67 (7 + dI x))) 12 (3 * dI x + 1) (hC.1 67 (21 + dI x))).1 12 (3 * dI x + 2) = hC.1 67 (7 + dI x) := by rw [dPut_ne (by omega), dPut_at]
  have m3 : (dPut (dPut (dPut (dPut (dPut hM 12 23 0) 12 21 (ho - wF hC (-1) x)) 12 22 (ti - wF hC (-1) x)) 12 (3 * dI x + 2) (hC.1 67 (7 + dI x))) 12 (3 * dI x + 1) (hC.1 67 (21 + dI x))).1 12 22 = ti - wF hC (-1) x := by rw [dPut_ne (by omega), dPut_ne (by omega), dPut_at]
  have m4 : (dPut (dPut (dPut (dPut (dPut hM 12 23 0) 12 21 (ho - wF hC (-1) x)) 12 22 (ti - wF hC (-1) x)) 12 (3 * dI x + 2) (hC.1 67 (7 + dI x))) 12 (3 * dI x + 1) (hC.1 67 (21 + dI x))).1 12 21 = ho - wF hC (-1) x := by rw [dPut_ne (by omega), dPut_ne (by omega), dPut_ne (by omega), dPut_at]
  have m5 : (dPut (dPut (dPut (dPut (dPut hM 12 23 0) 12 21 (ho - wF hC (-1) x)) 12 22 (ti - wF hC (-1) x)) 12 (3 * dI x + 2) (hC.1 67 (7 + dI x))) 12 (3 * dI x + 1) (hC.1 67 (21 + dI x))).1 12 23 - 1 = -1 := by rw [dPut_ne (by omega), dPut_ne (by omega), dPut_ne (by omega), dPut_ne (by omega), dPut_at]; rfl
  generalize dPut (dPut (dPut (dPut (dPut hM 12 23 0) 12 21 (ho - wF hC (-1) x)) 12 22 (ti - wF hC (-1) x)) 12 (3 * dI x + 2) (hC.1 67 (7 + dI x))) 12 (3 * dI x + 1) (hC.1 67 (21 + dI x)) = h2 at g m1 m2 m3 m4 m5
  have C2 : Ct hC h2 := g.ct (Or.inr rfl) C
  have L32 : Q3 hC h2 := Q3_g (Or.inr ⟨rfl, rfl⟩) (gC_rf 68 hC) g L3
  obtain ⟨v, c, d, h1, h2', h3, h4, h5, h6⟩ := R_troubleV C2 L32 (g.2.2.2 mo) hx 66 12 ⟨Or.inl rfl, Or.inr rfl⟩ m2.symm m1.symm (by rw [m5]; exact hm) (ho := ho) (ti := ti) (by rw [m5, m4, Int32.sub_add_cancel]) (by rw [m5, m3, Int32.sub_add_cancel]) bho bti bv bp bs
  refine ⟨c, ?_, h4⟩
  rw [h1, h6]
  show some (tV hC h2 x (hC.1 67 (7 + dI x)) (hC.1 67 (21 + dI x)) _ _ _, c) = _
  rw [tV_c (hC := hC) (hM := hM) rfl rfl (fun _ => rfl) (fun k => g.1 2 k (by omega) (by omega) (by omega) (by omega)) (fun k => g.1 3 k (by omega) (by omega) (by omega) (by omega))]
/-- now -/
def tN (hC hM : dH) (x sm : Int32) : Int32 := tV hC hM x (hC.1 67 (7 + dI x)) (hC.1 67 (21 + dI x)) (hC.1 67 1 + wF hC (hC.1 67 0) x) (hC.1 67 2 + wF hC (hC.1 67 0) x) sm
theorem RelK.bds (R : RelK K hC hM) (hx : Pl hC x) : bt 0 199 (hC.1 67 1 + wF hC (hC.1 67 0) x) ∧ bt 0 199 (hC.1 67 2 + wF hC (hC.1 67 0) x) ∧ bt 0 199 (hC.1 67 (7 + dI x)) ∧ bt 0 39 (hC.1 67 (21 + dI x)) := by
  have C := R.ct
  obtain ⟨w0, w1, w2, w3, w4, w6, w7⟩ := R.sw
  obtain ⟨p1, p2, p3, p4⟩ := w7 (dI x) (hx.nat C).2
  have wf := wF_bt C R.atA hx.p'
  have wf1 := wf.1
  have wf2 := wf.2
  have r02 := C.2.1.2.1.2
  have r12 := C.2.1.2.2.1.2
  have p31 := p3.1
  have p32 := p3.2
  have e1 : (hC.1 67 1 + wF hC (hC.1 67 0) x).toInt = (hC.1 67 1).toInt + (wF hC (hC.1 67 0) x).toInt := i_add (by omega)
  have e2 : (hC.1 67 2 + wF hC (hC.1 67 0) x).toInt = (hC.1 67 2).toInt + (wF hC (hC.1 67 0) x).toInt := i_add (by omega)
  exact ⟨⟨by omega, by omega⟩, ⟨by omega, by omega⟩, ⟨by omega, by omega⟩, ⟨by omega, by omega⟩⟩
theorem C_tn (R : RelK K hC hM) (hx : Pl hC x) (bs : bt 0 3 sm) : ∃ c : dH, f_X8_troubleNow x sm hC = some (tN hC hM x sm, c) ∧ fC hC c := by
  obtain ⟨b1, b2, b3, b4⟩ := R.bds hx
  obtain ⟨c, e, f⟩ := C_tr R.ct R.2.2.1 R.2.2.2.1 hx b1 b2 b3 b4 bs
  unfold f_X8_troubleNow
  rw [C_apart R.ct R.atA hx.p', Option.bind_some, e]
  exact ⟨c, rfl, f⟩
theorem M_tn (R : RelK K hC hM) (hx : Pl hC x) (bs : bt 0 3 sm) : ∃ d : dH, f_X12_trouble 11 x (hC.1 (6 + dI x) 3 + sm) (hM.1 5 2) hM = some (tN hC hM x sm, d) ∧ fM hM d := by
  obtain ⟨b1, b2, b3, b4⟩ := R.bds hx
  obtain ⟨s0, s1, s2, s3, s4, s5, s6, s7⟩ := R.sr
  obtain ⟨q1, q2, q3⟩ := s7 (dI x) (hx.nat R.ct).2
  obtain ⟨d, e, f⟩ := M_tr (w := 11) (sm := sm) R.ct R.2.2.1 R.2.2.2.1 hx (Or.inl rfl) (by rw [s0]; exact R.atA) (by rw [s0, ← s1]; exact b1) (by rw [s0, ← s2]; exact b2) (by rw [← q1]; exact b3) (by rw [← q3]; exact b4) bs
  rw [s0, ← s1, ← s2, ← q1, ← q3, R.ct.2.2.1 2 (by omega)] at e
  exact ⟨d, e, f⟩
theorem bs0 : bt 0 3 (0 : Int32) := ⟨by decide, by decide⟩
theorem ok_troubles : st_troubles Rel := by
  intro n hC hM hn R x
  have R1 : RelK (60 * n) hC (dPut hM 0 0 0) := R.t0
  unfold aC_troubles aM_troubles f_X11_troubles f_X12_troubles
  rw [Option.bind_some]
  generalize dPut hM 0 0 0 = h1 at R1 ⊢
  have C := R1.ct
  by_cases hx : Pl hC x
  · obtain ⟨c, e1, f1⟩ := C_tn R1 hx bs0
    obtain ⟨d, e2, f2⟩ := M_tn R1 hx bs0
    rw [Int32.add_zero] at e2
    rw [C_pl hx, M_pl C hx, if_pos rfl, if_pos rfl, e1, M_of C hx in3, Option.bind_some, Option.bind_some, show dI (3 : Int32) = 3 from rfl, e2]
    exact ag rfl rfl (Rel_mono (RelK_e R1 f1.e f2.e))
  · rw [C_npl hx, M_npl C hx, if_neg (by decide), if_neg (by decide)]
    exact ag rfl rfl (Rel_mono R1)
/-! games -/
def cb (va am vb bm wa wb a b : Int) : Bool := if va + am = vb + bm then (if wa = wb then decide (a < b) else decide (wa < wb)) else decide (vb + bm < va + am)
theorem cb_sym {va am vb bm wa wb a b : Int} (h : a ≠ b) : cb vb bm va am wb wa b a = !cb va am vb bm wa wb a b := by
  unfold cb
  by_cases h1 : va + am = vb + bm
  · rw [if_pos h1, if_pos h1.symm]
    by_cases h2 : wa = wb
    · rw [if_pos h2, if_pos h2.symm, ← decide_not]
      exact decide_eq_decide.mpr (by omega)
    · rw [if_neg h2, if_neg (fun z => h2 z.symm), ← decide_not]
      exact decide_eq_decide.mpr (by omega)
  · rw [if_neg h1, if_neg (fun z => h1 z.symm), ← decide_not]
    exact decide_eq_decide.mpr (by omega)
def gB (hC : dH) (a am b bm : Int32) : Bool := cb (hC.1 (6 + dI a) 3).toInt am.toInt (hC.1 (6 + dI b) 3).toInt bm.toInt (wF hC (hC.1 67 0) a).toInt (wF hC (hC.1 67 0) b).toInt a.toInt b.toInt
def gV (hC hM : dH) (a am b bm : Int32) : Int32 := if gB hC a am b bm then (8 - tN hC hM a am) - am else -am
theorem view_bt (C : Ct hC hM) (hx : Pl hC x) : bt 0 9 (hC.1 (6 + dI x) 3) := by
  have hn := hx.nat C
  have cty := C.2.1.2.2.2.2 (dI x) (by rw [hn.1]; exact hx.2)
  rw [cSp_at hn.2, cSp_at hn.2, cSp_at hn.2, cSp_at hn.2, cSp_at hn.2] at cty
  exact cty.2.2.2.1
theorem ite_dec {p : Prop} [Decidable p] : (if p then some true else some false) = some (decide p) := by
  by_cases h : p
  · rw [if_pos h, decide_eq_true h]
  · rw [if_neg h, decide_eq_false h]
theorem C_comesTo (R : RelK K hC hM) {a am b bm : Int32} (ha : Pl hC a) (hb : Pl hC b) (ba : bt 0 3 am) (bb : bt 0 3 bm) : f_X11_comesTo a am b bm hC = some (gB hC a am b bm) := by
  have C := R.ct
  have v1 := view_bt C ha
  have v2 := view_bt C hb
  have v11 := v1.1
  have v12 := v1.2
  have v21 := v2.1
  have v22 := v2.2
  have a1 := ba.1
  have a2 := ba.2
  have b1 := bb.1
  have b2 := bb.2
  have e1 : (hC.1 (6 + dI a) 3 + am).toInt = (hC.1 (6 + dI a) 3).toInt + am.toInt := i_add (by omega)
  have e2 : (hC.1 (6 + dI b) 3 + bm).toInt = (hC.1 (6 + dI b) 3).toInt + bm.toInt := i_add (by omega)
  unfold f_X11_comesTo gB cb
  rw [C_toldOf C ha in3, C_toldOf C hb in3, show f_X8_place hC = hC.1 67 0 from rfl, C_apart C R.atA ha.p', C_apart C R.atA hb.p', show dI (3 : Int32) = 3 from rfl]
  simp only [Option.bind_some]
  have q1 : (hC.1 (6 + dI a) 3 + am = hC.1 (6 + dI b) 3 + bm) ↔ ((hC.1 (6 + dI a) 3).toInt + am.toInt = (hC.1 (6 + dI b) 3).toInt + bm.toInt) := by rw [i_eq, e1, e2]
  have q2 : (wF hC (hC.1 67 0) a = wF hC (hC.1 67 0) b) ↔ ((wF hC (hC.1 67 0) a).toInt = (wF hC (hC.1 67 0) b).toInt) := i_eq
  by_cases h1 : hC.1 (6 + dI a) 3 + am = hC.1 (6 + dI b) 3 + bm
  · have g1 := q1.mp h1
    rw [if_pos h1, if_pos g1]
    by_cases h2 : wF hC (hC.1 67 0) a = wF hC (hC.1 67 0) b
    · have g2 := q2.mp h2
      rw [if_pos h2, if_pos g2, ite_dec]
      exact congrArg some (decide_eq_decide.mpr i_lt)
    · have g2 := fun z => h2 (q2.mpr z)
      rw [if_neg h2, if_neg g2, ite_dec]
      exact congrArg some (decide_eq_decide.mpr i_lt)
  · have g1 := fun z => h1 (q1.mpr z)
    rw [if_neg h1, if_neg g1, ite_dec]
    exact congrArg some (decide_eq_decide.mpr (by rw [i_lt, e1, e2]))
theorem M_isFirst (R : RelK K hC hM) {a am b bm : Int32} (ha : Pl hC a) (hb : Pl hC b) (ba : bt 0 3 am) (bb : bt 0 3 bm) : f_X12_isFirst a b am bm hM = some (gB hC a am b bm) := by
  have C := R.ct
  have s := R.sr
  have v1 := view_bt C ha
  have v2 := view_bt C hb
  have v11 := v1.1
  have v12 := v1.2
  have v21 := v2.1
  have v22 := v2.2
  have a1 := ba.1
  have a2 := ba.2
  have b1 := bb.1
  have b2 := bb.2
  have wa := wF_bt C R.atA ha.p'
  have wb := wF_bt C R.atA hb.p'
  have wa1 := wa.1
  have wa2 := wa.2
  have wb1 := wb.1
  have wb2 := wb.2
  have e1 : (hC.1 (6 + dI a) 3 + am).toInt = (hC.1 (6 + dI a) 3).toInt + am.toInt := i_add (by omega)
  have e2 : (hC.1 (6 + dI a) 3 + am - hC.1 (6 + dI b) 3).toInt = (hC.1 (6 + dI a) 3).toInt + am.toInt - (hC.1 (6 + dI b) 3).toInt := by rw [i_sub (by rw [e1]; omega), e1]
  have e3 : (hC.1 (6 + dI a) 3 + am - hC.1 (6 + dI b) 3 - bm).toInt = (hC.1 (6 + dI a) 3).toInt + am.toInt - (hC.1 (6 + dI b) 3).toInt - bm.toInt := by rw [i_sub (by rw [e2]; omega), e2]
  have e4 : (wF hC (hC.1 67 0) b - wF hC (hC.1 67 0) a).toInt = (wF hC (hC.1 67 0) b).toInt - (wF hC (hC.1 67 0) a).toInt := i_sub (by omega)
  unfold f_X12_isFirst gB cb f_X12_far f_X12_where
  rw [M_of C ha in3, M_of C hb in3, s.1, M_between C R.atA ha, M_between C R.atA hb, show dI (3 : Int32) = 3 from rfl]
  simp only [Option.bind_some]
  have q1 : (hC.1 (6 + dI a) 3 + am - hC.1 (6 + dI b) 3 - bm = 0) ↔ ((hC.1 (6 + dI a) 3).toInt + am.toInt = (hC.1 (6 + dI b) 3).toInt + bm.toInt) := by rw [i_eq, e3, t0]; omega
  have q2 : (wF hC (hC.1 67 0) b - wF hC (hC.1 67 0) a = 0) ↔ ((wF hC (hC.1 67 0) a).toInt = (wF hC (hC.1 67 0) b).toInt) := by rw [i_eq, e4, t0]; omega
  by_cases h1 : hC.1 (6 + dI a) 3 + am - hC.1 (6 + dI b) 3 - bm = 0
  · have g1 := q1.mp h1
    rw [if_pos h1, if_pos g1]
    by_cases h2 : wF hC (hC.1 67 0) b - wF hC (hC.1 67 0) a = 0
    · have g2 := q2.mp h2
      rw [if_pos h2, if_pos g2, ite_dec]
      exact congrArg some (decide_eq_decide.mpr i_lt)
    · have g2 := fun z => h2 (q2.mpr z)
      rw [if_neg h2, if_neg g2, ite_dec]
      exact congrArg some (decide_eq_decide.mpr (by rw [i_lt, e4, t0]; omega))
  · have g1 := fun z => h1 (q1.mpr z)
    rw [if_neg h1, if_neg g1, ite_dec]
    exact congrArg some (decide_eq_decide.mpr (by rw [i_lt, e3, t0]; omega))
theorem C_has (R : RelK K hC hM) {a am b bm : Int32} (ha : Pl hC a) (hb : Pl hC b) (ba : bt 0 3 am) (bb : bt 0 3 bm) : ∃ c : dH, f_X11_has a am b bm hC = some (gV hC hM a am b bm, c) ∧ fC hC c := by
  unfold f_X11_has gV
  rw [C_comesTo R ha hb ba bb, Option.bind_some]
  by_cases h : gB hC a am b bm = true
  · obtain ⟨c, e, f⟩ := C_tn R ha ba
    rw [if_pos h, if_pos h, e]
    exact ⟨c, rfl, f⟩
  · rw [if_neg h, if_neg h]
    exact ⟨hC, rfl, fC_rf _⟩
theorem M_g0 (R : RelK K hC hM) {a am b bm : Int32} (ha : Pl hC a) (hb : Pl hC b) (ba : bt 0 3 am) (bb : bt 0 3 bm) : ∃ d : dH, f_X12_gameOf a b am bm 0 hM = some (gV hC hM a am b bm, d) ∧ fM hM d := by
  unfold f_X12_gameOf gV f_X12_gameOf_J21 f_X12_gameOf_J34 f_X12_gameOf_J48
  rw [M_isFirst R ha hb ba bb, Option.bind_some, if_pos rfl, if_pos rfl, if_pos rfl]
  by_cases h : gB hC a am b bm = true
  · obtain ⟨d, e, f⟩ := M_tn R ha ba
    rw [if_pos h, h, if_pos rfl, M_of R.ct ha in3, Option.bind_some, show dI (3 : Int32) = 3 from rfl, e]
    exact ⟨d, rfl, f⟩
  · have h' := Bool.eq_false_iff.mpr h
    rw [if_neg h, h', if_neg (by decide)]
    exact ⟨hM, rfl, fM_rf _⟩
theorem M_g1 (R : RelK K hC hM) {a am b bm : Int32} (ha : Pl hC a) (hb : Pl hC b) (ba : bt 0 3 am) (bb : bt 0 3 bm) (hne : a ≠ b) : ∃ d : dH, f_X12_gameOf a b am bm 1 hM = some (gV hC hM b bm a am, d) ∧ fM hM d := by
  unfold f_X12_gameOf gV f_X12_gameOf_J21 f_X12_gameOf_J34 f_X12_gameOf_J48
  have sy : gB hC b bm a am = !gB hC a am b bm := cb_sym (fun z => hne (i_eq.mpr z))
  rw [M_isFirst R ha hb ba bb, Option.bind_some, if_neg (by decide), if_neg (by decide), if_neg (by decide), sy]
  by_cases h : gB hC a am b bm = true
  · rw [h, if_neg (by decide), if_neg (by decide)]
    exact ⟨hM, rfl, fM_rf _⟩
  · have h' := Bool.eq_false_iff.mpr h
    obtain ⟨d, e, f⟩ := M_tn R hb bb
    rw [h', if_pos rfl, if_pos (by decide), M_of R.ct hb in3, Option.bind_some, show dI (3 : Int32) = 3 from rfl, e]
    exact ⟨d, rfl, f⟩
theorem gV_c (R : RelK K hC hM) {a am b bm : Int32} (ha : Pl hC a) (f1 : fC hC hC') (f2 : fM hM hM') (hb : Pl hC b) : gV hC' hM' a am b bm = gV hC hM a am b bm := by
  have na := (ha.nat R.ct).2
  have nb := (hb.nat R.ct).2
  have e : ∀ p k, p ≤ 42 → hC'.1 p k = hC.1 p k := fun p k hp => f1.1 p k (by omega) (by omega)
  have e67 : ∀ k, hC'.1 67 k = hC.1 67 k := fun k => f1.1 67 k (by omega) (by omega)
  have ew : ∀ y, wF hC' (hC.1 67 0) y = wF hC (hC.1 67 0) y := fun y => wF_c R.ct R.atA (fun a k ha => e a k (by omega))
  have et : ∀ vi pa ho ti sm, tV hC' hM' a vi pa ho ti sm = tV hC hM a vi pa ho ti sm := fun vi pa ho ti sm => tV_c (e 42 2 (by omega)) (e 4 2 (by omega)) (fun k => e _ _ (by omega)) (fun k => f2.1 2 k (by omega) (by omega) (by omega)) (fun k => f2.1 3 k (by omega) (by omega) (by omega))
  unfold gV gB tN
  rw [e67, e67, e67, e67, e67, ew, ew, et, e _ _ (by omega), e _ _ (by omega)]
theorem areTwo_eq (C : Ct hC hM) : f_X11_areTwo x y hC = f_X12_isGame x y hM := by
  unfold f_X11_areTwo f_X12_isGame
  rw [C_isPlace, C_isPlace, M_isPlace, M_isPlace, C.np]
theorem areTwo_t (C : Ct hC hM) (h : f_X11_areTwo x y hC = true) : Pl hC x ∧ Pl hC y ∧ x ≠ y := by
  unfold f_X11_areTwo at h
  by_cases hx : Pl hC x
  · rw [C_pl hx, if_pos rfl] at h
    by_cases hy : Pl hC y
    · rw [C_pl hy, if_pos rfl] at h
      by_cases e : x = y
      · rw [if_pos e] at h; cases h
      · exact ⟨hx, hy, e⟩
    · rw [C_npl hy, if_neg (by decide)] at h; cases h
  · rw [C_npl hx, if_neg (by decide)] at h; cases h
theorem C_isShown : f_X11_isShown x hC = decide (0 ≤ x.toInt ∧ x.toInt ≤ 3) := by
  have k3 : (3 : Int32).toInt = 3 := rfl
  unfold f_X11_isShown
  by_cases a : x < 0
  · rw [if_pos a]
    rw [i_lt, t0] at a
    exact (decide_eq_false (by omega)).symm
  · rw [if_neg a]
    rw [i_lt, t0] at a
    by_cases b : 3 < x
    · rw [if_pos b]
      rw [i_lt, k3] at b
      exact (decide_eq_false (by omega)).symm
    · rw [if_neg b]
      rw [i_lt, k3] at b
      exact (decide_eq_true (by omega)).symm
theorem ok_game : st_game Rel := by
  intro n hC hM hn R a b am bm q
  have R1 : RelK (60 * n) hC (dPut hM 0 0 0) := R.t0
  unfold aC_game aM_game f_X11_game f_X12_game
  rw [Option.bind_some]
  generalize dPut hM 0 0 0 = h1 at R1 ⊢
  have C := R1.ct
  have k0 : (0 : Int64).toInt = 0 := rfl
  have k1 : (1 : Int64).toInt = 1 := rfl
  have k3 : (3 : Int64).toInt = 3 := rfl
  have fin : dAg (Rel (n + 1)) (some (-1000000, hC)) (some (-1000000, h1)) := ag rfl rfl (Rel_mono R1)
  rw [← areTwo_eq C, C_isShown, C_isShown, M_isIn, M_isIn, M_isIn, k0, k1, k3]
  by_cases g : f_X11_areTwo a b hC = true
  · obtain ⟨ha, hb, hne⟩ := areTwo_t C g
    rw [if_pos g, if_pos g]
    by_cases x1 : 0 ≤ am.toInt ∧ am.toInt ≤ 3
    · rw [if_pos (decide_eq_true x1), if_pos (decide_eq_true x1)]
      by_cases x2 : 0 ≤ bm.toInt ∧ bm.toInt ≤ 3
      · rw [if_pos (decide_eq_true x2), if_pos (decide_eq_true x2)]
        by_cases x3 : 0 ≤ q.toInt ∧ q.toInt ≤ 1
        · rw [if_neg (by rw [i_lt, t0]; omega), if_neg (by rw [i_lt, t1]; omega), if_pos (decide_eq_true x3)]
          by_cases q0 : q = 0
          · obtain ⟨c, e1, f1⟩ := C_has R1 ha hb x1 x2
            obtain ⟨d, e2, f2⟩ := M_g0 R1 ha hb x1 x2
            rw [if_pos q0, q0, e1, e2]
            exact ag rfl rfl (Rel_mono (RelK_e R1 f1.e f2.e))
          · have q1 : q = 1 := by rw [i_eq, t0] at q0; rw [i_eq, t1]; omega
            obtain ⟨c, e1, f1⟩ := C_has R1 hb ha x2 x1
            obtain ⟨d, e2, f2⟩ := M_g1 R1 ha hb x1 x2 hne
            rw [if_neg q0, q1, e1, e2]
            exact ag rfl rfl (Rel_mono (RelK_e R1 f1.e f2.e))
        · rw [if_neg (show ¬ decide (0 ≤ q.toInt ∧ q.toInt ≤ 1) = true by rw [decide_eq_true_iff]; exact x3)]
          by_cases a1 : q < 0
          · rw [if_pos a1]
            exact fin
          · rw [if_neg a1, if_pos (by rw [i_lt, t0] at a1; rw [i_lt, t1]; omega)]
            exact fin
      · rw [if_neg (by rw [decide_eq_true_iff]; exact x2), if_neg (by rw [decide_eq_true_iff]; exact x2)]
        exact fin
    · rw [if_neg (by rw [decide_eq_true_iff]; exact x1), if_neg (by rw [decide_eq_true_iff]; exact x1)]
      exact fin
  · rw [if_neg g, if_neg g]
    exact fin
end OS
