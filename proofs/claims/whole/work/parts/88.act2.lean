/-! PURE: ACTS -/
section AC
variable {K K' : Int} {n t w : Nat} {hC hM hC' hM' : dH} {x : Int32}
theorem gR_c2 {d c m c' m' : Nat → Int32} (hc : c' 6 = c 6) (hm : ∀ k, 28 ≤ k → m' k = m k) (h : gR d c m) : gR d c' m' := by
  obtain ⟨a0, a1⟩ := h
  unfold gR
  rw [hc, hm 28 (by omega)]
  refine ⟨a0, fun i w hi hw => ?_⟩
  rw [hm _ (by omega)]
  exact a1 i w hi hw
theorem rUndo_now {np : Int32} {r : Nat → Int32} {d : Nat → Int32} {number next : Int32} {rows now now' : Nat → Int32} {acts : Int32} {rowsM : Nat → Int32} (e : now' 6 = now 6) (h : rUndo np r K d number next rows now acts rowsM) : rUndo np r K d number next rows now' acts rowsM := by
  obtain ⟨a1, a2, a3, a4, a5⟩ := h
  refine ⟨a1, a2, a3, a4, fun i hi z hz => a5 i hi z ?_⟩
  rw [hz, e]
theorem RelK.atA (R : RelK K hC hM) : Pl' hC (hC.1 67 0) := by
  have := R.ct.ge
  rcases R.sw.1 with q | q
  · exact q
  · exact ⟨by omega, by omega⟩
theorem RelK.st (R : RelK K hC hM) : ST K 66 11 hC hM := by
  refine ⟨R.ct, R.2.2.1, R.2.2.2.1, R.sr, R.sw, R.atA, ?_⟩
  have h1 := R.gr.1
  have h2 := R.sw.2.2.2.2.2.1.1
  have h3 := R.sw.2.2.2.2.2.1.2
  exact ⟨by omega, by omega⟩
theorem SN_mono (hK : K ≤ K') (N : SN K t w hC hM hC' hM') : SN K' t w hC hM hC' hM' := ⟨N.1, N.2.1, N.2.2.1, sW_mono hK N.2.2.2.1, N.2.2.2.2⟩
/-- an ACT that is no DAY -/
theorem Kp_step (P : Kp K hC hM) (N : SN (K + 1) 66 11 hC hM hC' hM') (hd : hC'.1 67 6 = hC.1 67 6) (lg : ∀ k, 28 ≤ k → hM'.1 11 k = hM.1 11 k) : RelK (K + 1) hC' hM' := by
  obtain ⟨⟨R0, R2, R3, R4, R5, R6, R7, R8, R9, R10, R11⟩, _, _⟩ := P
  obtain ⟨g, g2, s', sw', hat', lg'⟩ := N
  have ht : (66 : Nat) = 66 ∨ (66 : Nat) = 68 := Or.inl rfl
  have c4 := g.r4 ht
  have c32 := g.r32 ht
  have c73 : hC'.1 73 = hC.1 73 := funext fun k => g.1 73 k (by omega) (by omega) (by omega)
  have c71 : hC'.1 71 = hC.1 71 := funext fun k => g.1 71 k (by omega) (by omega) (by omega)
  have m15 : hM'.1 15 = hM.1 15 := funext fun k => g2.1 15 k (by omega) (by omega) (by omega) (by omega)
  have hK : K ≤ K + 1 := by omega
  refine ⟨Q1_e (gC.on ht g (fun _ => rfl) (fun _ => rfl) (fun _ => rfl) (fun _ => rfl)) (gM.on g2 (fun _ => rfl) (fun _ => rfl) (fun _ => rfl) (ezz rfl rfl rfl rfl rfl rfl rfl rfl)) R0, Q2_e (gC.on ht g (fun _ => rfl) (fun _ => rfl) (fun _ => rfl) (fun _ => rfl)) (gM.on g2 (fun _ => rfl) (fun _ => rfl) (fun _ => rfl) (ezz rfl rfl rfl rfl rfl rfl rfl rfl)) R2, Q3_e (gC.on ht g (fun _ => rfl) (fun _ => rfl) (fun _ => rfl) (fun _ => rfl)) (gM.on g2 (fun _ => rfl) (fun _ => rfl) (fun _ => rfl) (ezz rfl rfl rfl rfl rfl rfl rfl rfl)) R3, g2.2.2.2 R4, Q5_e (gC.on ht g (fun _ => rfl) (fun _ => rfl) (fun _ => rfl) (fun _ => rfl)) (gM.on g2 (fun _ => rfl) (fun _ => rfl) (fun _ => rfl) (ezz rfl rfl rfl rfl rfl rfl rfl rfl)) R5, ⟨s', ?_, ?_⟩, ?_, rImage_mono hK (Q8_e (gC.on ht g (fun _ => rfl) (fun _ => rfl) (fun _ => rfl) (fun _ => rfl)) (gM.on g2 (fun _ => rfl) (fun _ => rfl) (fun _ => rfl) (ezz rfl rfl rfl rfl rfl rfl rfl rfl)) R8), Q9_e (gC.on ht g (fun _ => rfl) (fun _ => rfl) (fun _ => rfl) (fun _ => rfl)) (gM.on g2 (fun _ => rfl) (fun _ => rfl) (fun _ => rfl) (ezz rfl rfl rfl rfl rfl rfl rfl rfl)) R9, Q10_e (gC.on ht g (fun _ => rfl) (fun _ => rfl) (fun _ => rfl) (fun _ => rfl)) (gM.on g2 (fun _ => rfl) (fun _ => rfl) (fun _ => rfl) (ezz rfl rfl rfl rfl rfl rfl rfl rfl)) R10, dXt_e (gC.on ht g (fun _ => rfl) (fun _ => rfl) (fun _ => rfl) (fun _ => rfl)) R11⟩
  · rw [c32, c4]; exact sw'
  · rw [c73]; exact gR_c2 hd lg R6.2.2
  · rw [c32, c4, c73, c71, g.1 70 0 (by omega) (by omega) (by omega), g.1 70 2 (by omega) (by omega) (by omega), g2.2.1 35 (by omega), m15]
    exact rUndo_now hd (rUndo_mono hK R7)
/-- a DAY goes by, as an ACT -/
theorem Kp_day (P : Kp K hC hM) (b : (hC.1 67 6).toInt < 999) : ∃ (v : Int32) (hW hC' hM' : dH), f_X4_write hC = some hW ∧ f_X8_endDay 66 hW = some (v, hC') ∧ f_X12_goDay 11 hM = some hM' ∧ v = hM'.1 11 27 ∧ 0 ≤ v.toInt ∧ RelK (K + 1) hC' hM' ∧ gM 11 hM hM' := by
  obtain ⟨R, pn, pt⟩ := P
  have S := R.st
  have C := R.ct
  obtain ⟨R0, R2, R3, R4, R5, R6, R7, R8, R9, R10, R11⟩ := R
  have d0 := R6.2.1.2.2.2.2.2.1.1
  have hK : K ≤ K + 1 := by omega
  obtain ⟨d, hd⟩ : ∃ d : Nat, (hC.1 67 6).toInt = d := ⟨(hC.1 67 6).toInt.toNat, by omega⟩
  obtain ⟨hW, eW, wa, w2, w73⟩ := C_write C hd (by omega)
  have w67 : hW.1 67 = hC.1 67 := funext fun k => wa 67 k (by omega)
  have w4 : hW.1 4 = hC.1 4 := funext fun k => wa 4 k (by omega)
  have w32 : hW.1 3 2 = hC.1 3 2 := wa 3 2 (by omega)
  have onW : ∀ mk : Nat → Nat → Bool, (∀ k, mk 73 k = false) → eqOn mk hC hW := fun mk h1 a k hk => wa a k (fun z => by rw [z, h1] at hk; cases hk)
  have SW : ST K 66 11 hW hM := by
    refine ⟨Ct_C C (fun a k ha => wa a k (by omega)), Q3_e (onW _ (fun _ => rfl)) eqOn_rf R3, R4, ?_, ?_, ?_, S.2.2.2.2.2.2⟩
    · show sR (hW.1 67) (hM.1 11)
      rw [w67]; exact R6.1
    · show sW (hW.1 3 2) (hW.1 4) K (hW.1 67)
      rw [w67, w4, w32]; exact R6.2.1
    · show -1 ≤ (hW.1 67 0).toInt ∧ (hW.1 67 0).toInt < (hW.1 3 2).toInt
      rw [w67, w32]; exact S.2.2.2.2.2.1
  have hc : (hM.1 11 28).toInt = (min 60 d : Nat) := by rw [R6.2.2.1, hd]; omega
  obtain ⟨v, c1, m1, e1, e2, ev, v0, ⟨g, g2, s', sw', hat', lg'⟩, n6, n28, nl⟩ := R_day (Or.inl ⟨rfl, rfl⟩) SW (by show (hW.1 67 6).toInt < 999; rw [w67]; exact b) hc
  refine ⟨v, hW, c1, m1, eW, e1, e2, ev, v0, ?_, g2⟩
  have ht : (66 : Nat) = 66 ∨ (66 : Nat) = 68 := Or.inl rfl
  have n6' : (c1.1 67 6).toInt = ((d + 1 : Nat) : Int) := by
    have : (c1.1 67 6).toInt = (hW.1 67 6).toInt + 1 := n6
    rw [this, w67, hd]; omega
  have c4 : c1.1 4 = hC.1 4 := (g.r4 ht).trans w4
  have c32 : c1.1 3 2 = hC.1 3 2 := (g.r32 ht).trans w32
  have c73 : c1.1 73 = hW.1 73 := funext fun k => g.1 73 k (by omega) (by omega) (by omega)
  have c71 : c1.1 71 = hC.1 71 := funext fun k => (g.1 71 k (by omega) (by omega) (by omega)).trans (wa 71 k (by omega))
  have c700 : c1.1 70 0 = hC.1 70 0 := (g.1 70 0 (by omega) (by omega) (by omega)).trans (wa 70 0 (by omega))
  have c702 : c1.1 70 2 = hC.1 70 2 := (g.1 70 2 (by omega) (by omega) (by omega)).trans (wa 70 2 (by omega))
  have m15 : m1.1 15 = hM.1 15 := funext fun k => g2.1 15 k (by omega) (by omega) (by omega) (by omega)
  have onC : ∀ mk : Nat → Nat → Bool, (∀ k, mk 73 k = false) → (∀ k, mk 67 k = false) → (∀ k, mk 69 k = false) → (∀ k, mk 43 k = false) → (∀ k, mk 51 k = false) → eqOn mk hC c1 := fun mk h1 h2 h3 h4 h5 => eqOn_tr (onW mk h1) (gC.on ht g h2 h3 h4 h5)
  have old : ∀ k, k / 3 ≠ d % 100 → hW.1 73 k = hC.1 73 k := fun k hk => by rw [w73 k, if_neg (by omega), if_neg (by omega), if_neg (by omega)]
  refine ⟨Q1_e (onC _ (fun _ => rfl) (fun _ => rfl) (fun _ => rfl) (fun _ => rfl) (fun _ => rfl)) (gM.on g2 (fun _ => rfl) (fun _ => rfl) (fun _ => rfl) (ezz rfl rfl rfl rfl rfl rfl rfl rfl)) R0, Q2_e (onC _ (fun _ => rfl) (fun _ => rfl) (fun _ => rfl) (fun _ => rfl) (fun _ => rfl)) (gM.on g2 (fun _ => rfl) (fun _ => rfl) (fun _ => rfl) (ezz rfl rfl rfl rfl rfl rfl rfl rfl)) R2, Q3_e (onC _ (fun _ => rfl) (fun _ => rfl) (fun _ => rfl) (fun _ => rfl) (fun _ => rfl)) (gM.on g2 (fun _ => rfl) (fun _ => rfl) (fun _ => rfl) (ezz rfl rfl rfl rfl rfl rfl rfl rfl)) R3, g2.2.2.2 R4, Q5_e (onC _ (fun _ => rfl) (fun _ => rfl) (fun _ => rfl) (fun _ => rfl) (fun _ => rfl)) (gM.on g2 (fun _ => rfl) (fun _ => rfl) (fun _ => rfl) (ezz rfl rfl rfl rfl rfl rfl rfl rfl)) R5, ⟨s', ?_, ?_⟩, ?_, rImage_mono hK (Q8_e (onC _ (fun _ => rfl) (fun _ => rfl) (fun _ => rfl) (fun _ => rfl) (fun _ => rfl)) (gM.on g2 (fun _ => rfl) (fun _ => rfl) (fun _ => rfl) (ezz rfl rfl rfl rfl rfl rfl rfl rfl)) R8), Q9_e (onC _ (fun _ => rfl) (fun _ => rfl) (fun _ => rfl) (fun _ => rfl) (fun _ => rfl)) (gM.on g2 (fun _ => rfl) (fun _ => rfl) (fun _ => rfl) (ezz rfl rfl rfl rfl rfl rfl rfl rfl)) R9, Q10_e (onC _ (fun _ => rfl) (fun _ => rfl) (fun _ => rfl) (fun _ => rfl) (fun _ => rfl)) (gM.on g2 (fun _ => rfl) (fun _ => rfl) (fun _ => rfl) (ezz rfl rfl rfl rfl rfl rfl rfl rfl)) R10, dXt_e (onC _ (fun _ => rfl) (fun _ => rfl) (fun _ => rfl) (fun _ => rfl) (fun _ => rfl)) R11⟩
  · rw [c32, c4]
    rw [w32, w4] at sw'
    exact sW_mono hK sw'
  · rw [c73]
    refine ⟨by rw [n28, n6']; omega, fun i u hi hu => ?_⟩
    rw [n28] at hi
    have i1 : i < min 60 (d + 1) := by omega
    have x1 : (m1.1 11 28).toInt.toNat - 1 - i = min 59 d - i := by rw [n28]; omega
    have x2 : (c1.1 67 6).toInt.toNat - 1 - i = d - i := by rw [n6']; omega
    rw [x1, x2, nl _ u hu (by omega)]
    by_cases q : i = 0
    · rw [if_pos (by omega), q, Nat.sub_zero, w73]
      rcases (show u = 0 ∨ u = 1 ∨ u = 2 by omega) with rfl | rfl | rfl
      · rw [if_pos rfl, if_pos (by omega)]
        exact R6.1.2.1.symm
      · rw [if_neg (by omega), if_pos rfl, if_neg (by omega), if_pos (by omega)]
        exact R6.1.2.2.2.1.symm
      · rw [if_neg (by omega), if_neg (by omega), if_neg (by omega), if_neg (by omega), if_pos (by omega)]
        unfold tmM
        rw [C.np]
        refine tm_c _ _ _ (fun i _ hi2 => ?_)
        have := C.nat
        obtain ⟨y1, y2, y3⟩ := R6.1.2.2.2.2.2.2.2 i (by omega)
        exact ⟨y2.symm, y3.symm⟩
    · rw [if_neg (by omega), old _ (by omega)]
      have o := R6.2.2.2 (i - 1) u (by rw [hc]; omega) hu
      rw [hc, hd] at o
      refine Eq.trans (ixe _ ?_) (o.trans (ixe _ ?_))
      · split <;> omega
      · have : d - 1 - (i - 1) = d - i := by omega
        show ((d : Int).toNat - 1 - (i - 1)) % 100 * 3 + u = _
        rw [Int.toNat_natCast, this]
  · obtain ⟨a1, a2, a3, a4, a5⟩ := R7
    have a21 := a2.1
    have a22 := a2.2
    have dn := dI_c a21
    have ch : ∀ k : Nat, (k : Int) < (hC.1 70 0).toInt → (d : Int) - k ≤ (uC (hC.1 71) (uSlot (dI (hC.1 70 0)) (dI (hC.1 70 2)) (dI (hC.1 70 0) - 1 - k)) 6).toInt ∧ (uC (hC.1 71) (uSlot (dI (hC.1 70 0)) (dI (hC.1 70 2)) (dI (hC.1 70 0) - 1 - k)) 6).toInt ≤ d := by
      intro k
      induction k with
      | zero =>
        intro _
        rw [Nat.sub_zero, pt, hd]
        omega
      | succ k ih =>
        intro hk
        have i0 := ih (by omega)
        have z := a5 (dI (hC.1 70 0) - 1 - (k + 1)) (by omega) _ rfl
        rw [if_neg (by omega), show dI (hC.1 70 0) - 1 - (k + 1) + 1 = dI (hC.1 70 0) - 1 - k by omega] at z
        omega
    rw [c32, c4, c73, c71, c700, c702, g2.2.1 35 (by omega), m15]
    refine ⟨a1, a2, a3, fun i hi => ?_, fun i hi e he => ?_⟩
    · obtain ⟨b1, b2, b3⟩ := a4 i hi
      have di := ch (dI (hC.1 70 0) - 1 - i) (by omega)
      rw [show dI (hC.1 70 0) - 1 - (dI (hC.1 70 0) - 1 - i) = i by omega] at di
      refine ⟨b1, sW_mono hK b2, b3.1, fun j u hj hu => ?_⟩
      have g0 := b3.1
      rw [b3.2 j u hj hu, old]
      omega
    · by_cases q : i + 1 = dI (hC.1 70 0)
      · rw [if_pos q] at he
        have z := a5 i hi _ rfl
        rw [if_pos q] at z
        rw [he, n6']
        rw [show i = dI (hC.1 70 0) - 1 by omega, pt, hd]
        omega
      · rw [if_neg q] at he
        refine a5 i hi e ?_
        rw [if_neg q]
        exact he
/-- what can be done -/
theorem cwB_c (C : Ct hC hM) {f ho ti : Int32} (hf : Pl' hC f) (e : ∀ a k, a ≤ 21 → hC'.1 a k = hC.1 a k) : cwB hC' f ho ti x = cwB hC f ho ti x := by
  have a := hf.add C
  have f1 := hf.1
  have f2 := hf.2
  have c := C.le
  unfold cwB wF
  rw [e 3 2 (by omega), e 4 0 (by omega), e 4 1 (by omega), e _ _ (by omega)]
theorem C_can0 (C : Ct hC hM) (hat : Pl' hC (hC.1 (t + 1) 0)) : f_X8_canDo t 0 x hC = some (cwB hC (hC.1 (t + 1) 0) (hC.1 (t + 1) 1) (hC.1 (t + 1) 2) x) := by
  unfold f_X8_canDo
  rw [if_pos rfl, C_couldWalk C t hat]
  rfl
theorem C_can1 : f_X8_canDo t 1 x hC = some (decide (0 < (hC.1 (t + 1) 2).toInt ∧ (hC.1 (t + 1) 1).toInt < (hC.1 4 1).toInt)) := by
  unfold f_X8_canDo
  rw [if_neg (by decide), if_pos rfl]
  by_cases a : 0 < hC.1 (t + 1) 2
  · rw [if_pos a]
    rw [i_lt, t0] at a
    by_cases b : hC.1 (t + 1) 1 < hC.1 4 1
    · rw [if_pos b]
      rw [i_lt] at b
      rw [decide_eq_true ⟨a, b⟩]
    · rw [if_neg b]
      rw [i_lt] at b
      rw [decide_eq_false (fun z => b z.2)]
  · rw [if_neg a]
    rw [i_lt, t0] at a
    rw [decide_eq_false (fun z => a z.1)]
theorem M_canRest (C : Ct hC hM) (s : sR (hC.1 (t + 1)) (hM.1 w)) : f_X12_canRest w hM = decide (0 < (hC.1 (t + 1) 2).toInt ∧ (hC.1 (t + 1) 1).toInt < (hC.1 4 1).toInt) := by
  unfold f_X12_canRest
  rw [← s.2.1, ← s.2.2.1, ← C.2.2.1 1 (by omega)]
  by_cases a : 0 < hC.1 (t + 1) 2
  · rw [if_pos a]
    rw [i_lt, t0] at a
    by_cases b : hC.1 (t + 1) 1 < hC.1 4 1
    · rw [if_pos b]
      rw [i_lt] at b
      rw [decide_eq_true ⟨a, b⟩]
    · rw [if_neg b]
      rw [i_lt] at b
      rw [decide_eq_false (fun z => b z.2)]
  · rw [if_neg a]
    rw [i_lt, t0] at a
    rw [decide_eq_false (fun z => a z.1)]
def rsB (h : dH) (se x : Int32) : Bool := if 0 ≤ x.toInt ∧ x.toInt < (h.1 3 2).toInt then f_X11_isIn se x h else false
theorem C_can2 : f_X8_canDo t 2 x hC = some (rsB hC (hC.1 (t + 1) 5) x) := by
  unfold f_X8_canDo rsB
  rw [if_neg (by decide), if_neg (by decide), if_pos rfl]
  by_cases hx : Pl hC x
  · rw [C_pl hx, if_pos rfl, if_pos hx]
    cases f_X11_isIn (hC.1 (t + 1) 5) x hC <;> rfl
  · rw [C_npl hx, if_neg (by decide), if_neg hx]
theorem M_canRestore (C : Ct hC hM) (s : sR (hC.1 (t + 1)) (hM.1 w)) : f_X12_canRestore w x hM = rsB hC (hC.1 (t + 1) 5) x := by
  unfold f_X12_canRestore rsB
  by_cases hx : Pl hC x
  · rw [M_pl C hx, if_pos rfl, if_pos hx, ← s.2.2.2.2.2.1, has_isIn _ _ hM hC]
    cases f_X11_isIn (hC.1 (t + 1) 5) x hC <;> rfl
  · rw [M_npl C hx, if_neg (by decide), if_neg hx]
theorem rsB_pl {se : Int32} (h : rsB hC se x = true) : Pl hC x := by
  unfold rsB at h
  by_cases hx : 0 ≤ x.toInt ∧ x.toInt < (hC.1 3 2).toInt
  · exact hx
  · rw [if_neg hx] at h; cases h
theorem C_can3 : f_X8_canDo t 3 x hC = some (decide (0 < (hC.1 3 2).toInt ∧ (hC.1 (t + 1) 6).toInt < 999)) := by
  have k999 : (999 : Int32).toInt = 999 := rfl
  unfold f_X8_canDo
  rw [if_neg (by decide), if_neg (by decide), if_neg (by decide), if_pos rfl, C_isThere]
  by_cases a : 0 < (hC.1 3 2).toInt
  · rw [if_pos (decide_eq_true a)]
    by_cases b : hC.1 (t + 1) 6 < 999
    · rw [if_pos b]
      rw [i_lt, k999] at b
      rw [decide_eq_true ⟨a, b⟩]
    · rw [if_neg b]
      rw [i_lt, k999] at b
      rw [decide_eq_false (fun z => b z.2)]
  · rw [if_neg (by rw [decide_eq_true_iff]; exact a), decide_eq_false (fun z => a z.1)]
theorem C_can9 (h0 : x ≠ 0) (h1 : x ≠ 1) (h2 : x ≠ 2) (h3 : x ≠ 3) {y : Int32} : f_X8_canDo t x y hC = some false := by
  unfold f_X8_canDo
  rw [if_neg h0, if_neg h1, if_neg h2, if_neg h3]
end AC
