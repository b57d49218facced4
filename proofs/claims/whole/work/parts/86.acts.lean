/-! PURE: the steps of a day, side by side -/
def tw (t w : Nat) : Prop := (t = 66 ∧ w = 11) ∨ (t = 68 ∧ w = 12)
theorem tw.t {t w : Nat} (h : tw t w) : t = 66 ∨ t = 68 := by rcases h with ⟨a, _⟩ | ⟨a, _⟩ <;> omega
theorem tw.w {t w : Nat} (h : tw t w) : w = 11 ∨ w = 12 := by rcases h with ⟨_, a⟩ | ⟨_, a⟩ <;> omega
def gC (t : Nat) (h h' : dH) : Prop := (∀ a k, a ≠ t + 1 → a ≠ 43 → a ≠ 51 → h'.1 a k = h.1 a k) ∧ h'.2 = h.2
def gM (w : Nat) (h h' : dH) : Prop := (∀ a k, a ≠ w → a ≠ 0 → a ≠ 4 → a ≠ 14 → h'.1 a k = h.1 a k) ∧ (∀ k, k < 8 ∨ 14 < k ∧ k ≠ 17 → h'.1 0 k = h.1 0 k) ∧ (∀ a, a ≠ 13 → h'.2.1 a = h.2.1 a) ∧ (mOK h → mOK h')
theorem gC_rf (t : Nat) (h : dH) : gC t h h := ⟨fun _ _ _ _ _ => rfl, rfl⟩
theorem gM_rf (w : Nat) (h : dH) : gM w h h := ⟨fun _ _ _ _ _ _ => rfl, fun _ _ => rfl, fun _ _ => rfl, id⟩
theorem gC_tr {t : Nat} {h h2 h3 : dH} (a : gC t h h2) (b : gC t h2 h3) : gC t h h3 := ⟨fun x k h1 h2 h3 => (b.1 x k h1 h2 h3).trans (a.1 x k h1 h2 h3), b.2.trans a.2⟩
theorem gM_tr {w : Nat} {h h2 h3 : dH} (a : gM w h h2) (b : gM w h2 h3) : gM w h h3 := ⟨fun x k h1 h2 h3 h4 => (b.1 x k h1 h2 h3 h4).trans (a.1 x k h1 h2 h3 h4), fun k hk => (b.2.1 k hk).trans (a.2.1 k hk), fun x hx => (b.2.2.1 x hx).trans (a.2.2.1 x hx), fun z => b.2.2.2 (a.2.2.2 z)⟩
theorem fC.g {h h' : dH} (f : fC h h') (t : Nat) : gC t h h' := ⟨fun a k _ h2 h3 => f.1 a k h2 h3, f.2⟩
theorem fM.g {h h' : dH} (f : fM h h') (w : Nat) : gM w h h' := ⟨fun a k _ h2 h3 h4 => f.1 a k h2 h3 h4, f.2.1, f.2.2.1, f.2.2.2⟩
theorem gC_put (t : Nat) (h : dH) (k : Nat) (v : Int32) : gC t h (dPut h (t + 1) k v) := ⟨fun a j h1 _ _ => dPut_ne (fun z => h1 z.1), rfl⟩
theorem kM4_w {w k : Nat} (hw : w = 11 ∨ w = 12) : kM4 w k = false := by rcases hw with rfl | rfl <;> rfl
/-- off its own row -/
theorem gM_row {w : Nat} (hw : w = 11 ∨ w = 12) {h h' : dH} (e : ∀ a k, a ≠ w → h'.1 a k = h.1 a k) (e2 : h'.2 = h.2) : gM w h h' :=
  ⟨fun a k h1 _ _ _ => e a k h1, fun k _ => e 0 k (by omega), fun a _ => by rw [e2], fun m => mOK_e (fun a k hk => e a k (fun z => by rw [z, kM4_w hw] at hk; cases hk)) (by rw [e2]) m⟩
theorem gM_put {w : Nat} (hw : w = 11 ∨ w = 12) (h : dH) (k : Nat) (v : Int32) : gM w h (dPut h w k v) := gM_row hw (fun a j h1 => dPut_ne (fun z => h1 z.1)) rfl
theorem ezz {mk : Nat → Nat → Bool} (h8 : mk 0 8 = false) (h9 : mk 0 9 = false) (h10 : mk 0 10 = false) (h11 : mk 0 11 = false) (h12 : mk 0 12 = false) (h13 : mk 0 13 = false) (h14 : mk 0 14 = false) (h17 : mk 0 17 = false) : ∀ k, ¬ (k < 8 ∨ 14 < k ∧ k ≠ 17) → mk 0 k = false := fun k hk => by
  rcases (show k = 8 ∨ k = 9 ∨ k = 10 ∨ k = 11 ∨ k = 12 ∨ k = 13 ∨ k = 14 ∨ k = 17 by omega) with rfl | rfl | rfl | rfl | rfl | rfl | rfl | rfl <;> assumption
theorem gC.on {t : Nat} {h h' : dH} (ht : t = 66 ∨ t = 68) (f : gC t h h') {mk : Nat → Nat → Bool} (e0 : ∀ k, mk 67 k = false) (e3 : ∀ k, mk 69 k = false) (e1 : ∀ k, mk 43 k = false) (e2 : ∀ k, mk 51 k = false) : eqOn mk h h' := fun a k hk => f.1 a k (fun z => by
    rcases ht with rfl | rfl
    · rw [z] at hk; have := hk.symm.trans (e0 k); cases this
    · rw [z] at hk; have := hk.symm.trans (e3 k); cases this) (fun z => by rw [z, e1] at hk; cases hk) (fun z => by rw [z, e2] at hk; cases hk)
theorem gM.on {w : Nat} {h h' : dH} (f : gM w h h') {mk : Nat → Nat → Bool} (e0 : ∀ k, mk w k = false) (e4 : ∀ k, mk 4 k = false) (e14 : ∀ k, mk 14 k = false) (ez : ∀ k, ¬ (k < 8 ∨ 14 < k ∧ k ≠ 17) → mk 0 k = false) : eqOn mk h h' := fun a k hk => by
  by_cases a0 : a = 0
  · rw [a0] at hk ⊢
    by_cases q : k < 8 ∨ 14 < k ∧ k ≠ 17
    · exact f.2.1 k q
    · rw [ez k q] at hk; cases hk
  · exact f.1 a k (fun z => by rw [z, e0] at hk; cases hk) a0 (fun z => by rw [z, e4] at hk; cases hk) (fun z => by rw [z, e14] at hk; cases hk)
theorem i_half {a : Int32} (h : 0 ≤ a.toInt) : (a / 2).toInt = a.toInt / 2 := by
  rw [Int32.toInt_div_of_ne_right a 2 (by decide), show (2 : Int32).toInt = 2 from rfl, Int.tdiv_eq_ediv_of_nonneg h]
section ACT
variable {K K' : Int} {t w : Nat} {hC hM hC' hM' : dH} {x : Int32}
def ST (K : Int) (t w : Nat) (hC hM : dH) : Prop := Ct hC hM ∧ Q3 hC hM ∧ mOK hM ∧ sR (hC.1 (t + 1)) (hM.1 w) ∧ sW (hC.1 3 2) (hC.1 4) K (hC.1 (t + 1)) ∧ Pl' hC (hC.1 (t + 1) 0) ∧ bt 0 60 (hM.1 w 28)
/-- what a step leaves -/
def SN (K : Int) (t w : Nat) (hC hM hC' hM' : dH) : Prop := gC t hC hC' ∧ gM w hM hM' ∧ sR (hC'.1 (t + 1)) (hM'.1 w) ∧ sW (hC.1 3 2) (hC.1 4) K (hC'.1 (t + 1)) ∧ Pl' hC (hC'.1 (t + 1) 0) ∧ bt 0 60 (hM'.1 w 28)
theorem gC.ct (ht : t = 66 ∨ t = 68) (g : gC t hC hC') (C : Ct hC hM) : Ct hC' hM := Ct_C C (fun a k ha => g.1 a k (by omega) (by omega) (by omega))
theorem gM.ct (hw : w = 11 ∨ w = 12) (g : gM w hM hM') (C : Ct hC hM) : Ct hC hM' := Ct_M C (fun k => g.1 7 k (by omega) (by omega) (by omega) (by omega)) (fun k => g.1 5 k (by omega) (by omega) (by omega) (by omega)) (g.2.1 24 (by omega))
theorem kM3_w {k : Nat} (hw : w = 11 ∨ w = 12) : kM3 w k = false := by rcases hw with rfl | rfl <;> rfl
theorem Q3_g (h : tw t w) (g : gC t hC hC') (g2 : gM w hM hM') (L : Q3 hC hM) : Q3 hC' hM' := Q3_e (gC.on h.t g (fun _ => rfl) (fun _ => rfl) (fun _ => rfl) (fun _ => rfl)) (gM.on g2 (fun _ => kM3_w h.w) (fun _ => rfl) (fun _ => rfl) (ezz rfl rfl rfl rfl rfl rfl rfl rfl)) L
theorem gC.r4 (ht : t = 66 ∨ t = 68) (g : gC t hC hC') : hC'.1 4 = hC.1 4 := funext fun k => g.1 4 k (by omega) (by omega) (by omega)
theorem gC.r32 (ht : t = 66 ∨ t = 68) (g : gC t hC hC') : hC'.1 3 2 = hC.1 3 2 := g.1 3 2 (by omega) (by omega) (by omega)
theorem SN.st (h : tw t w) (S : ST K t w hC hM) (N : SN K' t w hC hM hC' hM') : ST K' t w hC' hM' := by
  obtain ⟨C, L3, mo, s, sw, hat, lg⟩ := S
  obtain ⟨g, g2, s', sw', hat', lg'⟩ := N
  refine ⟨g.ct h.t (g2.ct h.w C), Q3_g h g g2 L3, g2.2.2.2 mo, s', ?_, ?_, lg'⟩
  · rw [g.r32 h.t, g.r4 h.t]; exact sw'
  · show -1 ≤ (hC'.1 (t + 1) 0).toInt ∧ (hC'.1 (t + 1) 0).toInt < (hC'.1 3 2).toInt
    rw [g.r32 h.t]
    exact hat'
/-- he walks -/
theorem R_walk (h : tw t w) (S : ST K t w hC hM) (hK : 0 ≤ K ∧ K ≤ 50000) (b : cwB hC (hC.1 (t + 1) 0) (hC.1 (t + 1) 1) (hC.1 (t + 1) 2) x = true) :
    ∃ (v : Int32) (hC' hM' : dH), f_X8_comeTo t x hC = some (v, hC') ∧ f_X12_walks w x (hM.1 5 2) hM = some (v, hM') ∧ bt 0 30 v ∧ SN (K + 1) t w hC hM hC' hM' ∧ hC'.1 (t + 1) 6 = hC.1 (t + 1) 6 ∧ (∀ k, 28 ≤ k → hM'.1 w k = hM.1 w k) := by
  obtain ⟨C, L3, mo, s, sw, hat, lg⟩ := S
  obtain ⟨hx, hxf, b1, b2⟩ := cwB_true b
  have hn := hx.nat C
  have hp := hn.2
  have ht := h.t
  have hw := h.w
  obtain ⟨s0, s1, s2, s3, s4, s5, s6, s7⟩ := s
  obtain ⟨w0, w1, w2, w3, w4, w6, w7⟩ := sw
  obtain ⟨q1, q2, q3⟩ := s7 (dI x) hp
  obtain ⟨p1, p2, p3, p4⟩ := w7 (dI x) hp
  have hat' : Pl' hC (hM.1 w 23 - 1) := by rw [s0]; exact hat
  have wf := wF_bt C hat hx.p'
  have wf1 := wf.1
  have wf2 := wf.2
  have r02 := C.2.1.2.1.2
  have r12 := C.2.1.2.2.1.2
  have p31 := p3.1
  have p32 := p3.2
  have p21 := p2.1
  have p22 := p2.2
  have w31 := w3.1
  have w32 := w3.2
  have w41 := w4.1
  have w42 := w4.2
  have x0 := hx.1
  have x1 := hx.2
  have e1 : (hC.1 (t + 1) 1 + wF hC (hC.1 (t + 1) 0) x).toInt = (hC.1 (t + 1) 1).toInt + (wF hC (hC.1 (t + 1) 0) x).toInt := i_add (by omega)
  have e2 : (hC.1 (t + 1) 2 + wF hC (hC.1 (t + 1) 0) x).toInt = (hC.1 (t + 1) 2).toInt + (wF hC (hC.1 (t + 1) 0) x).toInt := i_add (by omega)
  have ew : (wF hC (hC.1 (t + 1) 0) x + 1).toInt = (wF hC (hC.1 (t + 1) 0) x).toInt + 1 := i_add1 (by omega)
  have e3 : (hC.1 (t + 1) 1 + (wF hC (hC.1 (t + 1) 0) x + 1)).toInt = (hC.1 (t + 1) 1).toInt + (wF hC (hC.1 (t + 1) 0) x).toInt + 1 := by rw [i_add (by rw [ew]; omega), ew]; omega
  rw [i_lt, e2] at b1
  rw [i_lt, i_add1 (by rw [e1]; omega), e1] at b2
  have cty := C.2.1.2.2.2.2 (dI x) (by rw [hn.1]; exact hx.2)
  rw [cSp_at hn.2, cSp_at hn.2, cSp_at hn.2, cSp_at hn.2, cSp_at hn.2] at cty
  have v1 := cty.2.2.2.1.1
  have v2 := cty.2.2.2.1.2
  have e4 : (hC.1 (t + 1) 3 + hC.1 (6 + dI x) 3).toInt = (hC.1 (t + 1) 3).toInt + (hC.1 (6 + dI x) 3).toInt := i_add (by omega)
  have e5 : (hC.1 (t + 1) 4 + hC.1 (6 + dI x) 3).toInt = (hC.1 (t + 1) 4).toInt + (hC.1 (6 + dI x) 3).toInt := i_add (by omega)
  obtain ⟨v, C1, M1, a1, a2, a3, a4, a5⟩ := R_trouble C L3 mo hx t w ⟨ht, hw⟩ q1 q3 hat' (ho := hC.1 (t + 1) 1 + wF hC (hC.1 (t + 1) 0) x) (ti := hC.1 (t + 1) 2 + wF hC (hC.1 (t + 1) 0) x) (sm := 0) (by rw [s0, s1]) (by rw [s0, s2]) ⟨by omega, by omega⟩ ⟨by omega, by omega⟩ ⟨by omega, by omega⟩ ⟨by omega, by omega⟩ ⟨by decide, by decide⟩
  rw [Int32.add_zero, C.2.2.1 2 (by omega)] at a2
  have a31 := a3.1
  have a32 := a3.2
  have e6 : (hC.1 (t + 1) (14 + dI x) + v).toInt = (hC.1 (t + 1) (14 + dI x)).toInt + v.toInt := i_add (by omega)
  have e7 : (hC.1 (t + 1) (7 + dI x) + 1).toInt = (hC.1 (t + 1) (7 + dI x)).toInt + 1 := i_add1 (by omega)
  obtain ⟨M2, m0, m22, m21, m23, m24, m25, m26, mt, mv, mk, mo2, mh⟩ := M_walks C hx w hw hat' a2 a5
  obtain ⟨C2, c0, c2, c1, cz, c3, c4, c5, cT, cv, ck, co2, ch⟩ := C_comeTo C hx t ht hat a1 a4
  refine ⟨v, C2, M2, c0, m0, a3, ⟨?_, ?_, ?_, ?_, ?_, ?_⟩, ck 6 (by omega) (by omega) (by omega), fun k hk => mk k (by omega) (by omega) (by omega)⟩
  · exact ⟨fun a k h1 h2 h3 => (co2 a k h1).trans (a4.1 a k h2 h3), ch.trans a4.2⟩
  · exact gM_tr (a5.g w) (gM_row hw mo2 mh)
  · refine ⟨by rw [m23, cz, Int32.add_sub_cancel], by rw [c1, m21, s0, s1], by rw [c2, m22, s0, s2], by rw [c3, m24, q1, s3], by rw [c4, m25, q1, s4], by rw [c5, m26, s5], by rw [ck 6 (by omega) (by omega) (by omega), mk 27 (by omega) (by omega) (by omega), s6], fun p hp7 => ?_⟩
    by_cases hpx : p = dI x
    · rw [hpx]
      exact ⟨by rw [cv, mv, q1], by rw [cT, mt, q2], by rw [ck (21 + dI x) (by omega) (by omega) (by omega), mk (3 * dI x + 1) (by omega) (by omega) (by omega), q3]⟩
    · obtain ⟨z1, z2, z3⟩ := s7 p hp7
      exact ⟨by rw [ck (7 + p) (by omega) (by omega) (by omega), mk (3 * p + 2) (by omega) (by omega) (by omega), z1], by rw [ck (14 + p) (by omega) (by omega) (by omega), mk (3 * p) (by omega) (by omega) (by omega), z2], by rw [ck (21 + p) (by omega) (by omega) (by omega), mk (3 * p + 1) (by omega) (by omega) (by omega), z3]⟩
  · refine ⟨Or.inl (by rw [cz]; omega), by rw [c1, e3]; omega, by rw [c2, e2]; omega, ?_, ?_, by rw [ck 6 (by omega) (by omega) (by omega)]; exact w6, fun p hp7 => ?_⟩
    · rw [c3]
      split
      · exact ⟨by rw [e4]; omega, by rw [e4]; omega⟩
      · exact ⟨by omega, by omega⟩
    · rw [c4]
      split
      · exact ⟨by rw [e5]; omega, by rw [e5]; omega⟩
      · exact ⟨by omega, by omega⟩
    · rw [c1, e3]
      by_cases hpx : p = dI x
      · rw [hpx, cv, cT, e7, ck (21 + dI x) (by omega) (by omega) (by omega)]
        exact ⟨by omega, ⟨by rw [e6]; omega, by rw [e6]; omega⟩, p3, fun z => by omega⟩
      · obtain ⟨z1, z2, z3, z4⟩ := w7 p hp7
        have z21 := z2.1
        have z22 := z2.2
        rw [ck (7 + p) (by omega) (by omega) (by omega), ck (14 + p) (by omega) (by omega) (by omega), ck (21 + p) (by omega) (by omega) (by omega)]
        exact ⟨by omega, ⟨by omega, by omega⟩, z3, z4⟩
  · show -1 ≤ (C2.1 (t + 1) 0).toInt ∧ (C2.1 (t + 1) 0).toInt < (hC.1 3 2).toInt
    rw [cz]; omega
  · rw [mk 28 (by omega) (by omega) (by omega)]; exact lg
/-- he reads -/
theorem R_read (h : tw t w) (S : ST K t w hC hM) (b1 : 0 < (hC.1 (t + 1) 2).toInt) (b2 : (hC.1 (t + 1) 1).toInt < (hC.1 4 1).toInt) :
    ∃ (v : Int32) (hC' hM' : dH), f_X8_readOnLedge t hC = some (v, hC') ∧ f_X12_sitsDown w hM = some hM' ∧ v = hM'.1 w 22 ∧ 0 ≤ v.toInt ∧ SN K t w hC hM hC' hM' ∧ hC'.1 (t + 1) 6 = hC.1 (t + 1) 6 ∧ (∀ k, 28 ≤ k → hM'.1 w k = hM.1 w k) := by
  obtain ⟨C, L3, mo, s, sw, hat, lg⟩ := S
  have ht := h.t
  have hw := h.w
  obtain ⟨s0, s1, s2, s3, s4, s5, s6, s7⟩ := s
  obtain ⟨w0, w1, w2, w3, w4, w6, w7⟩ := sw
  have r12 := C.2.1.2.2.1.2
  have r02 := C.2.1.2.1.2
  have e1 : (hC.1 (t + 1) 1 + 1).toInt = (hC.1 (t + 1) 1).toInt + 1 := i_add1 (by omega)
  have k3 : (3 : Int32).toInt = 3 := rfl
  have e2 : (jmax 0 (hC.1 (t + 1) 2 - 3)).toInt = max 0 ((hC.1 (t + 1) 2).toInt - 3) := by rw [i_jmax, t0, i_sub (by rw [k3]; omega), k3]
  unfold f_X8_readOnLedge f_X12_sitsDown
  rw [Option.bind_some, Option.bind_some, dPut_at]
  have ec : (dPut hC (t + 1) 1 (hC.1 (t + 1) 1 + 1)).1 (t + 1) 2 = hC.1 (t + 1) 2 := dPut_ne (by omega)
  have em : (dPut hM w 21 (hM.1 w 21 + 1)).1 w 22 = hM.1 w 22 := dPut_ne (by omega)
  rw [ec, em]
  have c2 : (dPut (dPut hC (t + 1) 1 (hC.1 (t + 1) 1 + 1)) (t + 1) 2 (jmax 0 (hC.1 (t + 1) 2 - 3))).1 (t + 1) 2 = jmax 0 (hC.1 (t + 1) 2 - 3) := dPut_at
  have c1 : (dPut (dPut hC (t + 1) 1 (hC.1 (t + 1) 1 + 1)) (t + 1) 2 (jmax 0 (hC.1 (t + 1) 2 - 3))).1 (t + 1) 1 = hC.1 (t + 1) 1 + 1 := by rw [dPut_ne (by omega), dPut_at]
  have ck : ∀ k, k ≠ 1 → k ≠ 2 → (dPut (dPut hC (t + 1) 1 (hC.1 (t + 1) 1 + 1)) (t + 1) 2 (jmax 0 (hC.1 (t + 1) 2 - 3))).1 (t + 1) k = hC.1 (t + 1) k := fun k h1 h2 => by rw [dPut_ne (by omega), dPut_ne (by omega)]
  have m2 : (dPut (dPut hM w 21 (hM.1 w 21 + 1)) w 22 (jmax 0 (hM.1 w 22 - 3))).1 w 22 = jmax 0 (hM.1 w 22 - 3) := dPut_at
  have m1 : (dPut (dPut hM w 21 (hM.1 w 21 + 1)) w 22 (jmax 0 (hM.1 w 22 - 3))).1 w 21 = hM.1 w 21 + 1 := by rw [dPut_ne (by omega), dPut_at]
  have mk : ∀ k, k ≠ 21 → k ≠ 22 → (dPut (dPut hM w 21 (hM.1 w 21 + 1)) w 22 (jmax 0 (hM.1 w 22 - 3))).1 w k = hM.1 w k := fun k h1 h2 => by rw [dPut_ne (by omega), dPut_ne (by omega)]
  have gc := gC_tr (gC_put t hC 1 (hC.1 (t + 1) 1 + 1)) (gC_put t _ 2 (jmax 0 (hC.1 (t + 1) 2 - 3)))
  have gm := gM_tr (gM_put hw hM 21 (hM.1 w 21 + 1)) (gM_put hw _ 22 (jmax 0 (hM.1 w 22 - 3)))
  refine ⟨_, _, _, rfl, rfl, by rw [m2, s2], by rw [e2]; omega, ⟨gc, gm, ?_, ?_, ?_, ?_⟩, ck 6 (by omega) (by omega), fun k hk => mk k (by omega) (by omega)⟩
  · refine ⟨by rw [mk 23 (by omega) (by omega), ck 0 (by omega) (by omega), s0], by rw [c1, m1, s1], by rw [c2, m2, s2], by rw [ck 3 (by omega) (by omega), mk 24 (by omega) (by omega), s3], by rw [ck 4 (by omega) (by omega), mk 25 (by omega) (by omega), s4], by rw [ck 5 (by omega) (by omega), mk 26 (by omega) (by omega), s5], by rw [ck 6 (by omega) (by omega), mk 27 (by omega) (by omega), s6], fun p hp7 => ?_⟩
    rw [ck (7 + p) (by omega) (by omega), ck (14 + p) (by omega) (by omega), ck (21 + p) (by omega) (by omega), mk (3 * p + 2) (by omega) (by omega), mk (3 * p) (by omega) (by omega), mk (3 * p + 1) (by omega) (by omega)]
    exact s7 p hp7
  · refine ⟨by rw [ck 0 (by omega) (by omega)]; exact w0, by rw [c1, e1]; omega, by rw [c2, e2]; omega, by rw [ck 3 (by omega) (by omega)]; exact w3, by rw [ck 4 (by omega) (by omega)]; exact w4, by rw [ck 6 (by omega) (by omega)]; exact w6, fun p hp7 => ?_⟩
    obtain ⟨z1, z2, z3, z4⟩ := w7 p hp7
    rw [c1, e1, ck (7 + p) (by omega) (by omega), ck (14 + p) (by omega) (by omega), ck (21 + p) (by omega) (by omega)]
    exact ⟨by omega, z2, z3, z4⟩
  · show -1 ≤ _ ∧ _
    rw [ck 0 (by omega) (by omega)]; exact hat
  · rw [mk 28 (by omega) (by omega)]; exact lg
/-- a secret is put back -/
theorem R_putBack (h : tw t w) (S : ST K t w hC hM) (hx : Pl hC x) :
    ∃ (v : Int32) (hC' hM' : dH), f_X8_putBack t x hC = some (v, hC') ∧ f_X12_restores w x hM = some hM' ∧ v = hM'.1 w (3 * dI x) ∧ 0 ≤ v.toInt ∧ SN K t w hC hM hC' hM' ∧ hC'.1 (t + 1) 6 = hC.1 (t + 1) 6 ∧ (∀ k, 28 ≤ k → hM'.1 w k = hM.1 w k) := by
  obtain ⟨C, L3, mo, s, sw, hat, lg⟩ := S
  have ht := h.t
  have hw := h.w
  have hn := hx.nat C
  have hi := hx.in7 C
  have hp := hn.2
  have x0 := hx.1
  have x1 := hx.2
  obtain ⟨s0, s1, s2, s3, s4, s5, s6, s7⟩ := s
  obtain ⟨w0, w1, w2, w3, w4, w6, w7⟩ := sw
  obtain ⟨q1, q2, q3⟩ := s7 (dI x) hp
  obtain ⟨p1, p2, p3, p4⟩ := w7 (dI x) hp
  have p21 := p2.1
  have p22 := p2.2
  have e1 := i_half p21
  unfold f_X8_putBack f_X12_restores
  rw [C_pl hx, if_pos rfl, Option.bind_some, if_pos (ixk14 hi).2, if_pos (ixk14 hi).2, Option.bind_some, if_pos (ixk14 hi).2, if_pos (ix0 hi).2, if_pos (ix0 hi).2, Option.bind_some, (ixk14 hi).1, (ix0 hi).1]
  generalize ea : hC.1 (t + 1) 5 &&& (1 <<< (x &&& 31) ^^^ -1) = se
  have ec : (dPut hC (t + 1) 5 se).1 (t + 1) (14 + dI x) = hC.1 (t + 1) (14 + dI x) := dPut_ne (by omega)
  have em : (dPut hM w (3 * dI x) (hM.1 w (3 * dI x) / 2)).1 w 26 = hC.1 (t + 1) 5 := by rw [dPut_ne (by omega), s5]
  rw [ec, em, ea, ← q2]
  generalize e2 : hC.1 (t + 1) (14 + dI x) / 2 = tr at e1
  have c2 : (dPut (dPut hC (t + 1) 5 se) (t + 1) (14 + dI x) tr).1 (t + 1) (14 + dI x) = tr := dPut_at
  have c1 : (dPut (dPut hC (t + 1) 5 se) (t + 1) (14 + dI x) tr).1 (t + 1) 5 = se := by rw [dPut_ne (by omega), dPut_at]
  have ck : ∀ k, k ≠ 5 → k ≠ 14 + dI x → (dPut (dPut hC (t + 1) 5 se) (t + 1) (14 + dI x) tr).1 (t + 1) k = hC.1 (t + 1) k := fun k h1 h2 => by rw [dPut_ne (by omega), dPut_ne (by omega)]
  have m2 : (dPut (dPut hM w (3 * dI x) tr) w 26 se).1 w (3 * dI x) = tr := by rw [dPut_ne (by omega), dPut_at]
  have m1 : (dPut (dPut hM w (3 * dI x) tr) w 26 se).1 w 26 = se := dPut_at
  have mk : ∀ k, k ≠ 3 * dI x → k ≠ 26 → (dPut (dPut hM w (3 * dI x) tr) w 26 se).1 w k = hM.1 w k := fun k h1 h2 => by rw [dPut_ne (by omega), dPut_ne (by omega)]
  have gc := gC_tr (gC_put t hC 5 se) (gC_put t _ (14 + dI x) tr)
  have gm := gM_tr (gM_put hw hM (3 * dI x) tr) (gM_put hw _ 26 se)
  refine ⟨_, _, _, rfl, rfl, by rw [c2, m2], by rw [c2]; omega, ⟨gc, gm, ?_, ?_, ?_, ?_⟩, ck 6 (by omega) (by omega), fun k hk => mk k (by omega) (by omega)⟩
  · refine ⟨by rw [mk 23 (by omega) (by omega), ck 0 (by omega) (by omega), s0], by rw [ck 1 (by omega) (by omega), mk 21 (by omega) (by omega), s1], by rw [ck 2 (by omega) (by omega), mk 22 (by omega) (by omega), s2], by rw [ck 3 (by omega) (by omega), mk 24 (by omega) (by omega), s3], by rw [ck 4 (by omega) (by omega), mk 25 (by omega) (by omega), s4], by rw [c1, m1], by rw [ck 6 (by omega) (by omega), mk 27 (by omega) (by omega), s6], fun p hp7 => ?_⟩
    by_cases hpx : p = dI x
    · rw [hpx]
      exact ⟨by rw [ck (7 + dI x) (by omega) (by omega), mk (3 * dI x + 2) (by omega) (by omega), q1], by rw [c2, m2], by rw [ck (21 + dI x) (by omega) (by omega), mk (3 * dI x + 1) (by omega) (by omega), q3]⟩
    · rw [ck (7 + p) (by omega) (by omega), ck (14 + p) (by omega) (by omega), ck (21 + p) (by omega) (by omega), mk (3 * p + 2) (by omega) (by omega), mk (3 * p) (by omega) (by omega), mk (3 * p + 1) (by omega) (by omega)]
      exact s7 p hp7
  · refine ⟨by rw [ck 0 (by omega) (by omega)]; exact w0, by rw [ck 1 (by omega) (by omega)]; exact w1, by rw [ck 2 (by omega) (by omega)]; exact w2, by rw [ck 3 (by omega) (by omega)]; exact w3, by rw [ck 4 (by omega) (by omega)]; exact w4, by rw [ck 6 (by omega) (by omega)]; exact w6, fun p hp7 => ?_⟩
    obtain ⟨z1, z2, z3, z4⟩ := w7 p hp7
    rw [ck 1 (by omega) (by omega), ck (7 + p) (by omega) (by omega), ck (21 + p) (by omega) (by omega)]
    by_cases hpx : p = dI x
    · rw [hpx, c2]
      rw [hpx] at z1
      exact ⟨z1, ⟨by omega, by omega⟩, p3, fun z => by omega⟩
    · rw [ck (14 + p) (by omega) (by omega)]
      exact ⟨z1, z2, z3, z4⟩
  · show -1 ≤ _ ∧ _
    rw [ck 0 (by omega) (by omega)]; exact hat
  · rw [mk 28 (by omega) (by omega)]; exact lg
end ACT
