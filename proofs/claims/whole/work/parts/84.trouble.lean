/-! PURE: how much he troubles a PLACE -/
theorem fC_rf (h : dH) : fC h h := ⟨fun _ _ _ _ => rfl, rfl⟩
theorem fM_rf (h : dH) : fM h h := ⟨fun _ _ _ _ _ => rfl, fun _ _ => rfl, fun _ _ => rfl, id⟩
theorem fC_tr {h h2 h3 : dH} (a : fC h h2) (b : fC h2 h3) : fC h h3 := ⟨fun x k h1 h2 => (b.1 x k h1 h2).trans (a.1 x k h1 h2), b.2.trans a.2⟩
theorem fM_tr {h h2 h3 : dH} (a : fM h h2) (b : fM h2 h3) : fM h h3 := ⟨fun x k h1 h2 h3 => (b.1 x k h1 h2 h3).trans (a.1 x k h1 h2 h3), fun k hk => (b.2.1 k hk).trans (a.2.1 k hk), fun x hx => (b.2.2.1 x hx).trans (a.2.2.1 x hx), fun z => b.2.2.2 (a.2.2.2 z)⟩
theorem fC_43 (h : dH) (k : Nat) (v : Int32) : fC h (dPut h 43 k v) := ⟨fun a j h1 _ => dPut_ne (fun z => h1 z.1), rfl⟩
theorem fM_4 (h : dH) (k : Nat) (v : Int32) : fM h (dPut h 4 k v) := ⟨fun a j _ h2 _ => dPut_ne (fun z => h2 z.1), fun j _ => dPut_ne (by omega), fun _ _ => rfl, mOK_put rfl (by decide)⟩
theorem fC.on {h h' : dH} (f : fC h h') {mk : Nat → Nat → Bool} (e1 : ∀ k, mk 43 k = false) (e2 : ∀ k, mk 51 k = false) : eqOn mk h h' := fun a k hk => f.1 a k (fun z => by rw [z, e1] at hk; cases hk) (fun z => by rw [z, e2] at hk; cases hk)
theorem fC.e {h h' : dH} (f : fC h h') : eC h h' := fun a k hk => f.1 a k (fun z => by rw [z] at hk; cases hk) (fun z => by rw [z] at hk; cases hk)
theorem fM.e {h h' : dH} (f : fM h h') : eM h h' := ⟨fun a k hk => by
    by_cases a0 : a = 0
    · rw [a0] at hk ⊢
      refine f.2.1 k ?_
      by_cases q : k < 8 ∨ 14 < k ∧ k ≠ 17
      · exact q
      · exfalso
        rcases (show k = 8 ∨ k = 9 ∨ k = 10 ∨ k = 11 ∨ k = 12 ∨ k = 13 ∨ k = 14 ∨ k = 17 by omega) with rfl | rfl | rfl | rfl | rfl | rfl | rfl | rfl <;> cases hk
    · exact f.1 a k a0 (fun z => by rw [z] at hk; cases hk) (fun z => by rw [z] at hk; cases hk), f.2.2.2⟩
theorem held30 (v : Int32) (h : dH) : f_X11_held 0 30 v.toInt64 h = jmax 0 (jmin 30 v) := by
  unfold f_X11_held
  have k30 : (30 : Int32).toInt = 30 := rfl
  rw [i_eq, i_jmax, i_jmin, t0, k30]
  by_cases q : v.toInt < 0
  · rw [if_pos (l_cmp_lt.mpr (by rw [l_ofI, l_ofI, t0]; exact q)), t0]
    omega
  · rw [if_neg (fun z => q (by have := l_cmp_lt.mp z; rw [l_ofI, l_ofI, t0] at this; exact this))]
    by_cases q2 : 30 < v.toInt
    · rw [if_pos (l_cmp_gt.mpr (by rw [l_ofI, l_ofI, k30]; exact q2)), k30]
      omega
    · rw [if_neg (fun z => q2 (by have := l_cmp_gt.mp z; rw [l_ofI, l_ofI, k30] at this; exact this))]
      rw [show v.toInt64.toInt32 = v from Int32.toInt32_toInt64 v]
      omega
theorem bt30 (v : Int32) : bt 0 30 (jmax 0 (jmin 30 v)) := by
  have k30 : (30 : Int32).toInt = 30 := rfl
  constructor
  · rw [i_jmax, i_jmin, t0, k30]; omega
  · rw [i_jmax, i_jmin, t0, k30]; omega
section TR
variable {n : Nat} {hC hM : dH} {x : Int32}
/-- without a LAW -/
theorem M_trouble0 (hx : dIn x 7) (w : Nat) (view co : Int32) (hl : hM.1 0 30 = -1) : f_X12_trouble w x view co hM = some (jmax 0 (jmin 30 ((4 + 2 * hM.1 w (3 * dI x + 2)) - co)), hM) := by
  unfold f_X12_trouble f_X12_trouble_J115
  rw [if_pos (ix2 hx).2, Option.bind_some, if_pos hl, (ix2 hx).1]
/-- how much he troubles: by visits, patience, hour, tired -/
def tV (hC hM : dH) (x vi pa ho ti sm : Int32) : Int32 := jmax 0 (jmin 30 (if hC.1 42 2 = -1 then (4 + 2 * vi) - hC.1 4 2 else wS (hM.1 2) (hM.1 3) (dI (hC.1 42 2)) (e6 (hC.1 (6 + dI x) 2) (hC.1 (6 + dI x) 3 + sm) pa ho vi ti)))
theorem R_troubleV (C : Ct hC hM) (L3 : Q3 hC hM) (mo : mOK hM) (hx : Pl hC x) (t w : Nat) (htw : (t = 66 ∨ t = 68) ∧ (w = 11 ∨ w = 12))
    (s1 : hC.1 (t + 1) (7 + dI x) = hM.1 w (3 * dI x + 2)) (s2 : hC.1 (t + 1) (21 + dI x) = hM.1 w (3 * dI x + 1)) (hat : Pl' hC (hM.1 w 23 - 1)) {ho ti sm : Int32}
    (eho : ho = hM.1 w 21 + wF hC (hM.1 w 23 - 1) x) (eti : ti = hM.1 w 22 + wF hC (hM.1 w 23 - 1) x) (bho : bt 0 199 ho) (bti : bt 0 199 ti) (bv : bt 0 199 (hC.1 (t + 1) (7 + dI x))) (bp : bt 0 39 (hC.1 (t + 1) (21 + dI x))) (bs : bt 0 3 sm) :
    ∃ (v : Int32) (hC' hM' : dH), f_X8_troubleThen t x ho ti sm hC = some (v, hC') ∧ f_X12_trouble w x (hC.1 (6 + dI x) 3 + sm) (hC.1 4 2) hM = some (v, hM') ∧ bt 0 30 v ∧ fC hC hC' ∧ fM hM hM' ∧ v = tV hC hM x (hC.1 (t + 1) (7 + dI x)) (hC.1 (t + 1) (21 + dI x)) ho ti sm := by
  have hi := hx.in7 C
  have hn := hx.nat C
  by_cases hl : hC.1 42 2 = -1
  · have hlM : hM.1 0 30 = -1 := by rw [← L3.2.1]; exact hl
    rw [M_trouble0 hi w _ _ hlM]
    unfold f_X8_troubleThen f_X8_troubleWithoutLaw
    rw [if_pos hl, C_visitsOf C t hx, Option.bind_some, held30, s1]
    exact ⟨_, _, _, rfl, rfl, bt30 _, fC_rf _, fM_rf _, by unfold tV; rw [if_pos hl]⟩
  · have hlM : ¬ hM.1 0 30 = -1 := by rw [← L3.2.1]; exact hl
    -- the class's letters
    have ht1 : t + 1 ≠ 43 := by omega
    have hw4 : w ≠ 4 := by omega
    unfold f_X8_troubleThen
    rw [if_neg hl, C_toldOf C hx in2, Option.bind_some, Option.bind_some]
    generalize ea : dPut hC 43 0 (hC.1 (6 + dI x) (dI 2)) = a1
    have fa : fC hC a1 := ea ▸ fC_43 _ _ _
    have Ca : Ct a1 hM := Q2_e (fa.on (fun _ => rfl) (fun _ => rfl)) eqOn_rf C
    have xa : Pl a1 x := by show 0 ≤ x.toInt ∧ x.toInt < (a1.1 3 2).toInt; rw [fa.1 3 2 (by omega) (by omega)]; exact hx
    rw [C_toldOf Ca xa in3, Option.bind_some, Option.bind_some, fa.1 _ _ (by omega) (by omega)]
    generalize eb : dPut a1 43 1 (hC.1 (6 + dI x) (dI 3) + sm) = a2
    have fb : fC hC a2 := fC_tr fa (eb ▸ fC_43 _ _ _)
    have Cb : Ct a2 hM := Q2_e (fb.on (fun _ => rfl) (fun _ => rfl)) eqOn_rf C
    have xb : Pl a2 x := by show 0 ≤ x.toInt ∧ x.toInt < (a2.1 3 2).toInt; rw [fb.1 3 2 (by omega) (by omega)]; exact hx
    rw [C_patienceOf Cb t xb, Option.bind_some, Option.bind_some, Option.bind_some, fb.1 _ _ ht1 (by omega)]
    generalize ec : dPut (dPut a2 43 2 (hC.1 (t + 1) (21 + dI x))) 43 3 ho = a3
    have fc : fC hC a3 := fC_tr fb (ec ▸ fC_tr (fC_43 _ _ _) (fC_43 _ _ _))
    have Cc : Ct a3 hM := Q2_e (fc.on (fun _ => rfl) (fun _ => rfl)) eqOn_rf C
    have xc : Pl a3 x := by show 0 ≤ x.toInt ∧ x.toInt < (a3.1 3 2).toInt; rw [fc.1 3 2 (by omega) (by omega)]; exact hx
    rw [C_visitsOf Cc t xc, Option.bind_some, Option.bind_some, Option.bind_some, fc.1 _ _ ht1 (by omega)]
    generalize ed : dPut (dPut a3 43 4 (hC.1 (t + 1) (7 + dI x))) 43 5 ti = a4
    have fd : fC hC a4 := fC_tr fc (ed ▸ fC_tr (fC_43 _ _ _) (fC_43 _ _ _))
    have l0 : a4.1 43 0 = hC.1 (6 + dI x) 2 := by rw [← ed, dPut_ne (by omega), dPut_ne (by omega), ← ec, dPut_ne (by omega), dPut_ne (by omega), ← eb, dPut_ne (by omega), ← ea, dPut_at]; rfl
    have l1 : a4.1 43 1 = hC.1 (6 + dI x) 3 + sm := by rw [← ed, dPut_ne (by omega), dPut_ne (by omega), ← ec, dPut_ne (by omega), dPut_ne (by omega), ← eb, dPut_at]; rfl
    have l2 : a4.1 43 2 = hC.1 (t + 1) (21 + dI x) := by rw [← ed, dPut_ne (by omega), dPut_ne (by omega), ← ec, dPut_ne (by omega), dPut_at]
    have l3 : a4.1 43 3 = ho := by rw [← ed, dPut_ne (by omega), dPut_ne (by omega), ← ec, dPut_at]
    have l4 : a4.1 43 4 = hC.1 (t + 1) (7 + dI x) := by rw [← ed, dPut_ne (by omega), dPut_at]
    have l5 : a4.1 43 5 = ti := by rw [← ed, dPut_at]
    -- the reference's
    unfold f_X12_trouble
    rw [if_pos (ix2 hi).2, Option.bind_some, if_neg hlM, M_of C hx in2, Option.bind_some, Option.bind_some, Option.bind_some, if_pos (ix1 hi).2, Option.bind_some, (ix1 hi).1, (ix2 hi).1]
    generalize eA : dPut (dPut hM 4 107 (hC.1 (6 + dI x) (dI 2))) 4 118 (hC.1 (6 + dI x) 3 + sm) = b1
    have gA : fM hM b1 := eA ▸ fM_tr (fM_4 _ _ _) (fM_4 _ _ _)
    have wA : ∀ k, b1.1 w k = hM.1 w k := fun k => gA.1 w k (by omega) hw4 (by omega)
    rw [wA]
    generalize eB : dPut b1 4 111 (hM.1 w (3 * dI x + 1)) = b2
    have gB : fM hM b2 := fM_tr gA (eB ▸ fM_4 _ _ _)
    have wB : ∀ k, b2.1 w k = hM.1 w k := fun k => gB.1 w k (by omega) hw4 (by omega)
    have onM : ∀ b : dH, fM hM b → Ct hC b := fun b g => Q2_e eqOn_rf (fun a k hk => by
      by_cases a0 : a = 0
      · rw [a0] at hk ⊢
        have : k = 24 := by
          have h2 : (k == 24) = true := by simpa [kM2] using hk
          simpa using h2
        rw [this]
        exact g.2.1 24 (by omega)
      · exact g.1 a k a0 (fun z => by rw [z] at hk; cases hk) (fun z => by rw [z] at hk; cases hk)) C
    have far : ∀ b : dH, fM hM b → f_X12_far w x b = some (wF hC (hM.1 w 23 - 1) x) := fun b g => by
      unfold f_X12_far f_X12_where
      rw [g.1 w 23 (by omega) hw4 (by omega), M_between (onM b g) hat hx]
      rfl
    rw [far b2 gB, Option.bind_some, Option.bind_some, wB, ← eho]
    generalize eD : dPut b2 4 104 ho = b3
    have gD : fM hM b3 := fM_tr gB (eD ▸ fM_4 _ _ _)
    have wD : ∀ k, b3.1 w k = hM.1 w k := fun k => gD.1 w k (by omega) hw4 (by omega)
    rw [if_pos (ix2 hi).2, Option.bind_some, wD]
    generalize eE : dPut b3 4 110 (hM.1 w (3 * dI x + 2)) = b4
    have gE : fM hM b4 := fM_tr gD (eE ▸ fM_4 _ _ _)
    have wE : ∀ k, b4.1 w k = hM.1 w k := fun k => gE.1 w k (by omega) hw4 (by omega)
    rw [far b4 gE, Option.bind_some, Option.bind_some, wE, ← eti]
    generalize eF : dPut b4 4 116 ti = b5
    have gF : fM hM b5 := fM_tr gE (eF ▸ fM_4 _ _ _)
    have n0 : b5.1 4 107 = hC.1 (6 + dI x) 2 := by rw [← eF, dPut_ne (by omega), ← eE, dPut_ne (by omega), ← eD, dPut_ne (by omega), ← eB, dPut_ne (by omega), ← eA, dPut_ne (by omega), dPut_at]; rfl
    have n1 : b5.1 4 118 = hC.1 (6 + dI x) 3 + sm := by rw [← eF, dPut_ne (by omega), ← eE, dPut_ne (by omega), ← eD, dPut_ne (by omega), ← eB, dPut_ne (by omega), ← eA, dPut_at]
    have n2 : b5.1 4 111 = hM.1 w (3 * dI x + 1) := by rw [← eF, dPut_ne (by omega), ← eE, dPut_ne (by omega), ← eD, dPut_ne (by omega), ← eB, dPut_at]
    have n3 : b5.1 4 104 = ho := by rw [← eF, dPut_ne (by omega), ← eE, dPut_ne (by omega), ← eD, dPut_at]
    have n4 : b5.1 4 110 = hM.1 w (3 * dI x + 2) := by rw [← eF, dPut_ne (by omega), ← eE, dPut_at]
    have n5 : b5.1 4 116 = ti := by rw [← eF, dPut_at]
    have L3' : Q3 a4 b5 := Q3_e (fd.on (fun _ => rfl) (fun _ => rfl)) (fun a k hk => by
      by_cases a0 : a = 0
      · rw [a0] at hk ⊢
        have : k = 7 ∨ k = 30 := by
          have h2 : (k == 7 || k == 30) = true := by simpa [kM3] using hk
          simpa using h2
        rcases this with q | q <;> rw [q]
        · exact gF.2.1 7 (by omega)
        · exact gF.2.1 30 (by omega)
      · exact gF.1 a k a0 (fun z => by rw [z] at hk; cases hk) (fun z => by rw [z] at hk; cases hk)) L3
    have cty := C.2.1.2.2.2.2 (dI x) (by rw [hn.1]; exact hx.2)
    rw [cSp_at hn.2, cSp_at hn.2, cSp_at hn.2, cSp_at hn.2, cSp_at hn.2] at cty
    have bs1 := bs.1
    have bs2 := bs.2
    have v1 := cty.2.2.2.1.1
    have v2 := cty.2.2.2.1.2
    have ok : eOK (a4.1 43) := by
      refine ⟨by rw [l0]; exact cty.2.2.1, ?_, by rw [l2]; exact bp, by rw [l3]; exact bho, by rw [l4]; exact bv, by rw [l5]; exact bti⟩
      rw [l1]
      constructor
      · rw [i_add (by omega)]; omega
      · rw [i_add (by omega)]; omega
    obtain ⟨v, hC', hM', r1, r2, r3, r4, r5⟩ := R_worth L3' (gF.2.2.2 mo) (by rw [fd.1 42 2 (by omega) (by omega)]; exact hl) (by rw [l0, n0]) (by rw [l1, n1]) (by rw [l2, n2, s2]) (by rw [l3, n3]) (by rw [l4, n4, s1]) (by rw [l5, n5]) ok
    rw [r1, r2, Option.bind_some, Option.bind_some]
    unfold f_X12_trouble_J115
    refine ⟨_, _, _, rfl, by rw [held30], by rw [held30]; exact bt30 _, fC_tr fd r3, fM_tr gF r4, ?_⟩
    have k2 : b5.1 2 = hM.1 2 := funext fun k => gF.1 2 k (by omega) (by omega) (by omega)
    have k3 : b5.1 3 = hM.1 3 := funext fun k => gF.1 3 k (by omega) (by omega) (by omega)
    unfold tV
    rw [if_neg hl, held30, r5, k2, k3, fd.1 42 2 (by omega) (by omega), l0, l1, l2, l3, l4, l5]
theorem R_trouble (C : Ct hC hM) (L3 : Q3 hC hM) (mo : mOK hM) (hx : Pl hC x) (t w : Nat) (htw : (t = 66 ∨ t = 68) ∧ (w = 11 ∨ w = 12))
    (s1 : hC.1 (t + 1) (7 + dI x) = hM.1 w (3 * dI x + 2)) (s2 : hC.1 (t + 1) (21 + dI x) = hM.1 w (3 * dI x + 1)) (hat : Pl' hC (hM.1 w 23 - 1)) {ho ti sm : Int32}
    (eho : ho = hM.1 w 21 + wF hC (hM.1 w 23 - 1) x) (eti : ti = hM.1 w 22 + wF hC (hM.1 w 23 - 1) x) (bho : bt 0 199 ho) (bti : bt 0 199 ti) (bv : bt 0 199 (hC.1 (t + 1) (7 + dI x))) (bp : bt 0 39 (hC.1 (t + 1) (21 + dI x))) (bs : bt 0 3 sm) :
    ∃ (v : Int32) (hC' hM' : dH), f_X8_troubleThen t x ho ti sm hC = some (v, hC') ∧ f_X12_trouble w x (hC.1 (6 + dI x) 3 + sm) (hC.1 4 2) hM = some (v, hM') ∧ bt 0 30 v ∧ fC hC hC' ∧ fM hM hM' := by
  obtain ⟨v, c, d, h1, h2, h3, h4, h5, _⟩ := R_troubleV C L3 mo hx t w htw s1 s2 hat eho eti bho bti bv bp bs
  exact ⟨v, c, d, h1, h2, h3, h4, h5⟩
end TR
