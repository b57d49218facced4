/-! PURE: what of the heaps counts -/
theorem cSp_at {h : dH} {p k : Nat} (hp : p < 7) : cSp h p k = h.1 (6 + p) k := if_pos hp
theorem cWy_at {h : dH} {p k : Nat} (hp : p < 8) : cWy h p k = h.1 (14 + p) k := if_pos hp
theorem cCo_at {h : dH} {p k : Nat} (hp : p < 4) : cCo h p k = h.1 (45 + p) k := if_pos hp
theorem cWh_at {h : dH} {p k : Nat} (hp : p < 4) : cWh h p k = h.1 (54 + p) k := if_pos hp
theorem cDg_at {h : dH} {p k : Nat} (hp : p < 4) : cDg h p k = h.1 (60 + p) k := if_pos hp
def eCm (a k : Nat) : Bool := (a == 0 && (k == 15 || k == 16)) || (a == 1 && k == 1) || a == 2 || (a == 3 && k == 2) || a == 4 || (Nat.ble 6 a && Nat.ble a 21) || (a == 42 && (k == 1 || k == 2)) || (Nat.ble 45 a && Nat.ble a 48) || a == 50 || (a == 52 && k == 0) || (Nat.ble 54 a && Nat.ble a 57) || (Nat.ble 60 a && Nat.ble a 63) || a == 65 || a == 67 || (a == 70 && (k == 0 || k == 2)) || a == 71 || a == 73 || a == 74 || a == 76 || (a == 77 && k == 0) || a == 78 || a == 79 || a == 80 || Nat.ble 1000 a
def eC (h h' : dH) : Prop := ∀ a k : Nat, eCm a k = true → h'.1 a k = h.1 a k
def eMm (a k : Nat) : Bool := (a == 0 && (k == 6 || k == 7 || k == 24 || k == 26 || k == 30 || k == 31 || k == 35 || k == 47 || k == 54)) || a == 1 || a == 2 || a == 3 || a == 5 || a == 7 || (a == 9 && Nat.ble k 127) || (a == 10 && Nat.ble k 3) || a == 11 || a == 15 || a == 17 || a == 18 || a == 21 || a == 23
def mOK (h : dH) : Prop := rMemo (h.1 0 7) (h.1 2) (h.1 3) (h.2.1 13) (h.1 14)
def eM (h h' : dH) : Prop := (∀ a k : Nat, eMm a k = true → h'.1 a k = h.1 a k) ∧ (mOK h → mOK h')
theorem eC_rf (h : dH) : eC h h := fun _ _ _ => rfl
theorem eM_rf (h : dH) : eM h h := ⟨fun _ _ _ => rfl, id⟩
theorem eC_tr {h h2 h3 : dH} (a : eC h h2) (b : eC h2 h3) : eC h h3 := fun x k e => (b x k e).trans (a x k e)
theorem eM_tr {h h2 h3 : dH} (a : eM h h2) (b : eM h2 h3) : eM h h3 := ⟨fun x k e => (b.1 x k e).trans (a.1 x k e), fun z => b.2 (a.2 z)⟩
theorem dPut_at {h : dH} {a k : Nat} {v : Int32} : (dPut h a k v).1 a k = v := if_pos ⟨rfl, rfl⟩
theorem dPut_ne {h : dH} {a k b j : Nat} {v : Int32} (e : ¬ (b = a ∧ j = k)) : (dPut h a k v).1 b j = h.1 b j := if_neg e
theorem eC_put {h : dH} {a k : Nat} {v : Int32} (e : eCm a k = false) : eC h (dPut h a k v) := fun b j hb => dPut_ne (fun z => by rw [z.1, z.2, e] at hb; cases hb)
theorem mOK_put {h : dH} {a k : Nat} {v : Int32} (e : eMm a k = false) (e14 : a ≠ 14) (hm : mOK h) : mOK (dPut h a k v) := by
  unfold mOK at hm ⊢
  have k7 : (dPut h a k v).1 0 7 = h.1 0 7 := dPut_ne (fun z => by rw [← z.1, ← z.2] at e; cases e)
  have k2 : (dPut h a k v).1 2 = h.1 2 := funext fun j => dPut_ne (fun z => by rw [← z.1] at e; cases e)
  have k3 : (dPut h a k v).1 3 = h.1 3 := funext fun j => dPut_ne (fun z => by rw [← z.1] at e; cases e)
  have k14 : (dPut h a k v).1 14 = h.1 14 := funext fun j => dPut_ne (fun z => e14 z.1.symm)
  rw [k7, k2, k3, k14]
  exact hm
theorem eM_put {h : dH} {a k : Nat} {v : Int32} (e : eMm a k = false) (e14 : a ≠ 14) : eM h (dPut h a k v) := ⟨fun b j hb => dPut_ne (fun z => by rw [z.1, z.2, e] at hb; cases hb), mOK_put e e14⟩
theorem RelK_e {K : Int} {hC hM hC' hM' : dH} (R : RelK K hC hM) (eCC : eC hC hC') (eMM : eM hM hM') : RelK K hC' hM' := by
  have c2 : hC'.1 2 = hC.1 2 := funext fun k => eCC 2 k rfl
  have c4 : hC'.1 4 = hC.1 4 := funext fun k => eCC 4 k rfl
  have c50 : hC'.1 50 = hC.1 50 := funext fun k => eCC 50 k rfl
  have c65 : hC'.1 65 = hC.1 65 := funext fun k => eCC 65 k rfl
  have c67 : hC'.1 67 = hC.1 67 := funext fun k => eCC 67 k rfl
  have c71 : hC'.1 71 = hC.1 71 := funext fun k => eCC 71 k rfl
  have c73 : hC'.1 73 = hC.1 73 := funext fun k => eCC 73 k rfl
  have c74 : hC'.1 74 = hC.1 74 := funext fun k => eCC 74 k rfl
  have c76 : hC'.1 76 = hC.1 76 := funext fun k => eCC 76 k rfl
  have c78 : hC'.1 78 = hC.1 78 := funext fun k => eCC 78 k rfl
  have c79 : hC'.1 79 = hC.1 79 := funext fun k => eCC 79 k rfl
  have c80 : hC'.1 80 = hC.1 80 := funext fun k => eCC 80 k rfl
  have cs : cSp hC' = cSp hC := funext fun p => funext fun k => by
    unfold cSp
    by_cases hp : p < 7
    · rw [if_pos hp, if_pos hp]
      rcases (show p = 0 ∨ p = 1 ∨ p = 2 ∨ p = 3 ∨ p = 4 ∨ p = 5 ∨ p = 6 by omega) with rfl | rfl | rfl | rfl | rfl | rfl | rfl <;> exact eCC _ k rfl
    · rw [if_neg hp, if_neg hp]
  have cw : cWy hC' = cWy hC := funext fun p => funext fun k => by
    unfold cWy
    by_cases hp : p < 8
    · rw [if_pos hp, if_pos hp]
      rcases (show p = 0 ∨ p = 1 ∨ p = 2 ∨ p = 3 ∨ p = 4 ∨ p = 5 ∨ p = 6 ∨ p = 7 by omega) with rfl | rfl | rfl | rfl | rfl | rfl | rfl | rfl <;> exact eCC _ k rfl
    · rw [if_neg hp, if_neg hp]
  have cc : cCo hC' = cCo hC := funext fun p => funext fun k => by
    unfold cCo
    by_cases hp : p < 4
    · rw [if_pos hp, if_pos hp]
      rcases (show p = 0 ∨ p = 1 ∨ p = 2 ∨ p = 3 by omega) with rfl | rfl | rfl | rfl <;> exact eCC _ k rfl
    · rw [if_neg hp, if_neg hp]
  have ch : cWh hC' = cWh hC := funext fun p => funext fun k => by
    unfold cWh
    by_cases hp : p < 4
    · rw [if_pos hp, if_pos hp]
      rcases (show p = 0 ∨ p = 1 ∨ p = 2 ∨ p = 3 by omega) with rfl | rfl | rfl | rfl <;> exact eCC _ k rfl
    · rw [if_neg hp, if_neg hp]
  have cd : cDg hC' = cDg hC := funext fun p => funext fun k => by
    unfold cDg
    by_cases hp : p < 4
    · rw [if_pos hp, if_pos hp]
      rcases (show p = 0 ∨ p = 1 ∨ p = 2 ∨ p = 3 by omega) with rfl | rfl | rfl | rfl <;> exact eCC _ k rfl
    · rw [if_neg hp, if_neg hp]
  have m1 : hM'.1 1 = hM.1 1 := funext fun k => eMM.1 1 k rfl
  have m2 : hM'.1 2 = hM.1 2 := funext fun k => eMM.1 2 k rfl
  have m3 : hM'.1 3 = hM.1 3 := funext fun k => eMM.1 3 k rfl
  have m5 : hM'.1 5 = hM.1 5 := funext fun k => eMM.1 5 k rfl
  have m7 : hM'.1 7 = hM.1 7 := funext fun k => eMM.1 7 k rfl
  have m11 : hM'.1 11 = hM.1 11 := funext fun k => eMM.1 11 k rfl
  have m15 : hM'.1 15 = hM.1 15 := funext fun k => eMM.1 15 k rfl
  have m17 : hM'.1 17 = hM.1 17 := funext fun k => eMM.1 17 k rfl
  have m18 : hM'.1 18 = hM.1 18 := funext fun k => eMM.1 18 k rfl
  have m21 : hM'.1 21 = hM.1 21 := funext fun k => eMM.1 21 k rfl
  have m23 : hM'.1 23 = hM.1 23 := funext fun k => eMM.1 23 k rfl
  obtain ⟨R1, R2, R3, R4, R5, R6, R7, R8, R9, R10, R11⟩ := R
  have R4' := eMM.2 R4
  have m07 := eMM.1 0 7 rfl
  refine ⟨?_, ?_, ?_, R4', ?_, ?_, ?_, ?_, ?_, ?_, ?_⟩
  · rw [eCC 1 1 rfl, c2, eMM.1 0 6 rfl, m1]; exact R1
  · rw [eCC 3 2 rfl, c4, cs, cw, eMM.1 0 24 rfl, m5, m7]; exact R2
  · rw [eCC 42 1 rfl, eCC 42 2 rfl, cc, c50, m07, eMM.1 0 30 rfl, m2, m3]; exact R3
  · rw [eCC 52 0 rfl, eMM.1 0 26 rfl, ch, cd, c65]
    obtain ⟨a1, a2, a3⟩ := R5
    refine ⟨a1, a2, fun j hj => ?_⟩
    obtain ⟨b1, b2, b3⟩ := a3 j hj
    have hj4 : j < 4 := by have := a2.2; omega
    have b2' : (hC.1 65 j).toInt ≤ 16 := b2.2
    refine ⟨?_, b2, fun i hi => ?_⟩
    · rw [eMM.1 10 j (by rcases (show j = 0 ∨ j = 1 ∨ j = 2 ∨ j = 3 by omega) with rfl | rfl | rfl | rfl <;> rfl)]; exact b1
    · obtain ⟨d1, d2, d3⟩ := b3 i hi
      have hk : ∀ z : Nat, z ≤ 127 → eMm 9 z = true := fun z hz => by
        show (false || false || false || false || false || false || (true && Nat.ble z 127) || false || false || false || false || false || false || false) = true
        rw [show Nat.ble z 127 = true from Nat.ble_eq.mpr hz]
        rfl
      refine ⟨?_, ?_, d3⟩
      · rw [eMM.1 9 _ (hk _ (by omega))]; exact d1
      · rw [eMM.1 9 _ (hk _ (by omega))]; exact d2
  · rw [c67, m11, eCC 3 2 rfl, c4, c73]; exact R6
  · rw [eCC 3 2 rfl, c4, c73, eCC 70 0 rfl, eCC 70 2 rfl, c71, c67, eMM.1 0 35 rfl, m15]; exact R7
  · rw [eCC 3 2 rfl, c4, eCC 0 15 rfl, eMM.1 0 54 rfl, c74, c76, m23]; exact R8
  · rw [eCC 3 2 rfl, eCC 77 0 rfl, eMM.1 0 47 rfl, c78, c79, c80, m17, m18, m21]; exact R9
  · rw [eCC 0 16 rfl, eMM.1 0 31 rfl]; exact R10
  · intro a k ha
    rw [eCC a k (by
      unfold eCm
      rw [show Nat.ble 1000 a = true from Nat.ble_eq.mpr ha]
      simp)]
    exact R11 a k ha
theorem sW_mono {np : Int32} {r : Nat → Int32} {K K' : Int} {c : Nat → Int32} (hK : K ≤ K') (h : sW np r K c) : sW np r K' c := by
  obtain ⟨a1, a2, a3, a4, a5, a6, a7⟩ := h
  unfold bt at a4 a5
  refine ⟨a1, a2, a3, ⟨a4.1, by omega⟩, ⟨a5.1, by omega⟩, a6, fun p hp => ?_⟩
  obtain ⟨b1, b2, b3, b4⟩ := a7 p hp
  unfold bt at b2
  exact ⟨b1, ⟨b2.1, by omega⟩, b3, b4⟩
theorem rUndo_mono {np : Int32} {r : Nat → Int32} {K K' : Int} {d : Nat → Int32} {number next : Int32} {rows now : Nat → Int32} {acts : Int32} {rowsM : Nat → Int32} (hK : K ≤ K') (h : rUndo np r K d number next rows now acts rowsM) : rUndo np r K' d number next rows now acts rowsM := by
  obtain ⟨a1, a2, a3, a4, a5⟩ := h
  exact ⟨a1, a2, a3, fun i hi => ⟨(a4 i hi).1, sW_mono hK (a4 i hi).2.1, (a4 i hi).2.2⟩, a5⟩
theorem rImage_mono {np : Int32} {r : Nat → Int32} {K K' : Int} {has has' : Int32} {c d m : Nat → Int32} (hK : K ≤ K') (h : rImage np r K has has' c d m) : rImage np r K' has has' c d m :=
  ⟨h.1, h.2.1, fun e => ⟨(h.2.2 e).1, (h.2.2 e).2.1, sW_mono hK (h.2.2 e).2.2.1, (h.2.2 e).2.2.2⟩⟩
theorem Rel_e {n : Nat} {hC hM hC' hM' : dH} (R : Rel n hC hM) (eCC : eC hC hC') (eMM : eM hM hM') : Rel n hC' hM' := RelK_e (K := 60 * n) R eCC eMM
theorem RelK_mono {K K' : Int} {hC hM : dH} (hK : K ≤ K') (R : RelK K hC hM) : RelK K' hC hM := by
  obtain ⟨R1, R2, R3, R4, R5, R6, R7, R8, R9, R10, R11⟩ := R
  exact ⟨R1, R2, R3, R4, R5, ⟨R6.1, sW_mono hK R6.2.1, R6.2.2⟩, rUndo_mono hK R7, rImage_mono hK R8, R9, R10, R11⟩
theorem Rel_mono {n : Nat} {hC hM : dH} (R : Rel n hC hM) : Rel (n + 1) hC hM := by
  obtain ⟨R1, R2, R3, R4, R5, R6, R7, R8, R9, R10, R11⟩ := R
  have hK : (60 * n : Int) ≤ 60 * ((n + 1 : Nat) : Int) := by omega
  exact ⟨R1, R2, R3, R4, R5, ⟨R6.1, sW_mono hK R6.2.1, R6.2.2⟩, rUndo_mono hK R7, rImage_mono hK R8, R9, R10, R11⟩
theorem ok_skip : st_skip Rel := fun _ _ _ _ R => Rel_mono R
theorem Rel_s {n : Nat} {hC hM hC' hM' : dH} (R : Rel n hC hM) (eCC : eC hC hC') (eMM : eM hM hM') : Rel (n + 1) hC' hM' := Rel_e (Rel_mono R) eCC eMM
theorem hC0_at (a k : Nat) (h42 : ¬ (a = 42 ∧ k = 2)) (h67 : ¬ (a = 67 ∧ k = 0)) (h69 : ¬ (a = 69 ∧ k = 0)) (h0 : ¬ (a = 0 ∧ k = 16)) : hC0.1 a k = (dH0 1).1 a k := by
  unfold hC0
  rw [dPut_ne h0, dPut_ne h69, dPut_ne h67, dPut_ne h42]
theorem dH0_z {a k : Nat} (ha : a < 1000) : (dH0 1).1 a k = 0 := by
  show dSt0 a k = 0
  unfold dSt0
  rw [if_neg (by omega)]
