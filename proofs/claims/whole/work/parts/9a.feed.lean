/-! PURE: feed -/
def nb (v : Int32) : Nat → Nat
  | 0 => 0
  | m + 1 => (if ((v >>> (Int32.ofNat (8 * m) &&& 31)) &&& 255) = 0 then 0 else 1) + nb v m
theorem nb_le (v : Int32) : ∀ m, nb v m ≤ m := by
  intro m
  induction m with
  | zero => exact Nat.le_refl _
  | succ m ih =>
    show (if ((v >>> (Int32.ofNat (8 * m) &&& 31)) &&& 255) = 0 then 0 else 1) + nb v m ≤ m + 1
    split <;> omega
section FE
variable {K : Int} {n : Nat} {hC hM c d : dH} {v y : Int32}
theorem y_of {m : Nat} (hy : y.toInt = 8 * ((m + 1 : Nat) : Int) - 8) (hm : m < 4) : y = Int32.ofNat (8 * m) ∧ ¬ y < 0 ∧ (y + -8).toInt = 8 * (m : Int) - 8 := by
  have k8 : (-8 : Int32).toInt = -8 := rfl
  refine ⟨by rw [i_eq, i_ofNat (by omega)]; omega, by rw [i_lt, t0]; omega, ?_⟩
  rw [i_add (by rw [k8]; omega), k8]
  omega
theorem lp_bytes (c d : dH) (v : Int32) : ∀ (m n n2 : Nat) (a y : Int32), m ≤ 4 → m < n → m < n2 → y.toInt = 8 * (m : Int) - 8 → bt 0 (20 - m) a → ∃ r : Int32, f_X9_bytesIn_L5 c n v a y = some r ∧ f_X12_bytesIn_L5 d n2 v a y = some r ∧ r.toInt = a.toInt + nb v m := by
  intro m
  induction m with
  | zero =>
    intro n n2 a y hm hn hn2 hy ha
    obtain ⟨n, rfl⟩ : ∃ z, n = z + 1 := ⟨n - 1, by omega⟩
    obtain ⟨n2, rfl⟩ : ∃ z, n2 = z + 1 := ⟨n2 - 1, by omega⟩
    have z : y < 0 := by rw [i_lt, t0]; omega
    rw [f_X9_bytesIn_L5, f_X12_bytesIn_L5, if_pos z, if_pos z]
    exact ⟨a, rfl, rfl, by show _ = a.toInt + ((0 : Nat) : Int); omega⟩
  | succ m ih =>
    intro n n2 a y hm hn hn2 hy ha
    obtain ⟨n, rfl⟩ : ∃ z, n = z + 1 := ⟨n - 1, by omega⟩
    obtain ⟨n2, rfl⟩ : ∃ z, n2 = z + 1 := ⟨n2 - 1, by omega⟩
    obtain ⟨ey, z, y8⟩ := y_of hy (by omega)
    have a1 := ha.1
    have a2 := ha.2
    rw [f_X9_bytesIn_L5, f_X12_bytesIn_L5, if_neg z, if_neg z]
    unfold f_X9_bytesIn_J22 f_X12_bytesIn_J25
    simp only [Option.bind_some]
    have be := byte_eq v (m := m) (by omega)
    rw [← ey] at be
    rw [be]
    have en : nb v (m + 1) = (if ((v >>> (y &&& 31)) &&& 255) = 0 then 0 else 1) + nb v m := by rw [ey]; rfl
    rw [en]
    by_cases q : v >>> (y &&& 31) &&& 255 = 0
    · rw [if_pos q, if_pos q, if_pos q, show a + bi false = a from Int32.add_zero a]
      obtain ⟨r, u1, u2, u3⟩ := ih n n2 a (y + -8) (by omega) (by omega) (by omega) y8 ⟨by omega, by omega⟩
      exact ⟨r, u1, u2, by omega⟩
    · rw [if_neg q, if_neg q, if_neg q]
      have e1 : (a + 1).toInt = a.toInt + 1 := i_add1 (by omega)
      obtain ⟨r, u1, u2, u3⟩ := ih n n2 (a + 1) (y + -8) (by omega) (by omega) (by omega) y8 ⟨by omega, by omega⟩
      exact ⟨r, u1, u2, by omega⟩
theorem R_bytes (c d : dH) (v : Int32) : ∃ r : Int32, f_X9_bytesIn v c = some r ∧ f_X12_bytesIn v d = some r ∧ r.toInt = nb v 4 := by
  obtain ⟨r, u1, u2, u3⟩ := lp_bytes c d v 4 dFu dFu 0 24 (by omega) (fuel_lt (by omega)) (fuel_lt (by omega)) rfl ⟨by decide, by decide⟩
  exact ⟨r, u1, u2, by rw [u3, t0]; omega⟩
def tpC (c c' : dH) : Prop := (∀ a k, a ≠ 2 → ¬ (a = 1 ∧ k = 1) → c'.1 a k = c.1 a k)
def tpM (d d' : dH) : Prop := (∀ a k, a ≠ 1 → ¬ (a = 0 ∧ k = 6) → d'.1 a k = d.1 a k) ∧ d'.2 = d.2
theorem lp_put (v : Int32) : ∀ (m n n2 : Nat) (y : Int32) (c d : dH), m ≤ 4 → m < n → m < n2 → y.toInt = 8 * (m : Int) - 8 → Q1 c d → (c.1 1 1).toInt + nb v m ≤ 240 → ∃ c' d' : dH, f_X9_addBytesOf_L3 n v y c = some c' ∧ f_X12_put_L3 n2 v y d = some d' ∧ Q1 c' d' ∧ (c'.1 1 1).toInt = (c.1 1 1).toInt + nb v m ∧ tpC c c' ∧ tpM d d' := by
  intro m
  have k240 : (240 : Int32).toInt = 240 := rfl
  induction m with
  | zero =>
    intro n n2 y c d hm hn hn2 hy Q hl
    obtain ⟨n, rfl⟩ : ∃ z, n = z + 1 := ⟨n - 1, by omega⟩
    obtain ⟨n2, rfl⟩ : ∃ z, n2 = z + 1 := ⟨n2 - 1, by omega⟩
    have z : y < 0 := by rw [i_lt, t0]; omega
    rw [f_X9_addBytesOf_L3, f_X12_put_L3, if_pos z, if_pos z]
    exact ⟨c, d, rfl, rfl, Q, by show _ = _ + ((0 : Nat) : Int); omega, fun _ _ _ _ => rfl, fun _ _ _ _ => rfl, rfl⟩
  | succ m ih =>
    intro n n2 y c d hm hn hn2 hy Q hl
    obtain ⟨n, rfl⟩ : ∃ z, n = z + 1 := ⟨n - 1, by omega⟩
    obtain ⟨n2, rfl⟩ : ∃ z, n2 = z + 1 := ⟨n2 - 1, by omega⟩
    obtain ⟨ey, z, y8⟩ := y_of hy (by omega)
    have be := byte_eq v (m := m) (by omega)
    rw [← ey] at be
    have en : nb v (m + 1) = (if ((v >>> (y &&& 31)) &&& 255) = 0 then 0 else 1) + nb v m := by rw [ey]; rfl
    rw [en] at hl ⊢
    rw [f_X9_addBytesOf_L3, f_X12_put_L3, if_neg z, if_neg z, Option.bind_some, be]
    unfold f_X9_addBytesOf_J49 f_X12_put_J43
    by_cases q : v >>> (y &&& 31) &&& 255 = 0
    · rw [if_pos q] at hl
      rw [if_pos q, if_pos q, if_pos q]
      obtain ⟨c', d', u1, u2, u3, u4, u5, u6⟩ := ih n n2 (y + -8) c d (by omega) (by omega) (by omega) y8 Q (by omega)
      exact ⟨c', d', u1, u2, u3, by omega, u5, u6⟩
    · rw [if_neg q] at hl
      rw [if_neg q, if_neg q, if_neg q]
      obtain ⟨q1, q2, q3⟩ := id Q
      have q21 := q2.1
      have q22 := q2.2
      have dl := dI_c q21
      have hi : dIn (c.1 1 1) 240 := ⟨q21, by omega⟩
      have b1 := and255 (v >>> (y &&& 31))
      have b8 := i8 (v >>> (y &&& 31))
      rw [← q1, if_pos (show c.1 1 1 < 240 by rw [i_lt, k240]; omega), if_pos hi, if_pos hi, Option.bind_some, Option.bind_some, Option.bind_some, Option.bind_some, nar8, dPut_ne (by omega), dPut_ne (by omega), ← q1]
      have qb : (v >>> (y &&& 31) &&& 255).toInt ≠ 0 := fun zz => q (by rw [i_eq, t0]; exact zz)
      generalize (v >>> (y &&& 31)).toInt8.toInt32 = tb at b8
      generalize v >>> (y &&& 31) &&& 255 = bb at qb b8 b1
      have e1 : (c.1 1 1 + 1).toInt = (c.1 1 1).toInt + 1 := i_add1 (by omega)
      have Q' : Q1 (dPut (dPut c 2 (dI (c.1 1 1)) bb) 1 1 (c.1 1 1 + 1)) (dPut (dPut d 1 (dI (c.1 1 1)) tb) 0 6 (c.1 1 1 + 1)) := by
        refine ⟨by rw [dPut_at, dPut_at], by rw [dPut_at]; exact ⟨by omega, by omega⟩, fun k hk => ?_⟩
        rw [dPut_at, e1] at hk
        rw [dPut_ne (a := 1) (b := 2) (by omega), dPut_ne (a := 0) (b := 1) (by omega)]
        by_cases e : k = dI (c.1 1 1)
        · rw [e, dPut_at, dPut_at]
          refine ⟨⟨by omega, by omega⟩, ?_⟩
          rw [b8]
        · rw [dPut_ne (by omega), dPut_ne (by omega)]
          exact q3 k (by omega)
      have len1 : (dPut (dPut c 2 (dI (c.1 1 1)) bb) 1 1 (c.1 1 1 + 1)).1 1 1 = c.1 1 1 + 1 := dPut_at
      obtain ⟨c', d', u1, u2, u3, u4, u5, u6⟩ := ih n n2 (y + -8) _ _ (by omega) (by omega) (by omega) y8 Q' (by rw [len1]; omega)
      rw [len1] at u4
      refine ⟨c', d', u1, u2, u3, by omega, fun a k h1 h2 => ?_, fun a k h1 h2 => ?_, u6.2⟩
      · rw [u5 a k h1 h2, dPut_ne (by omega), dPut_ne (by omega)]
      · rw [u6.1 a k h1 h2, dPut_ne (by omega), dPut_ne (by omega)]
theorem R_put (v : Int32) (Q : Q1 c d) (hl : (c.1 1 1).toInt + nb v 4 ≤ 240) : ∃ c' d' : dH, f_X9_addBytesOf v c = some c' ∧ f_X12_put v d = some d' ∧ Q1 c' d' ∧ (c'.1 1 1).toInt = (c.1 1 1).toInt + nb v 4 ∧ tpC c c' ∧ tpM d d' :=
  lp_put v 4 dFu dFu 24 c d (by omega) (fuel_lt (by omega)) (fuel_lt (by omega)) rfl Q hl
theorem tpC_tr {c1 c2 : dH} (a : tpC c c1) (b : tpC c1 c2) : tpC c c2 := fun x k h1 h2 => (b x k h1 h2).trans (a x k h1 h2)
theorem tpM_tr {c1 c2 : dH} (a : tpM c c1) (b : tpM c1 c2) : tpM c c2 := ⟨fun x k h1 h2 => (b.1 x k h1 h2).trans (a.1 x k h1 h2), b.2.trans a.2⟩
theorem tpC.on {c' : dH} (t : tpC c c') {mk : Nat → Nat → Bool} (h2 : ∀ k, mk 2 k = false) (h1 : mk 1 1 = false) : eqOn mk c c' := fun a k hk => t a k (fun z => by rw [z, h2] at hk; cases hk) (fun z => by rw [z.1, z.2, h1] at hk; cases hk)
theorem tpM.on {d' : dH} (t : tpM d d') {mk : Nat → Nat → Bool} (h2 : ∀ k, mk 1 k = false) (h1 : mk 0 6 = false) : eqOn mk d d' := fun a k hk => t.1 a k (fun z => by rw [z, h2] at hk; cases hk) (fun z => by rw [z.1, z.2, h1] at hk; cases hk)
theorem RelK_tp {c' d' : dH} (R : RelK K c d) (Q : Q1 c' d') (a : tpC c c') (e : tpM d d') : RelK K c' d' := by
  obtain ⟨R0, R2, R3, R4, R5, R6, R7, R8, R9, R10, R11⟩ := R
  exact ⟨Q, Q2_e (a.on (fun _ => rfl) rfl) (e.on (fun _ => rfl) rfl) R2, Q3_e (a.on (fun _ => rfl) rfl) (e.on (fun _ => rfl) rfl) R3, mOK_e (e.on (fun _ => rfl) rfl) (by rw [e.2]) R4, Q5_e (a.on (fun _ => rfl) rfl) (e.on (fun _ => rfl) rfl) R5, Q6_e (a.on (fun _ => rfl) rfl) (e.on (fun _ => rfl) rfl) R6, Q7_e (a.on (fun _ => rfl) rfl) (e.on (fun _ => rfl) rfl) R7, Q8_e (a.on (fun _ => rfl) rfl) (e.on (fun _ => rfl) rfl) R8, Q9_e (a.on (fun _ => rfl) rfl) (e.on (fun _ => rfl) rfl) R9, Q10_e (a.on (fun _ => rfl) rfl) (e.on (fun _ => rfl) rfl) R10, dXt_e (a.on (fun _ => rfl) rfl) R11⟩
theorem ok_feed : st_feed Rel := by
  intro n hC hM hn R x1 x2 x3 x4 x5
  have R1 : RelK (60 * n) hC (dPut hM 0 0 0) := R.t0
  unfold aC_feed aM_feed f_X11_feed f_X12_feed
  rw [Option.bind_some]
  generalize dPut hM 0 0 0 = h1 at R1 ⊢
  have k240 : (240 : Int32).toInt = 240 := rfl
  have Q := R1.1
  have q2 := Q.2.1
  have q21 := q2.1
  have q22 := q2.2
  obtain ⟨r1, a1, b1, c1⟩ := R_bytes hC h1 x1
  obtain ⟨r2, a2, b2, c2⟩ := R_bytes hC h1 x2
  obtain ⟨r3, a3, b3, c3⟩ := R_bytes hC h1 x3
  obtain ⟨r4, a4, b4, c4⟩ := R_bytes hC h1 x4
  obtain ⟨r5, a5, b5, c5⟩ := R_bytes hC h1 x5
  have n1 := nb_le x1 4
  have n2 := nb_le x2 4
  have n3 := nb_le x3 4
  have n4 := nb_le x4 4
  have n5 := nb_le x5 4
  rw [a1, a2, a3, a4, a5, b1, b2, b3, b4, b5]
  simp only [Option.bind_some]
  rw [show h1.1 0 6 = hC.1 1 1 from Q.1.symm]
  have s2 : (r1 + r2).toInt = r1.toInt + r2.toInt := i_add (by omega)
  have s3 : (r1 + r2 + r3).toInt = r1.toInt + r2.toInt + r3.toInt := by rw [i_add (by omega)]; omega
  have s4 : (r1 + r2 + r3 + r4).toInt = r1.toInt + r2.toInt + r3.toInt + r4.toInt := by rw [i_add (by omega)]; omega
  have s5 : (r1 + r2 + r3 + r4 + r5).toInt = r1.toInt + r2.toInt + r3.toInt + r4.toInt + r5.toInt := by rw [i_add (by omega)]; omega
  have sC : (hC.1 1 1 + (r1 + r2 + r3 + r4 + r5)).toInt = (hC.1 1 1).toInt + (r1.toInt + r2.toInt + r3.toInt + r4.toInt + r5.toInt) := by rw [i_add (by omega)]; omega
  have m1 : (hC.1 1 1 + r1).toInt = (hC.1 1 1).toInt + r1.toInt := i_add (by omega)
  have m2 : (hC.1 1 1 + r1 + r2).toInt = (hC.1 1 1).toInt + r1.toInt + r2.toInt := by rw [i_add (by omega)]; omega
  have m3 : (hC.1 1 1 + r1 + r2 + r3).toInt = (hC.1 1 1).toInt + r1.toInt + r2.toInt + r3.toInt := by rw [i_add (by omega)]; omega
  have m4 : (hC.1 1 1 + r1 + r2 + r3 + r4).toInt = (hC.1 1 1).toInt + r1.toInt + r2.toInt + r3.toInt + r4.toInt := by rw [i_add (by omega)]; omega
  have m5 : (hC.1 1 1 + r1 + r2 + r3 + r4 + r5).toInt = (hC.1 1 1).toInt + r1.toInt + r2.toInt + r3.toInt + r4.toInt + r5.toInt := by rw [i_add (by omega)]; omega
  by_cases z : 240 < hC.1 1 1 + (r1 + r2 + r3 + r4 + r5)
  · have z' : 240 < hC.1 1 1 + r1 + r2 + r3 + r4 + r5 := by
      rw [i_lt, sC, k240] at z
      rw [i_lt, m5, k240]
      omega
    rw [if_pos z, if_pos z']
    exact ag rfl rfl (Rel_mono R1)
  · have z' : ¬ 240 < hC.1 1 1 + r1 + r2 + r3 + r4 + r5 := by
      rw [i_lt, sC, k240] at z
      rw [i_lt, m5, k240]
      omega
    rw [if_neg z, if_neg z']
    rw [i_lt, sC, k240] at z
    obtain ⟨g1, w1, u1, v1, p1, l1, t1, o1⟩ := R_put x1 Q (by omega)
    obtain ⟨g2, w2, u2, v2, p2, l2, t2, o2⟩ := R_put x2 p1 (by omega)
    obtain ⟨g3, w3, u3, v3, p3, l3, t3, o3⟩ := R_put x3 p2 (by omega)
    obtain ⟨g4, w4, u4, v4, p4, l4, t4, o4⟩ := R_put x4 p3 (by omega)
    obtain ⟨g5, w5, u5, v5, p5, l5, t5, o5⟩ := R_put x5 p4 (by omega)
    rw [u1, v1, Option.bind_some, Option.bind_some, u2, v2, Option.bind_some, Option.bind_some, u3, v3, Option.bind_some, Option.bind_some, u4, v4, Option.bind_some, Option.bind_some, u5, v5, Option.bind_some, Option.bind_some, show w5.1 0 6 = g5.1 1 1 from p5.1.symm]
    exact ag rfl rfl (Rel_mono (RelK_tp R1 p5 (tpC_tr t1 (tpC_tr t2 (tpC_tr t3 (tpC_tr t4 t5)))) (tpM_tr o1 (tpM_tr o2 (tpM_tr o3 (tpM_tr o4 o5))))))
end FE
