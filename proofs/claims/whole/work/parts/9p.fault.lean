/-! PURE: is a text wrong, and where -/
section FA
variable {K : Int} {c d c' d' : dH} {kk : Nat}
theorem FC.on (F : FC kk c c') (hk : kk ≤ 4) {mk : Nat → Nat → Bool} (h2 : mk 1 2 = false) (h3 : mk 1 3 = false) (hr : ∀ k, mk 45 k = false ∧ mk 46 k = false ∧ mk 47 k = false ∧ mk 48 k = false ∧ mk 49 k = false ∧ mk 50 k = false) : eqOn mk c c' := fun a k h => by
  obtain ⟨r5, r6, r7, r8, r9, r0⟩ := hr k
  refine F a k (fun z => ?_) (fun z => ?_) (fun z => ?_)
  · rcases z.2 with y | y
    · rw [z.1, y, h2] at h; cases h
    · rw [z.1, y, h3] at h; cases h
  · rcases (show kk = 0 ∨ kk = 1 ∨ kk = 2 ∨ kk = 3 ∨ kk = 4 by omega) with e | e | e | e | e
    · rw [z, e] at h; rw [show 45 + 0 = 45 from rfl, r5] at h; cases h
    · rw [z, e] at h; rw [show 45 + 1 = 46 from rfl, r6] at h; cases h
    · rw [z, e] at h; rw [show 45 + 2 = 47 from rfl, r7] at h; cases h
    · rw [z, e] at h; rw [show 45 + 3 = 48 from rfl, r8] at h; cases h
    · rw [z, e] at h; rw [show 45 + 4 = 49 from rfl, r9] at h; cases h
  · rw [z.1, r0] at h; cases h
theorem Q3_draft (F : FC kk c c') (hk : (c.1 42 1).toInt = kk) (eM : eqOn kM3 d d') (R : Q3 c d) : Q3 c' d' := by
  obtain ⟨q1, q2, q3, q4, q5⟩ := R
  have m2 : d'.1 2 = d.1 2 := funext fun k => eM 2 k rfl
  have m3 : d'.1 3 = d.1 3 := funext fun k => eM 3 k rfl
  have e1 : c'.1 42 1 = c.1 42 1 := F 42 1 (by omega) (by have := q3.2; omega) (by omega)
  have e2 : c'.1 42 2 = c.1 42 2 := F 42 2 (by omega) (by have := q3.2; omega) (by omega)
  unfold Q3 rLaws
  rw [e1, e2, eM 0 7 rfl, eM 0 30 rfl, m2, m3]
  refine ⟨q1, q2, q3, q4, fun j hj => ?_⟩
  obtain ⟨a, b, cs, x1, x2, x3, x4⟩ := q5 j hj
  have q32 := q3.2
  refine ⟨a, b, cs, x1, x2, by rw [F 50 j (by omega) (by omega) (by omega)]; exact x3, fun i hi => ?_⟩
  have := x4 i hi
  rw [cCo_at (by omega)] at this ⊢
  rw [F _ _ (by omega) (by omega) (by omega)]
  exact this
/-- what starts a reading -/
theorem tape_C (R : RelK K c d) : PC c (fun k => bOf (d.1 1 k)) (dI (c.1 1 1)) := (tape_B R.1).1
theorem R_f1 (R : RelK K c d) : ∃ (r : Int32) (c' d' : dH), f_X5_findFault c = some (r, c') ∧ f_X12_goThrough 1 0 (d.1 0 6) d = some d' ∧ d'.1 0 11 = r ∧ RelK K c' d' ∧ FC (dI (c.1 42 1)) c c' ∧ (∀ a k, ¬ (a = 0 ∧ (8 ≤ k ∧ k ≤ 14 ∨ k = 17)) → d'.1 a k = d.1 a k) ∧ d'.2.1 = d.2.1 ∧ (r = -1 → ∃ cs, pLaw (fun k => bOf (d.1 1 k)) (dI (c.1 1 1)) = .inr cs ∧ cs.length ≤ 240 ∧ (c'.1 50 (dI (c.1 42 1))).toInt = cs.length ∧ ∀ i, (hi : i < cs.length) → c'.1 (45 + dI (c.1 42 1)) i = cs[i]) := by
  have Q3' := R.2.2.1
  have q3 := Q3'.2.2.1
  have q31 := q3.1
  have q32 := q3.2
  obtain ⟨kk, hk⟩ : ∃ kk : Nat, (c.1 42 1).toInt = kk := ⟨(c.1 42 1).toInt.toNat, by omega⟩
  have dk : dI (c.1 42 1) = kk := dI_of hk
  have k4 : kk ≤ 4 := by omega
  obtain ⟨tc, tm⟩ := tape_B R.1
  have len := R.1.1
  have hL := tc.2.1
  generalize hB : (fun k => bOf (d.1 1 k)) = B at tc tm ⊢
  generalize hl : dI (c.1 1 1) = L at tc tm hL ⊢
  rw [dk]
  -- the class
  have i5 : dIn (c.1 42 1) 5 := dIn_of hk (by omega)
  have eC : f_X5_findFault c = f_X5_findFault_L20 dFu 0 (dPut (dPut c 1 2 0) 50 kk 0) := by
    unfold f_X5_findFault
    rw [Option.bind_some, dPut_ne (by omega), if_pos i5, Option.bind_some, dk]
  have S : SC B L kk 0 [] (dPut (dPut c 1 2 0) 50 kk 0) := by
    refine ⟨PC_c (by rw [dPut_ne (by omega), dPut_ne (by omega)]) (fun k => by rw [dPut_ne (by omega), dPut_ne (by omega)]) tc, by rw [dPut_ne (by omega), dPut_at]; rfl, by omega, by rw [dPut_ne (by omega), dPut_ne (by omega)]; exact hk, k4, by rw [dPut_at]; rfl, Nat.le_refl _, fun i hi => absurd hi (by show ¬ i < 0; omega)⟩
  have F0 : FC kk c (dPut (dPut c 1 2 0) 50 kk 0) := fun a k h1 h2 h3 => by rw [dPut_ne h3, dPut_ne (fun z => h1 ⟨z.1, Or.inl z.2⟩)]
  obtain ⟨r, c', u1, u2, u3, u4⟩ := lp_law hL (L + 1) dFu 241 0 0 0 [] _ (by omega) (Nat.le_of_lt (fuel_lt (by omega))) (by omega) rfl (Nat.le_refl _) S F0
  -- the reference
  obtain ⟨env, hE⟩ : ∃ env, EV env d := ⟨e6 (d.1 4 107) (d.1 4 118) (d.1 4 111) (d.1 4 104) (d.1 4 110) (d.1 4 116), rfl, rfl, rfl, rfl, rfl, rfl⟩
  obtain ⟨d', g1, g2, g3, g4, g5⟩ := go_M (B := B) (L := L) (bs := 1) (env := env) (x2 := 0) (x3 := d.1 0 6) (h := d) (fun D h9 h8 ht h1 _ => tm D (by rw [h9, len]) h8 ht h1) hE
  have RR : RelK K c' d' := by
    obtain ⟨R0, R2, R3, R4, R5, R6, R7, R8, R9, R10, R11⟩ := R
    have onM : ∀ {mk : Nat → Nat → Bool}, (∀ k, 8 ≤ k ∧ k ≤ 14 ∨ k = 17 → mk 0 k = false) → eqOn mk d d' := fun {mk} hm a k h => g2 a k (fun z => by rw [z.1, hm k z.2] at h; cases h)
    have mm : ∀ {mk : Nat → Nat → Bool}, mk 0 8 = false → mk 0 9 = false → mk 0 10 = false → mk 0 11 = false → mk 0 12 = false → mk 0 13 = false → mk 0 14 = false → mk 0 17 = false → eqOn mk d d' := fun {mk} h8 h9 h10 h11 h12 h13 h14 h17 => onM (fun k hk => by
      rcases (show k = 8 ∨ k = 9 ∨ k = 10 ∨ k = 11 ∨ k = 12 ∨ k = 13 ∨ k = 14 ∨ k = 17 by omega) with e | e | e | e | e | e | e | e <;> rw [e] <;> assumption)
    have al : ∀ _k : Nat, true = true := fun _ => rfl
    exact ⟨Q1_e (u2.on k4 rfl rfl (fun _ => ⟨rfl, rfl, rfl, rfl, rfl, rfl⟩)) (mm rfl rfl rfl rfl rfl rfl rfl rfl) R0, Q2_e (u2.on k4 rfl rfl (fun _ => ⟨rfl, rfl, rfl, rfl, rfl, rfl⟩)) (mm rfl rfl rfl rfl rfl rfl rfl rfl) R2, Q3_draft u2 hk (mm rfl rfl rfl rfl rfl rfl rfl rfl) R3, mOK_e (mm rfl rfl rfl rfl rfl rfl rfl rfl) (by rw [g3]) R4, Q5_e (u2.on k4 rfl rfl (fun _ => ⟨rfl, rfl, rfl, rfl, rfl, rfl⟩)) (mm rfl rfl rfl rfl rfl rfl rfl rfl) R5, Q6_e (u2.on k4 rfl rfl (fun _ => ⟨rfl, rfl, rfl, rfl, rfl, rfl⟩)) (mm rfl rfl rfl rfl rfl rfl rfl rfl) R6, Q7_e (u2.on k4 rfl rfl (fun _ => ⟨rfl, rfl, rfl, rfl, rfl, rfl⟩)) (mm rfl rfl rfl rfl rfl rfl rfl rfl) R7, Q8_e (u2.on k4 rfl rfl (fun _ => ⟨rfl, rfl, rfl, rfl, rfl, rfl⟩)) (mm rfl rfl rfl rfl rfl rfl rfl rfl) R8, Q9_e (u2.on k4 rfl rfl (fun _ => ⟨rfl, rfl, rfl, rfl, rfl, rfl⟩)) (mm rfl rfl rfl rfl rfl rfl rfl rfl) R9, Q10_e (u2.on k4 rfl rfl (fun _ => ⟨rfl, rfl, rfl, rfl, rfl, rfl⟩)) (mm rfl rfl rfl rfl rfl rfl rfl rfl) R10, dXt_e (u2.on k4 rfl rfl (fun _ => ⟨rfl, rfl, rfl, rfl, rfl, rfl⟩)) R11⟩
  refine ⟨r, c', d', by rw [eC]; exact u1, g1, ?_, RR, u2, g2, g3, fun hr => ?_⟩
  · cases hp : pLaw B L with
    | inl e => rw [(g4 e hp).1, (u3 e hp).1]
    | inr cs => rw [(g5 cs hp).1, (u4 cs hp).1]
  · cases hp : pLaw B L with
    | inl e =>
      have := (u3 e hp)
      rw [this.1] at hr
      exact absurd hr (ofN_ne (by omega))
    | inr cs =>
      obtain ⟨a1, a2, a3, a4⟩ := u4 cs hp
      exact ⟨cs, rfl, a2, a3, a4⟩
end FA
