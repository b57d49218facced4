/-! PURE: reading the TAPE -/
def sg (B : Nat → Nat) (L j : Nat) : Int32 := if j < L then Int32.ofNat (B j) else -1
def PC (c : dH) (B : Nat → Nat) (L : Nat) : Prop := (c.1 1 1).toInt = L ∧ L ≤ 240 ∧ (∀ k, k < L → (c.1 2 k).toInt = B k) ∧ ∀ k, B k < 256
def PM (d : dH) (B : Nat → Nat) (L : Nat) : Prop := (d.1 0 9).toInt = L ∧ L ≤ 240 ∧ (d.2.2 = 1 ∨ d.2.2 = 2) ∧ 0 ≤ (d.1 0 8).toInt ∧ dI (d.1 0 8) + L ≤ bln d.2.2 ∧ (∀ k, k < L → (d.1 d.2.2 (dI (d.1 0 8) + k)).toInt = if B k < 128 then (B k : Int) else (B k : Int) - 256) ∧ ∀ k, B k < 256
theorem bln1 : bln 1 = 240 := rfl
theorem bln2 : bln 2 = 960 := rfl
theorem PC_c {c c' : dH} {B : Nat → Nat} {L : Nat} (e1 : c'.1 1 1 = c.1 1 1) (e2 : ∀ k, c'.1 2 k = c.1 2 k) (P : PC c B L) : PC c' B L := ⟨by rw [e1]; exact P.1, P.2.1, fun k hk => by rw [e2]; exact P.2.2.1 k hk, P.2.2.2⟩
theorem PM_c {d d' : dH} {B : Nat → Nat} {L : Nat} (e9 : d'.1 0 9 = d.1 0 9) (e8 : d'.1 0 8 = d.1 0 8) (et : d'.2.2 = d.2.2) (e1 : ∀ k, d'.1 1 k = d.1 1 k) (e2 : ∀ k, d'.1 2 k = d.1 2 k) (P : PM d B L) : PM d' B L := by
  obtain ⟨a, b, c, e, f, g, h⟩ := P
  refine ⟨by rw [e9]; exact a, b, by rw [et]; exact c, by rw [e8]; exact e, by rw [e8, et]; exact f, fun k hk => ?_, h⟩
  rw [et, e8]
  have := g k hk
  rcases c with c | c
  · rw [c] at this ⊢; rw [e1]; exact this
  · rw [c] at this ⊢; rw [e2]; exact this
theorem pSk_sp (B : Nat → Nat) (L : Nat) : ∀ (n i : Nat), i ≤ L → L - i ≤ n → i ≤ pSk B L n i ∧ pSk B L n i ≤ L ∧ ¬ (pSk B L n i < L ∧ B (pSk B L n i) = 32) := by
  intro n
  induction n with
  | zero => intro i h1 h2; exact ⟨Nat.le_refl _, h1, fun z => by have : pSk B L 0 i = i := rfl; omega⟩
  | succ n ih =>
    intro i h1 h2
    show i ≤ (if i < L ∧ B i = 32 then pSk B L n (i + 1) else i) ∧ (if i < L ∧ B i = 32 then pSk B L n (i + 1) else i) ≤ L ∧ ¬ ((if i < L ∧ B i = 32 then pSk B L n (i + 1) else i) < L ∧ B (if i < L ∧ B i = 32 then pSk B L n (i + 1) else i) = 32)
    by_cases q : i < L ∧ B i = 32
    · rw [if_pos q]
      have := ih (i + 1) (by omega) (by omega)
      exact ⟨by omega, this.2⟩
    · rw [if_neg q]
      exact ⟨Nat.le_refl _, h1, q⟩
theorem pSk_st {B : Nat → Nat} {L : Nat} {i : Nat} (q : ¬ (i < L ∧ B i = 32)) : ∀ n, pSk B L n i = i := by
  intro n
  cases n with
  | zero => rfl
  | succ n => exact if_neg q
theorem pSk_fu (B : Nat → Nat) (L : Nat) : ∀ (n n2 i : Nat), L - i ≤ n → L - i ≤ n2 → pSk B L n i = pSk B L n2 i := by
  intro n
  induction n with
  | zero =>
    intro n2 i h1 h2
    rw [pSk_st (by omega) n2]
    rfl
  | succ n ih =>
    intro n2 i h1 h2
    by_cases q : i < L ∧ B i = 32
    · obtain ⟨n2, rfl⟩ : ∃ z, n2 = z + 1 := ⟨n2 - 1, by omega⟩
      show (if i < L ∧ B i = 32 then pSk B L n (i + 1) else i) = (if i < L ∧ B i = 32 then pSk B L n2 (i + 1) else i)
      rw [if_pos q, if_pos q]
      exact ih n2 (i + 1) (by omega) (by omega)
    · rw [pSk_st q, pSk_st q]
theorem pS_le {B : Nat → Nat} {L i : Nat} (hi : i ≤ L) (hL : L ≤ 240) : i ≤ pS B L i ∧ pS B L i ≤ L := by
  have := pSk_sp B L 256 i hi (by omega)
  exact ⟨this.1, this.2.1⟩
theorem pS_pS {B : Nat → Nat} {L i : Nat} (hi : i ≤ L) (hL : L ≤ 240) : pS B L (pS B L i) = pS B L i := by
  have := pSk_sp B L 256 i hi (by omega)
  exact pSk_st this.2.2 256
theorem pS_s {B : Nat → Nat} {L i : Nat} (q : i < L ∧ B i = 32) (hL : L ≤ 240) : pS B L i = pS B L (i + 1) := by
  unfold pS
  show (if i < L ∧ B i = 32 then pSk B L 255 (i + 1) else i) = _
  rw [if_pos q]
  exact pSk_fu B L 255 256 (i + 1) (by omega) (by omega)
section TA
variable {c d : dH} {B : Nat → Nat} {L i : Nat} {x : Int32}
theorem oNat {k : Nat} (h : x.toInt = k) : x = Int32.ofNat k ∨ 2147483648 ≤ k := by
  by_cases q : k < 2147483648
  · exact Or.inl (by rw [i_eq, h, i_ofNat q])
  · exact Or.inr (by omega)
theorem sg_in (hB : ∀ k, B k < 256) {j : Nat} (h : j < L) : (sg B L j).toInt = B j := by
  unfold sg
  rw [if_pos h, i_ofNat (by have := hB j; omega)]
theorem sg_out {j : Nat} (h : ¬ j < L) : sg B L j = -1 := if_neg h
theorem sg_m1 (hB : ∀ k, B k < 256) {j : Nat} : sg B L j = -1 ↔ ¬ j < L := by
  constructor
  · intro h q
    have := sg_in hB q
    rw [h, tm1] at this
    omega
  · exact sg_out
theorem lp_sign : ∀ (m n i : Nat) (c : dH), PC c B L → L - i ≤ m → m < n → i ≤ L → (c.1 1 2).toInt = i → ∃ c1 : dH, f_X9_sign_L0 n c = some (sg B L (pS B L i), c1) ∧ (c1.1 1 2).toInt = pS B L i ∧ (∀ a k, ¬ (a = 1 ∧ k = 2) → c1.1 a k = c.1 a k) := by
  intro m
  have k32 : (32 : Int32).toInt = 32 := rfl
  induction m with
  | zero =>
    intro n i c P hm hn hL hi
    obtain ⟨n, rfl⟩ : ∃ z, n = z + 1 := ⟨n - 1, by omega⟩
    have a : ¬ c.1 1 2 < c.1 1 1 := by rw [i_lt, P.1]; omega
    rw [f_X9_sign_L0, if_neg a]
    unfold f_X9_sign_J38
    rw [if_neg a]
    have e : pS B L i = i := pSk_st (by omega) 256
    rw [e]
    exact ⟨c, by rw [sg_out (by omega)], hi, fun _ _ _ => rfl⟩
  | succ m ih =>
    intro n i c P hm hn hL hi
    obtain ⟨n, rfl⟩ : ∃ z, n = z + 1 := ⟨n - 1, by omega⟩
    have hP := P.2.1
    by_cases q0 : i < L
    · have a : c.1 1 2 < c.1 1 1 := by rw [i_lt, P.1]; omega
      have hin : dIn (c.1 1 2) 240 := ⟨by omega, by omega⟩
      have bi := P.2.2.1 i q0
      rw [f_X9_sign_L0, if_pos a, if_pos hin, dI_of hi]
      by_cases q : B i = 32
      · rw [if_pos (by rw [i_eq, bi, q, k32]; rfl), Option.bind_some]
        obtain ⟨c1, e1, e2, e3⟩ := ih n (i + 1) (dPut c 1 2 (c.1 1 2 + 1)) (PC_c (dPut_ne (by omega)) (fun k => dPut_ne (by omega)) P) (by omega) (by omega) (by omega) (by rw [dPut_at, i_add1 (by omega), hi]; omega)
        rw [pS_s ⟨q0, q⟩ hP]
        exact ⟨c1, e1, e2, fun a k h => by rw [e3 a k h, dPut_ne h]⟩
      · rw [if_neg (by rw [i_eq, bi, k32]; omega)]
        unfold f_X9_sign_J38
        rw [if_pos a, if_pos hin, dI_of hi]
        have e : pS B L i = i := pSk_st (by omega) 256
        rw [e]
        refine ⟨c, ?_, hi, fun _ _ _ => rfl⟩
        rw [show c.1 2 i = sg B L i by rw [i_eq, bi, sg_in P.2.2.2 q0]]
    · have a : ¬ c.1 1 2 < c.1 1 1 := by rw [i_lt, P.1]; omega
      rw [f_X9_sign_L0, if_neg a]
      unfold f_X9_sign_J38
      rw [if_neg a]
      have e : pS B L i = i := pSk_st (by omega) 256
      rw [e]
      exact ⟨c, by rw [sg_out (by omega)], hi, fun _ _ _ => rfl⟩
theorem C_sign (P : PC c B L) (hi : (c.1 1 2).toInt = i) (hL : i ≤ L) : ∃ c1 : dH, f_X9_sign c = some (sg B L (pS B L i), c1) ∧ (c1.1 1 2).toInt = pS B L i ∧ (∀ a k, ¬ (a = 1 ∧ k = 2) → c1.1 a k = c.1 a k) := by
  have e : f_X9_sign c = f_X9_sign_L0 (dFu + 1) c := by
    rw [f_X9_sign_L0]
    rfl
  rw [e]
  have hP := P.2.1
  exact lp_sign (L - i) (dFu + 1) i c P (Nat.le_refl _) (Nat.lt_succ_of_lt (fuel_lt (by omega))) hL hi
theorem C_take (P : PC c B L) (hi : (c.1 1 2).toInt = i) (hL : i ≤ L) (x : Int32) : ∃ c1 : dH, f_X9_take x c = some (decide (sg B L (pS B L i) = x), c1) ∧ (c1.1 1 2).toInt = ((if sg B L (pS B L i) = x then pS B L i + 1 else pS B L i : Nat) : Int) ∧ (∀ a k, ¬ (a = 1 ∧ k = 2) → c1.1 a k = c.1 a k) := by
  obtain ⟨c1, e1, e2, e3⟩ := C_sign P hi hL
  have := pS_le (B := B) hL P.2.1
  have hP := P.2.1
  unfold f_X9_take
  rw [e1, Option.bind_some]
  dsimp only
  by_cases q : sg B L (pS B L i) = x
  · rw [if_pos q, if_pos q, decide_eq_true q]
    exact ⟨_, rfl, by rw [dPut_at, i_add1 (by omega), e2]; omega, fun a k h => by rw [dPut_ne h, e3 a k h]⟩
  · rw [if_neg q, if_neg q, decide_eq_false q]
    exact ⟨c1, rfl, e2, e3⟩
theorem C_isDigit (hB : ∀ k, B k < 256) (j : Nat) (h : dH) : f_X9_isDigit (sg B L j) h = pDig B L j := by
  have k48 : (48 : Int32).toInt = 48 := rfl
  have k57 : (57 : Int32).toInt = 57 := rfl
  unfold f_X9_isDigit pDig
  by_cases q : j < L
  · have e := sg_in hB q
    by_cases a : sg B L j < 48
    · rw [if_pos a]
      rw [i_lt, k48] at a
      exact (decide_eq_false (by omega)).symm
    · rw [if_neg a]
      rw [i_lt, k48] at a
      by_cases b : 57 < sg B L j
      · rw [if_pos b]
        rw [i_lt, k57] at b
        exact (decide_eq_false (by omega)).symm
      · rw [if_neg b]
        rw [i_lt, k57] at b
        exact (decide_eq_true (by omega)).symm
  · rw [sg_out q, if_pos (by decide)]
    exact (decide_eq_false (by omega)).symm
/-! the reference's -/
theorem M_at (P : PM d B L) (hi : (d.1 0 10).toInt = i) (q : i < L) : dIn (d.1 0 8 + d.1 0 10) (bln d.2.2) ∧ dI (d.1 0 8 + d.1 0 10) = dI (d.1 0 8) + i := by
  obtain ⟨a, b, c, e, f, g, h⟩ := P
  have d8 := dI_c e
  have hb : bln d.2.2 ≤ 960 := by
    rcases c with c | c
    · rw [c, bln1]; omega
    · rw [c, bln2]; omega
  have e1 : (d.1 0 8 + d.1 0 10).toInt = ((dI (d.1 0 8) + i : Nat) : Int) := by rw [i_add (by omega)]; omega
  exact ⟨dIn_of e1 (by omega), dI_of e1⟩
theorem M_by (P : PM d B L) {k : Nat} (q : k < L) : (d.1 d.2.2 (dI (d.1 0 8) + k) &&& 255) = sg B L k ∧ (d.1 d.2.2 (dI (d.1 0 8) + k) = 32 ↔ B k = 32) := by
  obtain ⟨a, b, c, e, f, g, h⟩ := P
  have g1 := g k q
  have h1 := h k
  have k32 : (32 : Int32).toInt = 32 := rfl
  refine ⟨?_, ?_⟩
  · rw [i_eq, and255, sg_in h q, g1]
    split <;> omega
  · rw [i_eq, g1, k32]
    split <;> omega
theorem lp_look : ∀ (m n i : Nat) (d : dH), PM d B L → L - i ≤ m → m < n → i ≤ L → (d.1 0 10).toInt = i → ∃ d1 : dH, f_X12_look_L0 n d = some (sg B L (pS B L i), d1) ∧ (d1.1 0 10).toInt = pS B L i ∧ (∀ a k, ¬ (a = 0 ∧ k = 10) → d1.1 a k = d.1 a k) ∧ d1.2 = d.2 := by
  intro m
  induction m with
  | zero =>
    intro n i d P hm hn hL hi
    obtain ⟨n, rfl⟩ : ∃ z, n = z + 1 := ⟨n - 1, by omega⟩
    have a : ¬ d.1 0 10 < d.1 0 9 := by rw [i_lt, P.1]; omega
    rw [f_X12_look_L0, if_neg a]
    unfold f_X12_look_J43
    rw [if_neg a]
    have e : pS B L i = i := pSk_st (by omega) 256
    rw [e]
    exact ⟨d, by rw [sg_out (by omega)], hi, fun _ _ _ => rfl, rfl⟩
  | succ m ih =>
    intro n i d P hm hn hL hi
    obtain ⟨n, rfl⟩ : ∃ z, n = z + 1 := ⟨n - 1, by omega⟩
    have hP := P.2.1
    by_cases q0 : i < L
    · have a : d.1 0 10 < d.1 0 9 := by rw [i_lt, P.1]; omega
      obtain ⟨hin, hix⟩ := M_at P hi q0
      obtain ⟨b1, b2⟩ := M_by P q0
      have tn0 : d.2.2 ≠ 0 := by rcases P.2.2.1 with z | z <;> omega
      rw [f_X12_look_L0, if_pos a, if_pos hin, hix]
      by_cases q : B i = 32
      · rw [if_pos (b2.mpr q), Option.bind_some]
        obtain ⟨d1, e1, e2, e3, e4⟩ := ih n (i + 1) (dPut d 0 10 (d.1 0 10 + 1)) (PM_c (dPut_ne (by omega)) (dPut_ne (by omega)) rfl (fun k => dPut_ne (by omega)) (fun k => dPut_ne (by omega)) P) (by omega) (by omega) (by omega) (by rw [dPut_at, i_add1 (by omega), hi]; omega)
        rw [pS_s ⟨q0, q⟩ hP]
        exact ⟨d1, e1, e2, fun a k h => by rw [e3 a k h, dPut_ne h], e4⟩
      · rw [if_neg (fun z => q (b2.mp z))]
        unfold f_X12_look_J43
        rw [if_pos a, if_pos hin, hix, b1]
        have e : pS B L i = i := pSk_st (by omega) 256
        rw [e]
        exact ⟨d, rfl, hi, fun _ _ _ => rfl, rfl⟩
    · have a : ¬ d.1 0 10 < d.1 0 9 := by rw [i_lt, P.1]; omega
      rw [f_X12_look_L0, if_neg a]
      unfold f_X12_look_J43
      rw [if_neg a]
      have e : pS B L i = i := pSk_st (by omega) 256
      rw [e]
      exact ⟨d, by rw [sg_out (by omega)], hi, fun _ _ _ => rfl, rfl⟩
theorem M_look (P : PM d B L) (hi : (d.1 0 10).toInt = i) (hL : i ≤ L) : ∃ d1 : dH, f_X12_look d = some (sg B L (pS B L i), d1) ∧ (d1.1 0 10).toInt = pS B L i ∧ (∀ a k, ¬ (a = 0 ∧ k = 10) → d1.1 a k = d.1 a k) ∧ d1.2 = d.2 := by
  have e : f_X12_look d = f_X12_look_L0 (dFu + 1) d := by
    rw [f_X12_look_L0]
    rfl
  rw [e]
  have hP := P.2.1
  exact lp_look (L - i) (dFu + 1) i d P (Nat.le_refl _) (Nat.lt_succ_of_lt (fuel_lt (by omega))) hL hi
theorem M_here (P : PM d B L) (hi : (d.1 0 10).toInt = i) : f_X12_here d = some (sg B L i) := by
  unfold f_X12_here
  by_cases q0 : i < L
  · obtain ⟨hin, hix⟩ := M_at P hi q0
    rw [if_pos (show d.1 0 10 < d.1 0 9 by rw [i_lt, P.1]; omega), if_pos hin, hix, (M_by P q0).1]
  · rw [if_neg (show ¬ d.1 0 10 < d.1 0 9 by rw [i_lt, P.1]; omega), sg_out q0]
theorem M_isDigit (P : PM d B L) (hi : (d.1 0 10).toInt = i) : f_X12_isDigit d = some (pDig B L i) := by
  have k48 : (48 : Int32).toInt = 48 := rfl
  have k57 : (57 : Int32).toInt = 57 := rfl
  unfold f_X12_isDigit pDig
  by_cases q0 : i < L
  · obtain ⟨hin, hix⟩ := M_at P hi q0
    have g := P.2.2.2.2.2.1 i q0
    have h1 := P.2.2.2.2.2.2 i
    rw [if_pos (show d.1 0 10 < d.1 0 9 by rw [i_lt, P.1]; omega), if_pos hin, if_pos hin, hix]
    by_cases a : d.1 d.2.2 (dI (d.1 0 8) + i) < 48
    · rw [if_pos a]
      rw [i_lt, k48, g] at a
      refine congrArg some (decide_eq_false ?_).symm
      split at a <;> omega
    · rw [if_neg a]
      rw [i_lt, k48, g] at a
      by_cases b : 57 < d.1 d.2.2 (dI (d.1 0 8) + i)
      · rw [if_pos b]
        rw [i_lt, k57, g] at b
        refine congrArg some (decide_eq_false ?_).symm
        split at b <;> omega
      · rw [if_neg b]
        rw [i_lt, k57, g] at b
        refine congrArg some (decide_eq_true ?_).symm
        split at b
        · rw [if_pos (by assumption)] at a
          omega
        · omega
  · rw [if_neg (show ¬ d.1 0 10 < d.1 0 9 by rw [i_lt, P.1]; omega)]
    exact congrArg some (decide_eq_false (by omega)).symm
theorem M_fails (h11 : d.1 0 11 = -1) : f_X12_fails d = some (false, dPut d 0 11 (d.1 0 10)) := by
  unfold f_X12_fails
  rw [if_pos h11]
end TA
/-- both tapes -/
theorem tape_B {c d : dH} (Q : Q1 c d) : PC c (fun k => bOf (d.1 1 k)) (dI (c.1 1 1)) ∧ ∀ d' : dH, d'.1 0 9 = c.1 1 1 → d'.1 0 8 = 0 → d'.2.2 = 1 → (∀ k, d'.1 1 k = d.1 1 k) → PM d' (fun k => bOf (d.1 1 k)) (dI (c.1 1 1)) := by
  obtain ⟨q1, q2, q3⟩ := Q
  have dl := dI_c q2.1
  have q22 := q2.2
  have hB : ∀ k, bOf (d.1 1 k) < 256 := fun k => by unfold bOf; omega
  have key : ∀ k, k < dI (c.1 1 1) → (c.1 2 k).toInt = bOf (d.1 1 k) ∧ (d.1 1 k).toInt = if bOf (d.1 1 k) < 128 then (bOf (d.1 1 k) : Int) else (bOf (d.1 1 k) : Int) - 256 := fun k hk => by
    obtain ⟨b, t⟩ := q3 k (by omega)
    have b1 := b.1
    have b2 := b.2
    have e : (bOf (d.1 1 k) : Int) = (c.1 2 k).toInt := by
      unfold bOf
      rw [t]
      split <;> omega
    refine ⟨e.symm, ?_⟩
    rw [t]
    split <;> split <;> omega
  refine ⟨⟨dl.symm, by omega, fun k hk => (key k hk).1, hB⟩, fun d' e9 e8 et e1 => ⟨by rw [e9]; exact dl.symm, by omega, Or.inl et, by rw [e8]; decide, by rw [e8, et, bln1]; show 0 + _ ≤ 240; omega, fun k hk => ?_, hB⟩⟩
  rw [et, e8, show dI 0 + k = k by show 0 + k = k; omega, e1]
  exact (key k hk).2
