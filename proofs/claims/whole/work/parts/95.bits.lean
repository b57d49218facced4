/-! PURE: sets as bits; MANNERS -/
def bI (x : Int32) (q : Nat) : Bool := x.toBitVec.getLsbD q
theorem shr_n : ∀ q, q < 7 → ((Int32.ofNat q &&& 31).toBitVec.smod 32).toNat = q := by decide
theorem shr_at (x : Int32) {q : Nat} (hq : q < 7) : (x >>> (Int32.ofNat q &&& 31)).toBitVec = x.toBitVec.sshiftRight q := by
  show x.toBitVec.sshiftRight ((Int32.ofNat q &&& 31).toBitVec.smod 32).toNat = _
  rw [shr_n q hq]
theorem isIn_b (x : Int32) (h : dH) {q : Nat} (hq : q < 7) : f_X11_isIn x (Int32.ofNat q) h = bI x q := by
  have e := shr_at x hq
  have e2 : (x.toBitVec.sshiftRight q).getLsbD 0 = x.toBitVec.getLsbD q := by
    rw [BitVec.getLsbD_sshiftRight, if_pos (by omega), Nat.add_zero]
    rfl
  have key : ((x >>> (Int32.ofNat q &&& 31)) &&& 1).toBitVec = BitVec.setWidth 32 (BitVec.ofBool (x.toBitVec.getLsbD q)) := by
    show (x >>> (Int32.ofNat q &&& 31)).toBitVec &&& 1#32 = _
    rw [e, BitVec.and_one_eq_setWidth_ofBool_getLsbD, e2]
  unfold f_X11_isIn bI
  cases hb : x.toBitVec.getLsbD q
  · rw [hb] at key
    rw [if_pos (Int32.toBitVec_inj.mp (key.trans (by decide)))]
  · rw [hb] at key
    rw [if_neg (fun z => by rw [z] at key; exact absurd key (by decide))]
theorem bit_tab : ∀ p, p < 7 → ∀ q, q < 7 → ((1 <<< (Int32.ofNat p &&& 31) : Int32)).toBitVec.getLsbD q = decide (p = q) := by decide
theorem bit_tab2 : ∀ p, p < 7 → ∀ q, q < 7 → (((1 <<< (Int32.ofNat p &&& 31) : Int32)) ^^^ (-1)).toBitVec.getLsbD q = !decide (p = q) := by decide
theorem bI_or (x : Int32) {p q : Nat} (hp : p < 7) (hq : q < 7) : bI (x ||| (1 <<< (Int32.ofNat p &&& 31))) q = (bI x q || decide (p = q)) := by
  unfold bI
  show (x.toBitVec ||| (1 <<< (Int32.ofNat p &&& 31) : Int32).toBitVec).getLsbD q = _
  rw [BitVec.getLsbD_or, bit_tab p hp q hq]
theorem bI_del (x : Int32) {p q : Nat} (hp : p < 7) (hq : q < 7) : bI (x &&& ((1 <<< (Int32.ofNat p &&& 31)) ^^^ (-1))) q = (bI x q && !decide (p = q)) := by
  unfold bI
  show (x.toBitVec &&& ((1 <<< (Int32.ofNat p &&& 31) : Int32) ^^^ (-1)).toBitVec).getLsbD q = _
  rw [BitVec.getLsbD_and, bit_tab2 p hp q hq]
theorem bI_0 (q : Nat) : bI 0 q = false := by
  show (0#32).getLsbD q = false
  exact BitVec.getLsbD_zero
theorem or_ne (a : Int32) {b : Int32} (hb : b ≠ 0) : a ||| b ≠ 0 := fun z => by
  have h : a.toBitVec ||| b.toBitVec = 0#32 := congrArg Int32.toBitVec z
  exact hb (Int32.toBitVec_inj.mp (BitVec.or_eq_zero_iff.mp h).2)
theorem bit_ne : ∀ p, p < 7 → ((1 <<< (Int32.ofNat p &&& 31) : Int32)) ≠ 0 := by decide
theorem tm_ne {tr pa : Nat → Int32} : ∀ (k p : Nat) (b : Int32), p + k ≤ 7 → b ≠ 0 → tm tr pa k p b ≠ 0 := by
  intro k
  induction k with
  | zero => intro p b _ hb; exact hb
  | succ k ih =>
    intro p b hp hb
    show tm tr pa k (p + 1) _ ≠ 0
    refine ih (p + 1) _ (by omega) ?_
    split
    · exact or_ne b (bit_ne p (by omega))
    · exact hb
theorem tm_0 {tr pa : Nat → Int32} : ∀ (k p : Nat), p + k ≤ 7 → (tm tr pa k p 0 = 0 ↔ ∀ i, p ≤ i → i < p + k → ¬ pa i < tr i) := by
  intro k
  induction k with
  | zero => intro p _; exact ⟨fun _ i h1 h2 => by omega, fun _ => rfl⟩
  | succ k ih =>
    intro p hp
    show tm tr pa k (p + 1) (if pa p < tr p then (0 : Int32) ||| (1 <<< (Int32.ofNat p &&& 31)) else 0) = 0 ↔ _
    by_cases q : pa p < tr p
    · rw [if_pos q]
      exact ⟨fun z => absurd z (tm_ne k (p + 1) _ (by omega) (or_ne 0 (bit_ne p (by omega)))), fun z => absurd q (z p (by omega) (by omega))⟩
    · rw [if_neg q, ih (p + 1) (by omega)]
      constructor
      · intro z i h1 h2
        by_cases e : i = p
        · rw [e]; exact q
        · exact z i (by omega) (by omega)
      · intro z i h1 h2
        exact z i (by omega) (by omega)
section MN
variable {K : Int} {n w : Nat} {hC hM hC' hM' : dH} {x y : Int32}
theorem shl_np : ∀ k, k ≤ 7 → 1 ≤ ((1 <<< (Int32.ofNat k &&& 31) : Int32)).toInt ∧ ((1 <<< (Int32.ofNat k &&& 31) : Int32)).toInt ≤ 128 ∧ (k = 0 → ((1 <<< (Int32.ofNat k &&& 31) : Int32)).toInt = 1) := by decide
theorem isSet_eq (C : Ct hC hM) : f_X1_isSet x hC = f_X12_isSet x hM := by
  have nx := C.nat
  have en : hC.1 3 2 = Int32.ofNat (dI (hC.1 3 2)) := i_nat C.ge
  obtain ⟨s1, s2, s3⟩ := shl_np (dI (hC.1 3 2)) nx.2
  rw [← en] at s1 s2 s3
  unfold f_X1_isSet f_X12_isSet
  have k1 : (1 : Int64).toInt = 1 := rfl
  rw [C.np, M_isIn, k1, l_ofI, i_sub (by rw [t1]; omega), t1]
  generalize 1 <<< (hC.1 3 2 &&& 31) = sh at s1 s2 s3
  by_cases hp : 0 < hC.1 3 2
  · rw [if_pos hp]
    by_cases a : 1 ≤ x.toInt ∧ x.toInt ≤ sh.toInt - 1
    · rw [if_pos (show decide (1 ≤ x.toInt ∧ x.toInt ≤ sh.toInt - 1) = true from decide_eq_true a), if_pos (show 0 < x by rw [i_lt, t0]; omega), if_pos (show x < sh by rw [i_lt]; omega)]
    · rw [if_neg (show ¬ decide (1 ≤ x.toInt ∧ x.toInt ≤ sh.toInt - 1) = true by rw [decide_eq_true_iff]; exact a)]
      by_cases b : 0 < x
      · rw [if_pos b, if_neg (by rw [i_lt]; rw [i_lt, t0] at b; omega)]
      · rw [if_neg b]
  · rw [if_neg hp]
    rw [i_lt, t0] at hp
    by_cases b : 0 < x
    · rw [if_pos b, if_neg (by rw [i_lt]; rw [i_lt, t0] at b; have := s3 (by omega); omega)]
    · rw [if_neg b]
theorem isSet_np (C : Ct hC hM) (h : f_X1_isSet x hC = true) : 0 < (hC.1 3 2).toInt := by
  rw [isSet_eq C] at h
  unfold f_X12_isSet at h
  rw [C.np] at h
  by_cases hp : 0 < hC.1 3 2
  · rw [i_lt, t0] at hp; exact hp
  · rw [if_neg hp] at h; cases h
/-- the trial of MANNERS at the PLACE j -/
def T2 (hC hM : dH) (j : Nat) (f ho ti : Int32) : Prop := Ct hC hM ∧ hM.1 0 30 = -1 ∧ hM.1 12 23 - 1 = f ∧ hM.1 12 21 = ho ∧ hM.1 12 22 = ti ∧ Pl' hC f ∧ (∀ p, p < 7 → j ≤ p → hM.1 12 (3 * p + 2) = hC.1 67 (7 + p) ∧ hM.1 12 (3 * p) = hC.1 67 (14 + p)) ∧ (∀ p, p < 7 → hM.1 12 (3 * p + 1) = hC.1 67 (21 + p))
theorem lp_man {set co more : Int32} (hco : ∀ d : dH, gM 12 hM d → d.1 5 2 + more = co) {kL : Int32 → Int32 → dH → Option (Int32 × dH)} : ∀ (m n n2 j : Nat) (y f ho ti : Int32) (d : dH), m < n → m < n2 → y.toInt = j → j + m = dI (hC.1 3 2) → T2 hC d j f ho ti → gM 12 hM d → ∃ (b : Bool) (d' : dH), f_X7_isBorne_L29 hC n set co f ho ti y = some b ∧ f_X12_manners_L51 kL n2 set more y d = (if tmM 12 d' = 0 then some (more, d') else kL set (more + 1) d') ∧ gM 12 d d' ∧ (∀ p, p < j → d'.1 12 (3 * p) = d.1 12 (3 * p)) ∧ (∀ p, p < 7 → d'.1 12 (3 * p + 1) = d.1 12 (3 * p + 1)) ∧ (b = true ↔ ∀ p, j ≤ p → p < dI (hC.1 3 2) → ¬ d'.1 12 (3 * p + 1) < d'.1 12 (3 * p)) := by
  intro m
  induction m with
  | zero =>
    intro n n2 j y f ho ti d hn hn2 hy hj T g
    obtain ⟨n, rfl⟩ : ∃ z, n = z + 1 := ⟨n - 1, by omega⟩
    obtain ⟨n2, rfl⟩ : ∃ z, n2 = z + 1 := ⟨n2 - 1, by omega⟩
    have C := T.1
    rw [f_X7_isBorne_L29, f_X12_manners_L51, C.np, if_neg (ge_j C hy hj), if_neg (ge_j C hy hj), M_tooMuch 12 C.h7, Option.bind_some]
    exact ⟨true, d, rfl, rfl, gM_rf _ _, fun _ _ => rfl, fun _ _ => rfl, fun _ p h1 h2 => by omega, fun _ => rfl⟩
  | succ m ih =>
    intro n n2 j y f ho ti d hn hn2 hy hj T g
    obtain ⟨n, rfl⟩ : ∃ z, n = z + 1 := ⟨n - 1, by omega⟩
    obtain ⟨n2, rfl⟩ : ∃ z, n2 = z + 1 := ⟨n2 - 1, by omega⟩
    obtain ⟨C, hl, e23, e21, e22, hf, rows, pats⟩ := id T
    have hx := pl_j C hy hj
    have nx := C.nat
    have dy : dI y = j := dI_of hy
    have hcw : f_X12_canWalk 12 y d = some (cwB hC f ho ti y) := by rw [M_canWalk C 12 (by rw [e23]; exact hf), e23, e21, e22]
    -- what comes of one PLACE
    have fin : ∀ (v : Int32) (f' ho' ti' : Int32) (d1 : dH), T2 hC d1 (j + 1) f' ho' ti' → gM 12 d d1 → d1.1 12 (3 * j) = hC.1 67 (14 + j) + v → (∀ p, p < j → d1.1 12 (3 * p) = d.1 12 (3 * p)) → (∀ p, p < 7 → d1.1 12 (3 * p + 1) = d.1 12 (3 * p + 1)) → ∃ (b : Bool) (d' : dH), f_X7_isBorne_J116 (f_X7_isBorne_L29 hC n) set co f' ho' ti' y v hC = some b ∧ f_X12_manners_L51 kL n2 set more (y + 1) d1 = (if tmM 12 d' = 0 then some (more, d') else kL set (more + 1) d') ∧ gM 12 d d' ∧ (∀ p, p < j → d'.1 12 (3 * p) = d.1 12 (3 * p)) ∧ (∀ p, p < 7 → d'.1 12 (3 * p + 1) = d.1 12 (3 * p + 1)) ∧ (b = true ↔ ∀ p, j ≤ p → p < dI (hC.1 3 2) → ¬ d'.1 12 (3 * p + 1) < d'.1 12 (3 * p)) := by
      intro v f' ho' ti' d1 T' g1 ev q1 q2
      obtain ⟨b, d', u1, u2, u3, u4, u5, u6⟩ := ih n n2 (j + 1) (y + 1) f' ho' ti' d1 (by omega) (by omega) (y_suc hy (by omega)) (by omega) T' (gM_tr g g1)
      have ej : d'.1 12 (3 * j) = hC.1 67 (14 + j) + v := by rw [u4 j (by omega), ev]
      have ep : d'.1 12 (3 * j + 1) = hC.1 67 (21 + j) := by rw [u5 j (by omega), q2 j (by omega), pats j (by omega)]
      unfold f_X7_isBorne_J116
      rw [C_isTooMuch C hx, Option.bind_some, dy]
      by_cases z : hC.1 67 (21 + j) < hC.1 67 (14 + j) + v
      · rw [if_pos (decide_eq_true z)]
        refine ⟨false, d', rfl, u2, gM_tr g1 u3, fun p hp => (u4 p (by omega)).trans (q1 p hp), fun p hp => (u5 p hp).trans (q2 p hp), (fun w => by cases w), fun w => ?_⟩
        exact absurd (by rw [ep, ej]; exact z) (w j (by omega) (by omega))
      · rw [if_neg (show ¬ decide (hC.1 67 (21 + j) < hC.1 67 (14 + j) + v) = true by rw [decide_eq_true_iff]; exact z)]
        refine ⟨b, d', u1, u2, gM_tr g1 u3, fun p hp => (u4 p (by omega)).trans (q1 p hp), fun p hp => (u5 p hp).trans (q2 p hp), fun w p h1 h2 => ?_, fun w => u6.mpr (fun p h1 h2 => w p (by omega) h2)⟩
        by_cases e : p = j
        · rw [e, ep, ej]; exact z
        · exact u6.mp w p (by omega) h2
    have skip := fin 0 f ho ti d ⟨C, hl, e23, e21, e22, hf, fun p h1 h2 => rows p h1 (by omega), pats⟩ (gM_rf _ _) (by rw [Int32.add_zero]; exact (rows j (by omega) (by omega)).2) (fun _ _ => rfl) (fun _ _ => rfl)
    rw [f_X7_isBorne_L29, f_X12_manners_L51, C.np, if_pos (lt_j C hy hj), if_pos (lt_j C hy hj), has_isIn set y d hC]
    unfold f_X12_manners_J101
    by_cases hs : f_X11_isIn set y hC = true
    · rw [if_pos hs, if_pos hs, C_couldWalk C 66 hf, hcw, Option.bind_some, Option.bind_some]
      by_cases cw : cwB hC f ho ti y = true
      · rw [if_pos cw, if_pos cw, C_apart C hf hx.p', Option.bind_some, Option.bind_some, C_visitsOf C 66 hx, Option.bind_some, Option.bind_some, hco d g]
        have et := M_trouble0 (hM := d) (hx.in7 C) 12 (hC.1 (6 + dI y) 3) co hl
        obtain ⟨d1, w1, w22, w21, w23, w24, wt, wv, wk, gg⟩ := M_wk C hx (by rw [e23]; exact hf) et (fM_rf _)
        rw [w1, Option.bind_some]
        have ev : f_X8_troubleWithoutLaw (hC.1 (66 + 1) (7 + dI y)) co hC = jmax 0 (jmin 30 (4 + 2 * d.1 12 (3 * dI y + 2) - co)) := by
          unfold f_X8_troubleWithoutLaw
          rw [held30, (rows (dI y) (by omega) (by omega)).1]
        rw [ev]
        refine fin _ y (ho + (wF hC f y + 1)) (ti + wF hC f y) d1 ⟨gg.ct (Or.inr rfl) C, by rw [gg.2.1 30 (by omega)]; exact hl, by rw [w23, Int32.add_sub_cancel], by rw [w21, e23, e21], by rw [w22, e23, e22], hx.p', fun p h1 h2 => ?_, fun p h1 => ?_⟩ gg ?_ (fun p hp => wk _ (by omega) (by omega) (by omega)) (fun p hp => wk _ (by omega) (by omega) (by omega))
        · rw [wk (3 * p + 2) (by omega) (by omega) (by omega), wk (3 * p) (by omega) (by omega) (by omega)]
          exact rows p h1 (by omega)
        · rw [wk (3 * p + 1) (by omega) (by omega) (by omega)]
          exact pats p h1
        · rw [← dy, wt, (rows (dI y) (by omega) (by omega)).2]
      · rw [if_neg cw, if_neg cw]
        exact skip
    · rw [if_neg hs, if_neg hs]
      exact skip
theorem lp_man2 (R : RelK K hC hM) (hl : hC.1 42 2 = -1) {set : Int32} : ∀ (m n n2 j : Nat) (y3 y2 : Int32) (d : dH), m < n → m < n2 → (hC.1 4 2 + y2).toInt = j → j + m = 10 → y3 = hC.1 4 2 + y2 → y2.toInt + (hC.1 4 2).toInt = j → gM 12 hM d → ∃ (v : Int32) (d' : dH), f_X11_manners_L36 hC n set (hC.1 4 2) y3 = some v ∧ f_X12_manners_L25 n2 set y2 d = some (v, d') ∧ gM 12 hM d' := by
  intro m
  have k9 : (9 : Int32).toInt = 9 := rfl
  have r2 := R.ct.2.1.2.2.2.1
  have r21 := r2.1
  have r22 := r2.2
  induction m with
  | zero =>
    intro n n2 j y3 y2 d hn hn2 hy hj e3 ej g
    obtain ⟨n, rfl⟩ : ∃ z, n = z + 1 := ⟨n - 1, by omega⟩
    obtain ⟨n2, rfl⟩ : ∃ z, n2 = z + 1 := ⟨n2 - 1, by omega⟩
    have C : Ct hC d := g.ct (Or.inr rfl) R.ct
    have a : 9 < hC.1 4 2 + y2 := by rw [i_lt, k9]; omega
    rw [f_X11_manners_L36, f_X12_manners_L25, e3, ← C.2.2.1 2 (by omega), if_pos a, if_pos a]
    exact ⟨_, _, rfl, rfl, g⟩
  | succ m ih =>
    intro n n2 j y3 y2 d hn hn2 hy hj e3 ej g
    obtain ⟨n, rfl⟩ : ∃ z, n = z + 1 := ⟨n - 1, by omega⟩
    obtain ⟨n2, rfl⟩ : ∃ z, n2 = z + 1 := ⟨n2 - 1, by omega⟩
    have C : Ct hC d := g.ct (Or.inr rfl) R.ct
    have Rd : RelK K hC d := RelK_e R (eC_rf _) (gM.e12 g)
    have a : ¬ 9 < hC.1 4 2 + y2 := by rw [i_lt, k9]; omega
    rw [f_X11_manners_L36, f_X12_manners_L25, e3, ← C.2.2.1 2 (by omega), if_neg a, if_neg a, M_copy, Option.bind_some]
    have gm := gM_copy d
    have mk := fun k hk => copy12 d (k := k) hk
    generalize dPut (dCpy d 11 12 0 0 28) 12 28 0 = d2 at gm mk
    obtain ⟨s0, s1, s2, s3, s4, s5, s6, s7⟩ := Rd.sr
    have C2 : Ct hC d2 := gm.ct (Or.inr rfl) C
    have T : T2 hC d2 0 (hC.1 67 0) (hC.1 67 1) (hC.1 67 2) := by
      refine ⟨C2, by rw [gm.2.1 30 (by omega), Rd.law.2.1]; exact hl, by rw [mk 23 (by omega)]; exact s0, by rw [mk 21 (by omega)]; exact s1.symm, by rw [mk 22 (by omega)]; exact s2.symm, Rd.atA, fun p h1 _ => ?_, fun p h1 => ?_⟩
      · rw [mk (3 * p + 2) (by omega), mk (3 * p) (by omega)]
        exact ⟨(s7 p h1).1.symm, (s7 p h1).2.1.symm⟩
      · rw [mk (3 * p + 1) (by omega)]
        exact (s7 p h1).2.2.symm
    have nx := C.nat
    obtain ⟨b, d', u1, u2, u3, u4, u5, u6⟩ := lp_man (hM := d2) (set := set) (co := hC.1 4 2 + y2) (more := y2) (kL := f_X12_manners_L25 n2) (fun d3 g3 => by rw [(g3.ct (Or.inr rfl) C2).2.2.1 2 (by omega)]) (dI (hC.1 3 2)) dFu dFu 0 0 (hC.1 67 0) (hC.1 67 1) (hC.1 67 2) d2 (fuel_lt (by omega)) (fuel_lt (by omega)) rfl (by omega) T (gM_rf _ _)
    have eC1 : f_X7_isBorne set (hC.1 4 2 + y2) hC = some b := by
      unfold f_X7_isBorne
      rw [Option.bind_some, Option.bind_some, Option.bind_some, show f_X8_place hC = hC.1 67 0 from rfl, show f_X8_hour hC = hC.1 67 1 from rfl, show f_X8_tired hC = hC.1 67 2 from rfl]
      exact u1
    rw [eC1, Option.bind_some, u2]
    have g' : gM 12 hM d' := gM_tr g (gM_tr gm u3)
    have np' : d'.1 0 24 = hC.1 3 2 := (u3.ct (Or.inr rfl) C2).np
    have tz : tmM 12 d' = 0 ↔ b = true := by
      unfold tmM
      rw [np', tm_0 _ _ (by omega), u6]
      exact ⟨fun z p h1 h2 => z p h1 (by omega), fun z i h1 h2 => z i h1 (by omega)⟩
    cases b with
    | true =>
      rw [if_pos rfl, if_pos (tz.mpr rfl)]
      refine ⟨_, d', rfl, ?_, g'⟩
      rw [Int32.add_comm, Int32.add_sub_cancel]
    | false =>
      rw [if_neg (by decide), if_neg (fun z => by have := tz.mp z; cases this)]
      have e1 : (hC.1 4 2 + (y2 + 1)).toInt = ((j + 1 : Nat) : Int) := by rw [← Int32.add_assoc, i_add1 (by omega), hy]; omega
      have y21 : (y2 + 1).toInt = y2.toInt + 1 := i_add1 (by omega)
      exact ih n n2 (j + 1) _ (y2 + 1) d' (by omega) (by omega) e1 (by omega) (Int32.add_assoc _ _ _) (by omega) g'
theorem ok_manners : st_manners Rel := by
  intro n hC hM hn R x
  have R1 : RelK (60 * n) hC (dPut hM 0 0 0) := R.t0
  unfold aC_manners aM_manners f_X11_manners f_X12_manners
  rw [Option.bind_some]
  generalize dPut hM 0 0 0 = h1 at R1 ⊢
  have C := R1.ct
  rw [isSet_eq C, R1.law.2.1]
  have fin : dAg (Rel (n + 1)) (Option.map (fun v => (v, hC)) (some (-1))) (some (-1, h1)) := ag rfl rfl (Rel_mono R1)
  by_cases s : f_X12_isSet x h1 = true
  · rw [if_pos s, if_pos s]
    by_cases hl : hC.1 42 2 = -1
    · have r2 := C.2.1.2.2.2.1
      have r21 := r2.1
      have r22 := r2.2
      rw [if_pos hl, if_pos hl]
      have dr := dI_c r21
      obtain ⟨v, d', e1, e2, g⟩ := lp_man2 R1 hl (set := x) (10 - dI (hC.1 4 2)) dFu dFu (dI (hC.1 4 2)) (hC.1 4 2) 0 h1 (fuel_lt (by omega)) (fuel_lt (by omega)) (by rw [Int32.add_zero]; omega) (by omega) (by rw [Int32.add_zero]) (by rw [t0]; omega) (gM_rf _ _)
      rw [e1, e2]
      exact ag rfl rfl (Rel_mono (RelK_e R1 (eC_rf _) (gM.e12 g)))
    · rw [if_neg hl, if_neg hl]
      exact fin
  · rw [if_neg s, if_neg s]
    exact fin
end MN
