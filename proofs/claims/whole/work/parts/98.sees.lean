/-! PURE: SEES -/
theorem bit_tab32 : ∀ p, p < 7 → ∀ q, q < 32 → ((1 <<< (Int32.ofNat p &&& 31) : Int32)).toBitVec.getLsbD q = decide (p = q) := by decide
theorem bI_or32 (x : Int32) {p q : Nat} (hp : p < 7) (hq : q < 32) : bI (x ||| (1 <<< (Int32.ofNat p &&& 31))) q = (bI x q || decide (p = q)) := by
  unfold bI
  show (x.toBitVec ||| (1 <<< (Int32.ofNat p &&& 31) : Int32).toBitVec).getLsbD q = _
  rw [BitVec.getLsbD_or, bit_tab32 p hp q hq]
theorem bI_ext {x : Int32} : x = 0 ↔ ∀ q, q < 32 → bI x q = false := by
  constructor
  · intro h q _; rw [h]; exact bI_0 q
  · intro h
    apply Int32.toBitVec_inj.mp
    apply BitVec.eq_of_getLsbD_eq
    intro q hq
    rw [show x.toBitVec.getLsbD q = false from h q hq]
    exact (BitVec.getLsbD_zero).symm
theorem bI_tm {tr pa : Nat → Int32} : ∀ (k p : Nat) (b : Int32), p + k ≤ 7 → ∀ q, q < 32 → bI (tm tr pa k p b) q = (bI b q || (decide (p ≤ q ∧ q < p + k) && decide (pa q < tr q))) := by
  intro k
  induction k with
  | zero =>
    intro p b _ q _
    show bI b q = _
    rw [decide_eq_false (by omega), Bool.false_and, Bool.or_false]
  | succ k ih =>
    intro p b hp q hq
    show bI (tm tr pa k (p + 1) _) q = _
    rw [ih (p + 1) _ (by omega) q hq]
    by_cases e : q = p
    · rw [e, decide_eq_false (show ¬ (p + 1 ≤ p ∧ p < p + 1 + k) by omega), Bool.false_and, Bool.or_false, decide_eq_true (show p ≤ p ∧ p < p + (k + 1) by omega), Bool.true_and]
      by_cases z : pa p < tr p
      · rw [if_pos z, bI_or32 b (by omega) (by omega), decide_eq_true rfl, decide_eq_true z]
      · rw [if_neg z, decide_eq_false z, Bool.or_false]
    · have e1 : decide (p + 1 ≤ q ∧ q < p + 1 + k) = decide (p ≤ q ∧ q < p + (k + 1)) := decide_eq_decide.mpr (by omega)
      rw [e1]
      by_cases z : pa p < tr p
      · rw [if_pos z, bI_or32 b (by omega) hq, decide_eq_false (show ¬ p = q by omega), Bool.or_false]
      · rw [if_neg z]
theorem bI_andn (x y : Int32) {q : Nat} (hq : q < 32) : bI (x &&& (y ^^^ (-1))) q = (bI x q && !bI y q) := by
  unfold bI
  show (x.toBitVec &&& (y.toBitVec ^^^ (-1 : Int32).toBitVec)).getLsbD q = _
  have h1 : ∀ q, q < 32 → (-1 : Int32).toBitVec.getLsbD q = true := by decide
  rw [BitVec.getLsbD_and, BitVec.getLsbD_xor, h1 q hq, Bool.xor_true]
theorem cnt_or {x : Int32} {p : Nat} (hp : p < 7) (h : bI x p = false) : cnt (x ||| (1 <<< (Int32.ofNat p &&& 31))) = cnt x + 1 := by
  have e := fun q (hq : q < 7) => bI_or x hp hq
  unfold cnt
  rw [e 0 (by omega), e 1 (by omega), e 2 (by omega), e 3 (by omega), e 4 (by omega), e 5 (by omega), e 6 (by omega)]
  rcases (show p = 0 ∨ p = 1 ∨ p = 2 ∨ p = 3 ∨ p = 4 ∨ p = 5 ∨ p = 6 by omega) with rfl | rfl | rfl | rfl | rfl | rfl | rfl <;> simp [h] <;> omega
set_option maxRecDepth 100000 in
theorem bc_tab : ∀ k, k < 128 → ∀ h : dH, f_J6_bitCount_0f7a4 (Int32.ofNat k) h = Int32.ofNat (cnt (Int32.ofNat k)) := by
  have e : ∀ k, k < 128 → f_J6_bitCount_0f7a4 (Int32.ofNat k) (fun _ _ => 0, fun _ _ => 0, 0) = Int32.ofNat (cnt (Int32.ofNat k)) := by decide +kernel
  intro k hk h
  exact e k hk
set_option maxRecDepth 100000 in
theorem or_tab : ∀ k, k < 128 → ∀ p, p < 7 → (Int32.ofNat k ||| (1 <<< (Int32.ofNat p &&& 31))) = Int32.ofNat (k ||| 2 ^ p) ∧ k ||| 2 ^ p < 128 := by decide +kernel
def nw (c : dH) (p : Nat) : Int := if c.1 67 (7 + p) = 0 then (c.1 (6 + p) 3).toInt else 0
def n1 (c : dH) (p : Nat) : Int := if nw c p = 0 then 0 else 1
def lS (F : Nat → Int) (us : Int32) : Nat → Nat → Int
  | 0, _ => 0
  | m + 1, j => (if bI us j then 0 else F j) + lS F us m (j + 1)
theorem lS_le {F G : Nat → Int} {us : Int32} (B : Nat) (h : ∀ p, p < B → F p ≤ G p) : ∀ m j, j + m ≤ B → lS F us m j ≤ lS G us m j := by
  intro m
  induction m with
  | zero => intro j _; exact Int.le_refl _
  | succ m ih =>
    intro j hj
    show (if bI us j then 0 else F j) + lS F us m (j + 1) ≤ (if bI us j then 0 else G j) + lS G us m (j + 1)
    have h1 := ih (j + 1) (by omega)
    have h2 := h j (by omega)
    split <;> omega
theorem lS_nn {F : Nat → Int} {us : Int32} (B : Nat) (h : ∀ p, p < B → 0 ≤ F p) : ∀ m j, j + m ≤ B → 0 ≤ lS F us m j := by
  intro m
  induction m with
  | zero => intro j _; exact Int.le_refl _
  | succ m ih =>
    intro j hj
    show 0 ≤ (if bI us j then 0 else F j) + lS F us m (j + 1)
    have h1 := ih (j + 1) (by omega)
    have h2 := h j (by omega)
    split <;> omega
theorem lS_bd {F : Nat → Int} {us : Int32} (B : Nat) (h : ∀ p, p < B → 0 ≤ F p ∧ F p ≤ 9) : ∀ m j, j + m ≤ B → lS F us m j ≤ 9 * m := by
  intro m
  induction m with
  | zero => intro j _; show (0 : Int) ≤ 9 * (0 : Nat); omega
  | succ m ih =>
    intro j hj
    show (if bI us j then 0 else F j) + lS F us m (j + 1) ≤ 9 * ((m + 1 : Nat) : Int)
    have h1 := ih (j + 1) (by omega)
    have h2 := h j (by omega)
    split <;> omega
theorem lS_or {F : Nat → Int} {us : Int32} {p : Nat} (hp : p < 7) (hu : bI us p = false) : ∀ m j, j + m ≤ 7 → lS F (us ||| (1 <<< (Int32.ofNat p &&& 31))) m j = lS F us m j - (if j ≤ p ∧ p < j + m then F p else 0) := by
  intro m
  induction m with
  | zero =>
    intro j _
    show (0 : Int) = 0 - _
    rw [if_neg (by omega)]
    rfl
  | succ m ih =>
    intro j hj
    show (if bI (us ||| (1 <<< (Int32.ofNat p &&& 31))) j then 0 else F j) + lS F (us ||| (1 <<< (Int32.ofNat p &&& 31))) m (j + 1) = (if bI us j then 0 else F j) + lS F us m (j + 1) - _
    rw [ih (j + 1) (by omega), bI_or us hp (by omega)]
    by_cases e : p = j
    · rw [← e, hu, decide_eq_true rfl, Bool.false_or, if_pos rfl, if_neg (show ¬ false = true by decide), if_neg (by omega), if_pos (by omega)]
      omega
    · rw [decide_eq_false e, Bool.or_false]
      by_cases q : j ≤ p ∧ p < j + (m + 1)
      · rw [if_pos (show j + 1 ≤ p ∧ p < j + 1 + m by omega), if_pos q]
        omega
      · rw [if_neg (show ¬ (j + 1 ≤ p ∧ p < j + 1 + m) by omega), if_neg q]
        omega
section SE
variable {K : Int} {n : Nat} {hC hM c d c' d' : dH} {x y us f ho ti : Int32} {b g : Int}
def lf_ (c : dH) (us : Int32) : Int := lS (nw c) us (dI (c.1 3 2)) 0
def lp_ (c : dH) (us : Int32) : Int := lS (n1 c) us (dI (c.1 3 2)) 0
theorem nw_bd (C : Ct c d) {p : Nat} (hp : p < dI (c.1 3 2)) : 0 ≤ nw c p ∧ nw c p ≤ 9 := by
  have nx := C.nat
  have e : (Int32.ofNat p).toInt = p := i_ofNat (by omega)
  have hx : Pl c (Int32.ofNat p) := ⟨by omega, by omega⟩
  have v := view_bt C hx
  rw [show dI (Int32.ofNat p) = p from dI_of e] at v
  unfold nw
  split
  · exact v
  · omega
theorem n1_le (c : dH) {p : Nat} (h : 0 ≤ nw c p) : 0 ≤ n1 c p ∧ n1 c p ≤ nw c p := by
  unfold n1
  split
  · omega
  · omega
theorem lf_bd (C : Ct c d) (us : Int32) : 0 ≤ lf_ c us ∧ lf_ c us ≤ 63 ∧ 0 ≤ lp_ c us ∧ lp_ c us ≤ lf_ c us := by
  have nx := C.nat
  have h := fun p (hp : p < dI (c.1 3 2)) => nw_bd C hp
  have h1 := lS_nn (F := nw c) (us := us) (dI (c.1 3 2)) (fun p hp => (h p hp).1) (dI (c.1 3 2)) 0 (by omega)
  have h2 := lS_bd (F := nw c) (us := us) (dI (c.1 3 2)) h (dI (c.1 3 2)) 0 (by omega)
  have h3 := lS_nn (F := n1 c) (us := us) (dI (c.1 3 2)) (fun p hp => (n1_le c (h p hp).1).1) (dI (c.1 3 2)) 0 (by omega)
  have h4 := lS_le (F := n1 c) (G := nw c) (us := us) (dI (c.1 3 2)) (fun p hp => (n1_le c (h p hp).1).2) (dI (c.1 3 2)) 0 (by omega)
  exact ⟨h1, by unfold lf_; omega, h3, h4⟩
theorem C_newAt (C : Ct c d) (hx : Pl c x) : ∃ v, f_X7_newAt x c = some v ∧ v.toInt = nw c (dI x) := by
  unfold f_X7_newAt nw
  rw [C_visitsOf C 66 hx, Option.bind_some, C_toldOf C hx in3, Option.bind_some]
  show ∃ v, (if c.1 67 (7 + dI x) = 0 then _ else _) = some v ∧ _
  by_cases q : c.1 67 (7 + dI x) = 0
  · rw [if_pos q, if_pos q]
    exact ⟨_, rfl, rfl⟩
  · rw [if_neg q, if_neg q]
    exact ⟨0, rfl, rfl⟩
theorem lp_lts (C : Ct c d) : ∀ (m n j : Nat) (a y : Int32), m < n → y.toInt = j → j + m = dI (c.1 3 2) → bt 0 (9 * j) a → ∃ v, f_X7_leftToSee_L4 c n us a y = some v ∧ v.toInt = a.toInt + lS (nw c) us m j := by
  intro m
  induction m with
  | zero =>
    intro n j a y hn hy hj ha
    obtain ⟨n, rfl⟩ : ∃ z, n = z + 1 := ⟨n - 1, by omega⟩
    rw [f_X7_leftToSee_L4, if_neg (ge_j C hy hj)]
    exact ⟨a, rfl, by show _ = a.toInt + 0; omega⟩
  | succ m ih =>
    intro n j a y hn hy hj ha
    obtain ⟨n, rfl⟩ : ∃ z, n = z + 1 := ⟨n - 1, by omega⟩
    have hx := pl_j C hy hj
    have nx := C.nat
    have dy : dI y = j := dI_of hy
    have ey : y = Int32.ofNat j := by rw [i_eq, hy, i_ofNat (by omega)]
    have hh : f_X11_isIn us y c = bI us j := by rw [ey]; exact isIn_b us c (by omega)
    obtain ⟨v, e1, e2⟩ := C_newAt C hx
    rw [dy] at e2
    have nb := nw_bd C (p := j) (by omega)
    have a1 := ha.1
    have a2 := ha.2
    rw [f_X7_leftToSee_L4, if_pos (lt_j C hy hj), hh, e1, Option.bind_some]
    unfold f_X7_leftToSee_J33
    show ∃ v_1 : Int32, (if bI us j = true then _ else _) = some v_1 ∧ v_1.toInt = a.toInt + ((if bI us j then 0 else nw c j) + lS (nw c) us m (j + 1))
    by_cases q : bI us j = true
    · rw [if_pos q, if_pos q, Int32.add_zero]
      obtain ⟨v2, u1, u2⟩ := ih n (j + 1) a (y + 1) (by omega) (y_suc hy (by omega)) (by omega) ⟨by omega, by omega⟩
      exact ⟨v2, u1, by omega⟩
    · rw [if_neg q, if_neg q]
      have e3 : (a + v).toInt = a.toInt + v.toInt := i_add (by omega)
      obtain ⟨v2, u1, u2⟩ := ih n (j + 1) (a + v) (y + 1) (by omega) (y_suc hy (by omega)) (by omega) ⟨by omega, by omega⟩
      exact ⟨v2, u1, by omega⟩
theorem lp_lps (C : Ct c d) : ∀ (m n j : Nat) (a y : Int32), m < n → y.toInt = j → j + m = dI (c.1 3 2) → bt 0 j a → ∃ v, f_X7_leftPlaces_L4 c n us a y = some v ∧ v.toInt = a.toInt + lS (n1 c) us m j := by
  intro m
  induction m with
  | zero =>
    intro n j a y hn hy hj ha
    obtain ⟨n, rfl⟩ : ∃ z, n = z + 1 := ⟨n - 1, by omega⟩
    rw [f_X7_leftPlaces_L4, if_neg (ge_j C hy hj)]
    exact ⟨a, rfl, by show _ = a.toInt + 0; omega⟩
  | succ m ih =>
    intro n j a y hn hy hj ha
    obtain ⟨n, rfl⟩ : ∃ z, n = z + 1 := ⟨n - 1, by omega⟩
    have hx := pl_j C hy hj
    have nx := C.nat
    have dy : dI y = j := dI_of hy
    have ey : y = Int32.ofNat j := by rw [i_eq, hy, i_ofNat (by omega)]
    have hh : f_X11_isIn us y c = bI us j := by rw [ey]; exact isIn_b us c (by omega)
    obtain ⟨v, e1, e2⟩ := C_newAt C hx
    rw [dy] at e2
    have a1 := ha.1
    have a2 := ha.2
    rw [f_X7_leftPlaces_L4, if_pos (lt_j C hy hj), hh, e1, Option.bind_some]
    unfold f_X7_leftPlaces_J32 f_X7_leftPlaces_J37
    simp only [Option.bind_some]
    have z0 : a + bi false = a := Int32.add_zero a
    have z1 : (a + bi true).toInt = a.toInt + 1 := i_add1 (by omega)
    show ∃ v_1 : Int32, (if bI us j = true then _ else _) = some v_1 ∧ v_1.toInt = a.toInt + ((if bI us j then 0 else n1 c j) + lS (n1 c) us m (j + 1))
    rw [z0]
    obtain ⟨v2, u1, u2⟩ := ih n (j + 1) a (y + 1) (by omega) (y_suc hy (by omega)) (by omega) ⟨by omega, by omega⟩
    by_cases q : bI us j = true
    · rw [if_pos q, if_pos q]
      exact ⟨v2, u1, by omega⟩
    · rw [if_neg q, if_neg q]
      unfold n1
      by_cases q2 : v = 0
      · rw [if_pos q2, if_pos (show nw c j = 0 by rw [← e2, q2]; rfl)]
        exact ⟨v2, u1, by unfold n1 at u2; omega⟩
      · rw [if_neg q2, if_neg (show ¬ nw c j = 0 by rw [i_eq, t0] at q2; omega)]
        obtain ⟨v3, u3, u4⟩ := ih n (j + 1) (a + bi true) (y + 1) (by omega) (y_suc hy (by omega)) (by omega) ⟨by omega, by omega⟩
        exact ⟨v3, u3, by unfold n1 at u4; omega⟩
/-- the trial of SEES: g is what he has seen more -/
def T4 (c d : dH) (us : Int32) (b : Int) (f ho ti : Int32) (g : Int) : Prop := T1 c d b f ho ti ∧ (∀ p, p < 7 → bI us p = false → d.1 12 (3 * p + 2) = c.1 67 (7 + p) ∧ d.1 12 (3 * p) = c.1 67 (14 + p)) ∧ (∀ p, p < 7 → d.1 12 (3 * p + 1) = c.1 67 (21 + p)) ∧ ((d.1 12 24).toInt = (d.1 11 24).toInt + g ∧ 0 ≤ (d.1 11 24).toInt ∧ (d.1 11 24).toInt ≤ 1000000 ∧ 0 ≤ g ∧ g + lf_ c us ≤ 63) ∧ (∀ p, p < 7 → d.1 11 (3 * p) = c.1 67 (14 + p) ∧ d.1 11 (3 * p + 1) = c.1 67 (21 + p))
theorem nw_c (hc : cL c c') {p : Nat} (hp : p < 7) : nw c' p = nw c p := by
  unfold nw
  rw [hc 67 _ (by omega) (by omega) (by omega), hc (6 + p) 3 (by omega) (by omega) (by omega)]
theorem lS_c {F G : Nat → Int} : ∀ m j, j + m ≤ 7 → (∀ p, p < 7 → F p = G p) → lS F us m j = lS G us m j := by
  intro m
  induction m with
  | zero => intro j _ _; rfl
  | succ m ih =>
    intro j hj h
    show (if bI us j then 0 else F j) + lS F us m (j + 1) = (if bI us j then 0 else G j) + lS G us m (j + 1)
    rw [h j (by omega), ih (j + 1) (by omega) h]
theorem lf_c (C : Ct c d) (hc : cL c c') : lf_ c' us = lf_ c us ∧ lp_ c' us = lp_ c us := by
  have nx := C.nat
  unfold lf_ lp_
  rw [hc 3 2 (by omega) (by omega) (by omega)]
  refine ⟨lS_c _ _ (by omega) (fun p hp => nw_c hc hp), lS_c _ _ (by omega) (fun p hp => ?_)⟩
  unfold n1
  rw [nw_c hc hp]
theorem T4_c (hc : cL c c') {dp : Nat} (hd : gL dp d d') (T : T4 c d us b f ho ti g) : T4 c' d' us b f ho ti g := by
  obtain ⟨t1', t2, t3, t4, t5⟩ := T
  refine ⟨T1_c hc hd.1 hd.2.2.1 hd.2.2.2.2 t1', fun p hp hb => ?_, fun p hp => ?_, ?_, fun p hp => ?_⟩
  · rw [hd.1 12 _ (by omega) (by omega) (by omega) (by omega), hd.1 12 _ (by omega) (by omega) (by omega) (by omega), hc 67 _ (by omega) (by omega) (by omega), hc 67 _ (by omega) (by omega) (by omega)]
    exact t2 p hp hb
  · rw [hd.1 12 _ (by omega) (by omega) (by omega) (by omega), hc 67 _ (by omega) (by omega) (by omega)]
    exact t3 p hp
  · rw [hd.1 12 _ (by omega) (by omega) (by omega) (by omega), hd.1 11 _ (by omega) (by omega) (by omega) (by omega), (lf_c t1'.1 hc).1]
    exact t4
  · rw [hd.1 11 _ (by omega) (by omega) (by omega) (by omega), hd.1 11 _ (by omega) (by omega) (by omega) (by omega), hc 67 _ (by omega) (by omega) (by omega), hc 67 _ (by omega) (by omega) (by omega)]
    exact t5 p hp
theorem T4_walk (T : T4 c d us b f ho ti g) (hb : b ≤ 150) (cw : cwB c f ho ti x = true) (hu : bI us (dI x) = false) : ∃ d1 : dH, f_X12_walks 12 x (d.1 5 2) d = some (tW c d x f ho ti, d1) ∧ WK c d d1 x (tW c d x f ho ti) ∧ T4 c d1 (us ||| (1 <<< (x &&& 31))) (b + 1) x (ho + wF c f x + 1) (ti + wF c f x) (g + nw c (dI x)) ∧ lf_ c (us ||| (1 <<< (x &&& 31))) = lf_ c us - nw c (dI x) ∧ lp_ c (us ||| (1 <<< (x &&& 31))) = lp_ c us - n1 c (dI x) := by
  obtain ⟨t1', t2, t3, t4, t5⟩ := T
  have hx := (cwB_true cw).1
  have C := t1'.1
  have nx := C.nat
  have hn := hx.nat C
  have x2 := hx.2
  obtain ⟨d1, e1, W, T'⟩ := T1_walk t1' hb cw
  have ev : tV c d x (d.1 12 (3 * dI x + 2)) (d.1 12 (3 * dI x + 1)) (ho + wF c f x) (ti + wF c f x) 0 = tW c d x f ho ti := by
    unfold tW
    rw [(t2 (dI x) hn.2 hu).1, t3 (dI x) hn.2]
  rw [ev] at e1 W
  have ex : x = Int32.ofNat (dI x) := i_nat hx.1
  have o1 := lS_or (F := nw c) (us := us) hn.2 hu (dI (c.1 3 2)) 0 (by omega)
  have o2 := lS_or (F := n1 c) (us := us) hn.2 hu (dI (c.1 3 2)) 0 (by omega)
  rw [if_pos (by omega), ← ex] at o1 o2
  have nb := nw_bd C (p := dI x) (by omega)
  obtain ⟨w22, w21, w23, w24, wt, wv, wk, gg⟩ := id W
  refine ⟨d1, e1, W, ⟨by rw [Int32.add_assoc]; exact T', fun p hp hb => ?_, fun p hp => ?_, ?_, fun p hp => ?_⟩, o1, o2⟩
  · have h2 := bI_or us (p := dI x) hn.2 hp
    rw [← ex] at h2
    rw [h2] at hb
    have hne : ¬ dI x = p := fun z => by rw [decide_eq_true z] at hb; simp at hb
    rw [wk (3 * p + 2) (by omega) (by omega) (by omega), wk (3 * p) (by omega) (by omega) (by omega)]
    refine t2 p hp ?_
    rw [decide_eq_false hne, Bool.or_false] at hb
    exact hb
  · rw [wk (3 * p + 1) (by omega) (by omega) (by omega)]
    exact t3 p hp
  · rw [w24, (t2 (dI x) hn.2 hu).1, gg.1 11 24 (by omega) (by omega) (by omega) (by omega)]
    have ol : lf_ c (us ||| (1 <<< (x &&& 31))) = lf_ c us - nw c (dI x) := o1
    rw [ol]
    have v := view_bt C hx
    have v1 := v.1
    have v2 := v.2
    have lb := lf_bd C us
    refine ⟨?_, t4.2.1, t4.2.2.1, by omega, by omega⟩
    unfold nw
    by_cases q : c.1 67 (7 + dI x) = 0
    · rw [if_pos q, if_pos q, i_add (by omega)]
      omega
    · rw [if_neg q, if_neg q]
      omega
  · rw [gg.1 11 _ (by omega) (by omega) (by omega) (by omega), gg.1 11 _ (by omega) (by omega) (by omega) (by omega)]
    exact t5 p hp
/-- no PLACE is too much that is not now -/
def okB (c d : dH) (us : Int32) : Prop := ∀ p, p < dI (c.1 3 2) → bI us p = true → c.1 67 (21 + p) < d.1 12 (3 * p) → c.1 67 (21 + p) < c.1 67 (14 + p)
theorem M_okB (T : T4 c d us b f ho ti g) : ∃ v1 v2, f_X12_tooMuch 12 d = some v1 ∧ f_X12_tooMuch 11 d = some v2 ∧ ((v1 &&& (v2 ^^^ (-1))) = 0 ↔ okB c d us) := by
  obtain ⟨t1', t2, t3, t4, t5⟩ := T
  have C := t1'.1
  have nx := C.nat
  refine ⟨_, _, M_tooMuch 12 C.h7, M_tooMuch 11 C.h7, ?_⟩
  rw [C.np, bI_ext]
  have key : ∀ q, q < 32 → (bI (tm (fun p => d.1 12 (3 * p)) (fun p => d.1 12 (3 * p + 1)) (dI (c.1 3 2)) 0 0 &&& (tm (fun p => d.1 11 (3 * p)) (fun p => d.1 11 (3 * p + 1)) (dI (c.1 3 2)) 0 0 ^^^ (-1))) q = false ↔ (q < dI (c.1 3 2) → c.1 67 (21 + q) < d.1 12 (3 * q) → c.1 67 (21 + q) < c.1 67 (14 + q))) := fun q hq => by
    rw [bI_andn _ _ hq, bI_tm _ _ _ (by omega) q hq, bI_tm _ _ _ (by omega) q hq, bI_0, Bool.false_or, Bool.false_or]
    by_cases z : q < dI (c.1 3 2)
    · rw [decide_eq_true (show 0 ≤ q ∧ q < 0 + dI (c.1 3 2) by omega), Bool.true_and, Bool.true_and, t3 q (by omega), (t5 q (by omega)).1, (t5 q (by omega)).2]
      by_cases a1 : c.1 67 (21 + q) < d.1 12 (3 * q)
      · by_cases a2 : c.1 67 (21 + q) < c.1 67 (14 + q)
        · rw [decide_eq_true a1, decide_eq_true a2]
          exact ⟨fun _ _ _ => a2, fun _ => rfl⟩
        · rw [decide_eq_true a1, decide_eq_false a2]
          exact ⟨fun h => by simp at h, fun h => absurd (h z a1) a2⟩
      · rw [decide_eq_false a1, Bool.false_and]
        exact ⟨fun _ _ h => absurd h a1, fun _ => rfl⟩
    · rw [decide_eq_false (show ¬ (0 ≤ q ∧ q < 0 + dI (c.1 3 2)) by omega), Bool.false_and, Bool.false_and]
      exact ⟨fun _ h => absurd h z, fun _ => rfl⟩
  constructor
  · intro h p hp hu a
    exact (key p (by omega)).mp (h p (by omega)) hp a
  · intro h q hq
    refine (key q hq).mpr (fun hz a => ?_)
    cases hu : bI us q with
    | true => exact h q hz hu a
    | false =>
      rw [(t2 q (by omega) hu).2] at a
      exact a
theorem okB_walk (T : T4 c d us b f ho ti g) {d1 : dH} {v : Int32} (hx : Pl c x) (hu : bI us (dI x) = false) (W : WK c d d1 x v) : okB c d1 (us ||| (1 <<< (x &&& 31))) ↔ (okB c d us ∧ (c.1 67 (21 + dI x) < c.1 67 (14 + dI x) + v → c.1 67 (21 + dI x) < c.1 67 (14 + dI x))) := by
  obtain ⟨t1', t2, t3, t4, t5⟩ := T
  have C := t1'.1
  have nx := C.nat
  have hn := hx.nat C
  have x2 := hx.2
  have ex : x = Int32.ofNat (dI x) := i_nat hx.1
  obtain ⟨w22, w21, w23, w24, wt, wv, wk, gg⟩ := W
  have hb := fun p (hp : p < 7) => bI_or us (p := dI x) (q := p) hn.2 hp
  rw [← ex] at hb
  constructor
  · intro h
    refine ⟨fun p hp hu' a => ?_, fun a => ?_⟩
    · have hne : dI x ≠ p := fun z => by rw [z] at hu; rw [hu] at hu'; cases hu'
      refine h p hp (by rw [hb p (by omega), hu', Bool.true_or]) ?_
      rw [wk (3 * p) (by omega) (by omega) (by omega)]
      exact a
    · refine h (dI x) (by omega) (by rw [hb _ hn.2, decide_eq_true rfl, Bool.or_true]) ?_
      rw [wt, (t2 (dI x) hn.2 hu).2]
      exact a
  · intro h p hp hu' a
    by_cases e : dI x = p
    · rw [← e] at a ⊢
      rw [wt, (t2 (dI x) hn.2 hu).2] at a
      exact h.2 a
    · rw [hb p (by omega), decide_eq_false e, Bool.or_false] at hu'
      rw [wk (3 * p) (by omega) (by omega) (by omega)] at a
      exact h.1 p hp hu' a
/-- later rows of as many PLACES are no less -/
def Jn (dp : Nat) (r : Int) (d : dH) : Prop := ∀ e : Nat, (d.1 0 40).toInt = dp + e → (d.1 0 38).toInt ≤ r * pw e
def LI (dp : Nat) (r : Int) (p : Nat) (d : dH) : Prop := ∀ e : Nat, (d.1 0 40).toInt = dp + 1 + e → (d.1 0 38).toInt ≤ (r * 10 + p) * pw e
def sameB (d d' : dH) : Prop := ∀ k, 38 ≤ k → k ≤ 41 → d'.1 0 k = d.1 0 k
def Post (dp : Nat) (r : Int) (d d' : dH) : Prop := sameB d d' ∨ ∃ e : Nat, (d'.1 0 40).toInt = dp + e ∧ (d'.1 0 38).toInt < (r + 1) * pw e
theorem pw_pos (e : Nat) : 0 < pw e := by
  induction e with
  | zero => decide
  | succ e ih => show 0 < 10 * pw e; omega
theorem mulm {a b : Int} (h : a ≤ b) (e : Nat) : a * pw e ≤ b * pw e := Int.mul_le_mul_of_nonneg_right h (Int.le_of_lt (pw_pos e))
theorem pws (r : Int) (e : Nat) : r * pw (e + 1) = (r * 10) * pw e := by
  show r * (10 * pw e) = _
  rw [Int.mul_assoc]
theorem Jn_LI {dp : Nat} {r : Int} (J : Jn dp r d) : LI dp r 0 d := fun e he => by
  have h := J (e + 1) (by omega)
  rw [pws] at h
  have := mulm (show r * 10 ≤ r * 10 + ((0 : Nat) : Int) by omega) e
  omega
theorem LI_s {dp : Nat} {r : Int} {p : Nat} (h : LI dp r p d) : LI dp r (p + 1) d := fun e he => by
  have h1 := h e he
  have := mulm (show r * 10 + (p : Int) ≤ r * 10 + ((p + 1 : Nat) : Int) by omega) e
  omega
theorem LI_J {dp : Nat} {r : Int} {p : Nat} (h : LI dp r p d) : Jn (dp + 1) (r * 10 + p) d := fun e he => h e (by omega)
theorem Jn_c {dp : Nat} {r : Int} (s : sameB d d') (J : Jn dp r d) : Jn dp r d' := fun e he => by
  rw [s 40 (by omega) (by omega)] at he
  rw [s 38 (by omega) (by omega)]
  exact J e he
theorem LI_c {dp : Nat} {r : Int} {p : Nat} (s : sameB d d') (J : LI dp r p d) : LI dp r p d' := fun e he => by
  rw [s 40 (by omega) (by omega)] at he
  rw [s 38 (by omega) (by omega)]
  exact J e he
theorem LI_post {dp : Nat} {r : Int} {p : Nat} (h : LI dp r p d) (P : Post (dp + 1) (r * 10 + p) d d') : LI dp r (p + 1) d' := by
  rcases P with s | ⟨e, h1, h2⟩
  · exact LI_c s (LI_s h)
  · intro e' he
    have : e = e' := by omega
    rw [← this]
    have e3 : r * 10 + (p : Int) + 1 = r * 10 + ((p + 1 : Nat) : Int) := by omega
    rw [e3] at h2
    omega
theorem Post_up {dp : Nat} {r : Int} {p : Nat} (hp : p < 7) (P : Post (dp + 1) (r * 10 + p) d d') : Post dp r d d' := by
  rcases P with s | ⟨e, h1, h2⟩
  · exact Or.inl s
  · refine Or.inr ⟨e + 1, by omega, ?_⟩
    rw [pws]
    have := mulm (show r * 10 + (p : Int) + 1 ≤ (r + 1) * 10 by omega) e
    omega
theorem Post_tr {dp : Nat} {r : Int} {d2 : dH} (P : Post dp r d d2) (Q : Post dp r d2 d') : Post dp r d d' := by
  rcases Q with s | q
  · rcases P with s2 | ⟨e, h1, h2⟩
    · exact Or.inl (fun k h1 h2 => (s k h1 h2).trans (s2 k h1 h2))
    · refine Or.inr ⟨e, ?_, ?_⟩
      · rw [s 40 (by omega) (by omega)]; exact h1
      · rw [s 38 (by omega) (by omega)]; exact h2
  · exact Or.inr q
theorem sameB_tr {d2 : dH} (a : sameB d d2) (b : sameB d2 d') : sameB d d' := fun k h1 h2 => (b k h1 h2).trans (a k h1 h2)
/-- is this better? -/
def btr (d : dH) (g : Int) (dp : Nat) : Prop := (d.1 0 39).toInt < g ∨ (g = (d.1 0 39).toInt ∧ (dp : Int) < (d.1 0 40).toInt)
def updB (d : dH) (v depth row : Int32) : dH := dPut (dPut (dPut (dPut d 0 39 v) 0 40 depth) 0 38 row) 0 41 (d.1 12 21)
/-- the test at a row -/
theorem M_test {rc : Int32 → Int32 → Int32 → dH → Option (dH)} {dp : Nat} {depth row : Int32} {r : Int} (hdp : depth.toInt = dp) (T : T4 c d us b f ho ti g) (hrow : (d.1 0 40).toInt = dp → ¬ row.toInt < (d.1 0 38).toInt) : (¬ (okB c d us ∧ btr d g dp) → f_X12_goSees rc depth us row d = f_X12_goSees_J120 rc depth us row d) ∧ (okB c d us ∧ btr d g dp → f_X12_goSees rc depth us row d = f_X12_goSees_J120 rc depth us row (updB d (d.1 12 24 - d.1 11 24) depth row)) := by
  obtain ⟨v1, v2, e1, e2, ok⟩ := M_okB T
  obtain ⟨t41, t42, t43, t44, t45⟩ := T.2.2.2.1
  have lb := (lf_bd T.1.1 us).1
  have ev : (d.1 12 24 - d.1 11 24).toInt = g := by rw [i_sub (by omega)]; omega
  have eu : ∀ rc, (f_X12_goSees_J86 rc depth us row (d.1 12 24 - d.1 11 24) true d) = f_X12_goSees_J120 rc depth us row (updB d (d.1 12 24 - d.1 11 24) depth row) := fun rc => by
    unfold f_X12_goSees_J86 updB
    rw [if_pos rfl, Option.bind_some, Option.bind_some, Option.bind_some, Option.bind_some, dPut_ne (by omega), dPut_ne (by omega), dPut_ne (by omega)]
  have en : ∀ rc, (f_X12_goSees_J86 rc depth us row (d.1 12 24 - d.1 11 24) false d) = f_X12_goSees_J120 rc depth us row d := fun rc => by
    unfold f_X12_goSees_J86
    rw [if_neg (by decide)]
  unfold f_X12_goSees f_X12_goSees_J81 f_X12_goSees_J85
  rw [e1, e2, Option.bind_some, Option.bind_some, Option.bind_some, eu, en]
  by_cases o : okB c d us
  · rw [if_pos (ok.mpr o)]
    by_cases b1 : d.1 0 39 < d.1 12 24 - d.1 11 24
    · have q1 := b1
      rw [i_lt, ev] at q1
      rw [if_pos b1]
      exact ⟨fun h => absurd ⟨o, Or.inl q1⟩ h, fun _ => rfl⟩
    · have q1 := b1
      rw [i_lt, ev] at q1
      rw [if_neg b1]
      by_cases b2 : d.1 12 24 - d.1 11 24 = d.1 0 39
      · have q2 := b2
        rw [i_eq, ev] at q2
        rw [if_pos b2]
        by_cases b3 : depth < d.1 0 40
        · have q3 := b3
          rw [i_lt, hdp] at q3
          rw [if_pos b3]
          exact ⟨fun h => absurd ⟨o, Or.inr ⟨q2, q3⟩⟩ h, fun _ => rfl⟩
        · have q3 := b3
          rw [i_lt, hdp] at q3
          rw [if_neg b3]
          have q4 : ¬ (okB c d us ∧ btr d g dp) := fun h => by
            rcases h.2 with z | z
            · omega
            · exact q3 z.2
          refine ⟨fun _ => ?_, fun h => absurd h q4⟩
          by_cases b4 : depth = d.1 0 40
          · have q5 := b4
            rw [i_eq, hdp] at q5
            rw [if_pos b4, if_neg (by rw [i_lt]; exact hrow q5.symm)]
          · rw [if_neg b4]
      · have q2 := b2
        rw [i_eq, ev] at q2
        rw [if_neg b2]
        refine ⟨fun _ => rfl, fun h => ?_⟩
        rcases h.2 with z | z
        · exact absurd z q1
        · exact absurd z.1 q2
  · rw [if_neg (fun z => o (ok.mp z))]
    exact ⟨fun _ => rfl, fun h => absurd h.1 o⟩
/-- rows: at HOME the reference has none -/
def rwM (dp : Nat) (row : Int32) (r : Int) : Prop := (dp = 0 ∧ row = -1 ∧ r = 0) ∨ (1 ≤ dp ∧ row.toInt = r ∧ 0 ≤ r ∧ r < pw dp)
/-- nothing better is to be had from here on -/
def NP (c d : dH) (us : Int32) (g : Int) (dp : Nat) : Prop := ¬ okB c d us ∨ (g + lf_ c us < (d.1 0 39).toInt ∨ ((d.1 0 39).toInt = g + lf_ c us ∧ (d.1 0 40).toInt ≤ dp + lp_ c us))
end SE
