/-! PURE: LEAST -/
def cnt (x : Int32) : Nat := (bI x 0).toNat + (bI x 1).toNat + (bI x 2).toNat + (bI x 3).toNat + (bI x 4).toNat + (bI x 5).toNat + (bI x 6).toNat
theorem cnt_le (x : Int32) : cnt x ≤ 7 := by
  have h := fun q => Bool.toNat_le (bI x q)
  unfold cnt
  have := h 0; have := h 1; have := h 2; have := h 3; have := h 4; have := h 5; have := h 6
  omega
theorem cnt_del {x : Int32} {p : Nat} (hp : p < 7) (h : bI x p = true) : cnt (x &&& ((1 <<< (Int32.ofNat p &&& 31)) ^^^ (-1))) + 1 = cnt x := by
  have e := fun q (hq : q < 7) => bI_del x hp hq
  unfold cnt
  rw [e 0 (by omega), e 1 (by omega), e 2 (by omega), e 3 (by omega), e 4 (by omega), e 5 (by omega), e 6 (by omega)]
  rcases (show p = 0 ∨ p = 1 ∨ p = 2 ∨ p = 3 ∨ p = 4 ∨ p = 5 ∨ p = 6 by omega) with rfl | rfl | rfl | rfl | rfl | rfl | rfl <;> simp [h] <;> omega
/-- what a search of the reference leaves alone -/
def gL (dp : Nat) (d d' : dH) : Prop := (∀ a k, a ≠ 0 → a ≠ 4 → a ≠ 14 → a ≠ 16 → d'.1 a k = d.1 a k) ∧ (∀ k, k < 29 * dp → d'.1 16 k = d.1 16 k) ∧ (∀ k, (k < 8 ∨ 14 < k ∧ k ≠ 17) → k < 38 ∨ 41 < k → d'.1 0 k = d.1 0 k) ∧ (∀ a, a ≠ 13 → d'.2.1 a = d.2.1 a) ∧ (mOK d → mOK d')
def cL (c c' : dH) : Prop := ∀ a k, a ≠ 43 → a ≠ 51 → a ≠ 83 → c'.1 a k = c.1 a k
theorem gL_rf (dp : Nat) (d : dH) : gL dp d d := ⟨fun _ _ _ _ _ _ => rfl, fun _ _ => rfl, fun _ _ _ => rfl, fun _ _ => rfl, id⟩
theorem gL_tr {dp : Nat} {d d2 d3 : dH} (a : gL dp d d2) (b : gL dp d2 d3) : gL dp d d3 := ⟨fun x k h1 h2 h3 h4 => (b.1 x k h1 h2 h3 h4).trans (a.1 x k h1 h2 h3 h4), fun k hk => (b.2.1 k hk).trans (a.2.1 k hk), fun k h1 h2 => (b.2.2.1 k h1 h2).trans (a.2.2.1 k h1 h2), fun x h => (b.2.2.2.1 x h).trans (a.2.2.2.1 x h), fun z => b.2.2.2.2 (a.2.2.2.2 z)⟩
theorem gL_le {dp dp' : Nat} {d d' : dH} (h : dp ≤ dp') (a : gL dp' d d') : gL dp d d' := ⟨a.1, fun k hk => a.2.1 k (by omega), a.2.2⟩
theorem cL_rf (c : dH) : cL c c := fun _ _ _ _ _ => rfl
theorem cL_tr {c c2 c3 : dH} (a : cL c c2) (b : cL c2 c3) : cL c c3 := fun x k h1 h2 h3 => (b x k h1 h2 h3).trans (a x k h1 h2 h3)
theorem fC.l {c c' : dH} (f : fC c c') : cL c c' := fun a k h1 h2 _ => f.1 a k h1 h2
theorem gL.e {dp : Nat} {d d' : dH} (g : gL dp d d') : eM d d' := ⟨fun a k hk => by
    by_cases a0 : a = 0
    · rw [a0] at hk ⊢
      by_cases q : (k < 8 ∨ 14 < k ∧ k ≠ 17) ∧ (k < 38 ∨ 41 < k)
      · exact g.2.2.1 k q.1 q.2
      · exfalso
        rcases (show k = 8 ∨ k = 9 ∨ k = 10 ∨ k = 11 ∨ k = 12 ∨ k = 13 ∨ k = 14 ∨ k = 17 ∨ k = 38 ∨ k = 39 ∨ k = 40 ∨ k = 41 by omega) with rfl | rfl | rfl | rfl | rfl | rfl | rfl | rfl | rfl | rfl | rfl | rfl <;> cases hk
    · exact g.1 a k a0 (fun z => by rw [z] at hk; cases hk) (fun z => by rw [z] at hk; cases hk) (fun z => by rw [z] at hk; cases hk), g.2.2.2.2⟩
theorem cL.e {c c' : dH} (g : cL c c') : eC c c' := fun a k hk => g a k (fun z => by rw [z] at hk; cases hk) (fun z => by rw [z] at hk; cases hk) (fun z => by rw [z] at hk; cases hk)
section LE
variable {K : Int} {n : Nat} {hC hM c d c' d' : dH} {x y lf f ho ti : Int32} {b : Int}
/-- a place that is left has today's visits -/
def T3 (c d : dH) (lf : Int32) (b : Int) (f ho ti : Int32) : Prop := T1 c d b f ho ti ∧ (∀ p, p < 7 → bI lf p = true → d.1 12 (3 * p + 2) = c.1 67 (7 + p)) ∧ (∀ p, p < 7 → d.1 12 (3 * p + 1) = c.1 67 (21 + p))
theorem T1_c (hc : ∀ a k, a ≠ 43 → a ≠ 51 → a ≠ 83 → c'.1 a k = c.1 a k) (hd : ∀ a k, a ≠ 0 → a ≠ 4 → a ≠ 14 → a ≠ 16 → d'.1 a k = d.1 a k) (hd0 : ∀ k, (k < 8 ∨ 14 < k ∧ k ≠ 17) → k < 38 ∨ 41 < k → d'.1 0 k = d.1 0 k) (hm : mOK d → mOK d') (T : T1 c d b f ho ti) : T1 c' d' b f ho ti := by
  obtain ⟨C, L3, mo, e23, e21, e22, hf, bho, bti, rows⟩ := T
  have e32 : c'.1 3 2 = c.1 3 2 := hc 3 2 (by omega) (by omega) (by omega)
  refine ⟨Ct_C (Ct_M C (fun k => hd 7 k (by omega) (by omega) (by omega) (by omega)) (fun k => hd 5 k (by omega) (by omega) (by omega) (by omega)) (hd0 24 (by omega) (by omega))) (fun a k ha => hc a k (by omega) (by omega) (by omega)), Q3_e (fun a k hk => hc a k (fun z => by rw [z] at hk; cases hk) (fun z => by rw [z] at hk; cases hk) (fun z => by rw [z] at hk; cases hk)) (fun a k hk => ?_) L3, hm mo, by rw [hd 12 23 (by omega) (by omega) (by omega) (by omega)]; exact e23, by rw [hd 12 21 (by omega) (by omega) (by omega) (by omega)]; exact e21, by rw [hd 12 22 (by omega) (by omega) (by omega) (by omega)]; exact e22, Pl'_c e32 hf, bho, bti, fun p hp => ?_⟩
  · by_cases a0 : a = 0
    · rw [a0] at hk ⊢
      by_cases q : (k < 8 ∨ 14 < k ∧ k ≠ 17) ∧ (k < 38 ∨ 41 < k)
      · exact hd0 k q.1 q.2
      · exfalso
        rcases (show k = 8 ∨ k = 9 ∨ k = 10 ∨ k = 11 ∨ k = 12 ∨ k = 13 ∨ k = 14 ∨ k = 17 ∨ k = 38 ∨ k = 39 ∨ k = 40 ∨ k = 41 by omega) with rfl | rfl | rfl | rfl | rfl | rfl | rfl | rfl | rfl | rfl | rfl | rfl <;> cases hk
    · exact hd a k a0 (fun z => by rw [z] at hk; cases hk) (fun z => by rw [z] at hk; cases hk) (fun z => by rw [z] at hk; cases hk)
  · rw [hd 12 _ (by omega) (by omega) (by omega) (by omega), hd 12 _ (by omega) (by omega) (by omega) (by omega)]
    exact rows p hp
theorem T3_c (hc : cL c c') {dp : Nat} (hd : gL dp d d') (T : T3 c d lf b f ho ti) : T3 c' d' lf b f ho ti := by
  refine ⟨T1_c hc hd.1 hd.2.2.1 hd.2.2.2.2 T.1, fun p hp hb => ?_, fun p hp => ?_⟩
  · rw [hd.1 12 _ (by omega) (by omega) (by omega) (by omega), hc 67 _ (by omega) (by omega) (by omega)]
    exact T.2.1 p hp hb
  · rw [hd.1 12 _ (by omega) (by omega) (by omega) (by omega), hc 67 _ (by omega) (by omega) (by omega)]
    exact T.2.2 p hp
/-- how much he would trouble, on his way -/
def tW (c d : dH) (x f ho ti : Int32) : Int32 := tV c d x (c.1 67 (7 + dI x)) (c.1 67 (21 + dI x)) (ho + wF c f x) (ti + wF c f x) 0
/-- a step of a search: walks, and what comes back behind it -/
theorem T3_walk (T : T3 c d lf b f ho ti) (hb : b ≤ 150) (cw : cwB c f ho ti x = true) (hl : bI lf (dI x) = true) : ∃ d1 : dH, f_X12_walks 12 x (d.1 5 2) d = some (tW c d x f ho ti, d1) ∧ WK c d d1 x (tW c d x f ho ti) ∧ T3 c d1 (lf &&& ((1 <<< (x &&& 31)) ^^^ (-1))) (b + 1) x (ho + wF c f x + 1) (ti + wF c f x) := by
  have hx := (cwB_true cw).1
  have C := T.1.1
  have hn := hx.nat C
  obtain ⟨d1, e1, W, T'⟩ := T1_walk T.1 hb cw
  have ev : tV c d x (d.1 12 (3 * dI x + 2)) (d.1 12 (3 * dI x + 1)) (ho + wF c f x) (ti + wF c f x) 0 = tW c d x f ho ti := by
    unfold tW
    rw [T.2.1 (dI x) hn.2 hl, T.2.2 (dI x) hn.2]
  rw [ev] at e1 W
  refine ⟨d1, e1, W, by rw [Int32.add_assoc]; exact T', fun p hp hb => ?_, fun p hp => ?_⟩
  · have ex : x = Int32.ofNat (dI x) := i_nat hx.1
    have h2 := bI_del lf (p := dI x) hn.2 hp
    rw [← ex] at h2
    rw [h2] at hb
    have hne : ¬ dI x = p := fun z => by rw [decide_eq_true z] at hb; simp at hb
    rw [W.2.2.2.2.2.2.1 (3 * p + 2) (by omega) (by omega) (by omega)]
    refine T.2.1 p hp ?_
    rw [decide_eq_false hne] at hb
    simpa using hb
  · rw [W.2.2.2.2.2.2.1 (3 * p + 1) (by omega) (by omega) (by omega)]
    exact T.2.2 p hp
theorem tW_bt : bt 0 30 (tW c d x f ho ti) := bt30 _
/-- kept at a depth -/
def kept (dp : Nat) (d : dH) : Prop := ∀ k, k < 29 → d.1 16 (29 * dp + k) = d.1 12 k
theorem M_keep {dp : Nat} {q : Int32} (hq : q.toInt = dp) (h8 : dp < 8) (d : dH) : ∃ d1 : dH, f_X12_keep q d = some d1 ∧ gL dp d d1 ∧ kept dp d1 ∧ (∀ k, d1.1 0 k = d.1 0 k) := by
  have e : f_X12_keep q d = some (dCpy d 12 16 0 (29 * dp + 0) 29) := lp_keep 29 dFu 0 dp q 0 d (fuel_lt (by omega)) rfl rfl hq h8
  refine ⟨_, e, ⟨fun a k _ _ _ h4 => dCpy_ne h4, fun k hk => by rw [dCpy_r, if_neg (by omega)], fun k _ _ => dCpy_ne (by omega), fun _ _ => rfl, fun m => mOK_e (eqOn_cpy eqOn_rf (fun _ => rfl)) rfl m⟩, fun k hk => ?_, fun k => dCpy_ne (by omega)⟩
  rw [dCpy_r, if_pos (by omega), dCpy_ne (by omega)]
  exact ixe _ (by omega)
theorem M_again {dp : Nat} {q : Int32} (hq : q.toInt = dp) (h8 : dp < 8) {d d1 d2 : dH} (kp : kept dp d) {v : Int32} (hx : dI x < 7) (W : WK c d d1 x v) (g : gL (dp + 1) d1 d2) : ∃ d3 : dH, f_X12_again q d2 = some d3 ∧ gL (dp + 1) d d3 ∧ kept dp d3 ∧ (∀ k, d3.1 0 k = d2.1 0 k) := by
  have e : f_X12_again q d2 = some (dCpy d2 16 12 (29 * dp + 0) 0 29) := lp_again 29 dFu 0 dp q 0 d2 (fuel_lt (by omega)) rfl rfl hq h8
  obtain ⟨w22, w21, w23, w24, wt, wv, wk, gg⟩ := W
  have r12 : ∀ k, (dCpy d2 16 12 (29 * dp + 0) 0 29).1 12 k = d.1 12 k := fun k => by
    rw [dCpy_r]
    by_cases q : k < 29
    · rw [if_pos (by omega), show 29 * dp + 0 + (k - 0) = 29 * dp + k by omega, g.2.1 _ (by omega), gg.1 16 _ (by omega) (by omega) (by omega) (by omega), kp k q]
    · rw [if_neg (by omega), g.1 12 k (by omega) (by omega) (by omega) (by omega), wk k (by omega) (by omega) (by omega)]
  have r16 : ∀ k, k < 29 * (dp + 1) → (dCpy d2 16 12 (29 * dp + 0) 0 29).1 16 k = d.1 16 k := fun k hk => by rw [dCpy_ne (by omega), g.2.1 k hk, gg.1 16 k (by omega) (by omega) (by omega) (by omega)]
  refine ⟨_, e, ⟨fun a k h1 h2 h3 h4 => ?_, r16, fun k h1 h2 => ?_, fun a ha => ?_, fun m => ?_⟩, fun k hk => ?_, fun k => dCpy_ne (by omega)⟩
  · by_cases q : a = 12
    · rw [q]; exact r12 k
    · rw [dCpy_ne q, g.1 a k h1 h2 h3 h4, gg.1 a k q h1 h2 h3]
  · rw [dCpy_ne (by omega), g.2.2.1 k h1 h2, gg.2.1 k h1]
  · show d2.2.1 a = d.2.1 a
    rw [g.2.2.2.1 a ha, gg.2.2.1 a ha]
  · exact mOK_e (eqOn_cpy eqOn_rf (fun _ => rfl)) rfl (g.2.2.2.2 (gg.2.2.2 m))
  · rw [r16 _ (by omega), r12 k]
    exact kp k hk
/-- the reference alone: it comes to an end, and what is no better stays away -/
def prn (d d' : dH) (sum : Int32) : Prop := d.1 0 39 ≠ -1 → (d.1 0 39).toInt ≤ sum.toInt → d'.1 0 39 = d.1 0 39 ∧ d'.1 0 38 = d.1 0 38
theorem lp_gl {dp : Nat} {depth sum row : Int32} (hdp : depth.toInt = dp) (h8 : dp < 8) (hs : bt 0 (30 * dp) sum) {rc : Int32 → Int32 → Int32 → Int32 → dH → Option (dH)}
    (hrec : ∀ (p : Nat) (sum' row' : Int32) (d : dH) (f ho ti : Int32), p < 7 → bI lf p = true → T3 c d (lf &&& ((1 <<< (Int32.ofNat p &&& 31)) ^^^ (-1))) (b + 1) f ho ti → bt 0 (30 * (dp + 1)) sum' → ∃ d' : dH, rc (depth + 1) (lf &&& ((1 <<< (Int32.ofNat p &&& 31)) ^^^ (-1))) sum' row' d = some d' ∧ gL (dp + 1) d d' ∧ prn d d' sum') (hb : b ≤ 150) :
    ∀ (m n j : Nat) (y : Int32) (d : dH), m < n → y.toInt = j → j + m = dI (c.1 3 2) → T3 c d lf b f ho ti → kept dp d → ∃ d' : dH, f_X12_goLeast_L41 rc n depth lf sum row y d = some d' ∧ gL (dp + 1) d d' ∧ prn d d' sum := by
  intro m
  have s1 := hs.1
  have s2 := hs.2
  induction m with
  | zero =>
    intro n j y d hn hy hj T kp
    obtain ⟨n, rfl⟩ : ∃ z, n = z + 1 := ⟨n - 1, by omega⟩
    have C := T.1.1
    rw [f_X12_goLeast_L41, C.np, if_neg (ge_j C hy hj)]
    exact ⟨d, rfl, gL_rf _ _, fun _ _ => ⟨rfl, rfl⟩⟩
  | succ m ih =>
    intro n j y d hn hy hj T kp
    obtain ⟨n, rfl⟩ : ∃ z, n = z + 1 := ⟨n - 1, by omega⟩
    have C := T.1.1
    have hx := pl_j C hy hj
    have nx := C.nat
    have dy : dI y = j := dI_of hy
    have ey : y = Int32.ofNat j := by rw [i_eq, hy, i_ofNat (by omega)]
    have hcw : f_X12_canWalk 12 y d = some (cwB c f ho ti y) := by rw [M_canWalk C 12 (by rw [T.1.2.2.2.1]; exact T.1.2.2.2.2.2.2.1), T.1.2.2.2.1, T.1.2.2.2.2.1, T.1.2.2.2.2.2.1]
    have hh : f_X12_has lf y d = bI lf j := by rw [M_hasB hx C d, dy]
    rw [f_X12_goLeast_L41, C.np, if_pos (lt_j C hy hj), hh]
    unfold f_X12_goLeast_J125
    have skip := ih n (j + 1) (y + 1) d (by omega) (y_suc hy (by omega)) (by omega) T kp
    by_cases hl : bI lf j = true
    · rw [if_pos hl, hcw, Option.bind_some]
      by_cases cw : cwB c f ho ti y = true
      · rw [if_pos cw]
        obtain ⟨d1, w1, W, T'⟩ := T3_walk T hb cw (by rw [dy]; exact hl)
        have tb := tW_bt (c := c) (d := d) (x := y) (f := f) (ho := ho) (ti := ti)
        have tb1 := tb.1
        have tb2 := tb.2
        rw [w1, Option.bind_some]
        have es : (sum + tW c d y f ho ti).toInt = sum.toInt + (tW c d y f ho ti).toInt := i_add (by omega)
        obtain ⟨d2, r1, g2, p2⟩ := hrec j (sum + tW c d y f ho ti) (10 * row + y) d1 y (ho + wF c f y + 1) (ti + wF c f y) (by omega) hl (ey ▸ T') ⟨by omega, by omega⟩
        dsimp only
        rw [← ey] at r1
        rw [r1, Option.bind_some]
        obtain ⟨d3, a1, g3, kp3, z3⟩ := M_again hdp h8 kp (by omega) W g2
        rw [a1, Option.bind_some]
        have gg := W.2.2.2.2.2.2.2
        obtain ⟨d4, r4, g4, p4⟩ := ih n (j + 1) (y + 1) d3 (by omega) (y_suc hy (by omega)) (by omega) (T3_c (cL_rf c) g3 T) kp3
        refine ⟨d4, r4, gL_tr g3 g4, fun h1 h2 => ?_⟩
        have q39 : d1.1 0 39 = d.1 0 39 := gg.2.1 39 (by omega)
        have q38 : d1.1 0 38 = d.1 0 38 := gg.2.1 38 (by omega)
        obtain ⟨u1, u2⟩ := p2 (by rw [q39]; exact h1) (by rw [q39, es]; omega)
        have v39 : d3.1 0 39 = d.1 0 39 := by rw [z3, u1, q39]
        have v38 : d3.1 0 38 = d.1 0 38 := by rw [z3, u2, q38]
        obtain ⟨w1', w2'⟩ := p4 (by rw [v39]; exact h1) (by rw [v39]; exact h2)
        exact ⟨w1'.trans v39, w2'.trans v38⟩
      · rw [if_neg cw]
        exact skip
    · rw [if_neg hl]
      exact skip
theorem M_gl : ∀ (m fu dp : Nat) (depth lf sum row : Int32) (d : dH) (f ho ti : Int32) (b : Int), cnt lf = m → m < fu → dp + m ≤ 7 → depth.toInt = dp → T3 c d lf b f ho ti → b + m ≤ 150 → bt 0 (30 * dp) sum → ∃ d' : dH, g_X12_goLeast fu depth lf sum row d = some d' ∧ gL dp d d' ∧ prn d d' sum := by
  intro m
  induction m using Nat.strongRecOn with
  | ind m ih =>
    intro fu dp depth lf sum row d f ho ti b hc hfu hdm hdp T hb hs
    obtain ⟨fu, rfl⟩ : ∃ z, fu = z + 1 := ⟨fu - 1, by omega⟩
    show ∃ d' : dH, f_X12_goLeast (g_X12_goLeast fu) depth lf sum row d = some d' ∧ gL dp d d' ∧ prn d d' sum
    unfold f_X12_goLeast f_X12_goLeast_J21
    by_cases e0 : lf = 0
    · rw [if_pos e0]
      have put : ∃ d' : dH, ((some (dPut d 0 39 sum)).bind fun h16 => some (dPut h16 0 38 row)) = some d' ∧ gL dp d d' := by
        refine ⟨_, rfl, fun a k h1 h2 h3 h4 => ?_, fun k hk => ?_, fun k h1 h2 => ?_, fun _ _ => rfl, fun z => mOK_put rfl (by decide) (mOK_put rfl (by decide) z)⟩
        · rw [dPut_ne (by omega), dPut_ne (by omega)]
        · rw [dPut_ne (by omega), dPut_ne (by omega)]
        · rw [dPut_ne (by omega), dPut_ne (by omega)]
      obtain ⟨d', e1, g1⟩ := put
      by_cases e1' : d.1 0 39 = -1
      · rw [if_pos e1']
        exact ⟨d', e1, g1, fun h1 => absurd e1' h1⟩
      · rw [if_neg e1']
        by_cases e2 : sum < d.1 0 39
        · rw [if_pos e2]
          exact ⟨d', e1, g1, fun _ h2 => by rw [i_lt] at e2; omega⟩
        · rw [if_neg e2]
          exact ⟨d, rfl, gL_rf _ _, fun _ _ => ⟨rfl, rfl⟩⟩
    · rw [if_neg e0]
      obtain ⟨d1, k1, k2, k3, k4⟩ := M_keep hdp (by omega) d
      rw [k1, Option.bind_some]
      have nx := T.1.1.nat
      have T' := T3_c (cL_rf c) k2 T
      obtain ⟨d2, u1, u2, u3⟩ := lp_gl (c := c) (b := b) (lf := lf) (f := f) (ho := ho) (ti := ti) (row := row) (rc := g_X12_goLeast fu) hdp (by omega) hs (fun p sum' row' d f ho ti hp hl T hs' => by
        have hcd := cnt_del hp hl
        exact ih (m - 1) (by omega) fu (dp + 1) (depth + 1) _ sum' row' d f ho ti (b + 1) (by omega) (by omega) (by omega) (by rw [i_add1 (by omega), hdp]; omega) T (by omega) (by show bt 0 (30 * ((dp + 1 : Nat) : Int)) sum'; exact hs')) (by omega) (dI (c.1 3 2)) dFu 0 0 d1 (fuel_lt (by omega)) rfl (by omega) T' k3
      refine ⟨d2, u1, gL_tr k2 (gL_le (by omega) u2), fun h1 h2 => ?_⟩
      obtain ⟨w1, w2⟩ := u3 (by rw [k4]; exact h1) (by rw [k4]; exact h2)
      exact ⟨w1.trans (k4 39), w2.trans (k4 38)⟩
/-- what is best so far, on both sides -/
def BL (c d : dH) : Prop := (c.1 83 1 = 1000 ∧ c.1 83 0 = -1 ∧ d.1 0 39 = -1 ∧ d.1 0 38 = -1) ∨ (c.1 83 1 = d.1 0 39 ∧ c.1 83 0 = d.1 0 38 ∧ bt 0 999 (d.1 0 39) ∧ 0 ≤ (c.1 83 0).toInt)
def pw : Nat → Int
  | 0 => 1
  | n + 1 => 10 * pw n
theorem pw_le : ∀ k, k ≤ 7 → 1 ≤ pw k ∧ pw k ≤ 10000000 := by decide
theorem row_step {row : Int32} {dp : Nat} (h7 : dp + 1 ≤ 7) (hr : 0 ≤ row.toInt ∧ row.toInt < pw dp) {p : Nat} (hy : y.toInt = p) (hp : p < 7) : (row * 10 + y).toInt = row.toInt * 10 + p ∧ 0 ≤ (row * 10 + y).toInt ∧ (row * 10 + y).toInt < pw (dp + 1) := by
  have k10 : (10 : Int32).toInt = 10 := rfl
  have h1 := pw_le dp (by omega)
  have h2 := pw_le (dp + 1) h7
  have e0 : pw (dp + 1) = 10 * pw dp := rfl
  have e1 : (row * 10).toInt = row.toInt * 10 := by rw [i_mul (by rw [k10]; omega), k10]
  have e2 : (row * 10 + y).toInt = row.toInt * 10 + p := by rw [i_add (by rw [e1]; omega), e1, hy]
  exact ⟨e2, by omega, by omega⟩
theorem BL_c {dp : Nat} (hd : ∀ k, k = 38 ∨ k = 39 → d'.1 0 k = d.1 0 k) (hc : ∀ k, c'.1 83 k = c.1 83 k) (B : BL c d) : BL c' d' := by
  unfold BL
  rw [hd 38 (Or.inl rfl), hd 39 (Or.inr rfl), hc, hc]
  exact B
theorem J_loop {dp : Nat} {depth sum row : Int32} (hdp : depth.toInt = dp) (h7 : dp + 1 ≤ 7) (hs : bt 0 (30 * dp) sum) (hr : 0 ≤ row.toInt ∧ row.toInt < pw dp) {rcC : Int32 → Int32 → Int32 → Int32 → Int32 → Int32 → dH → Option (dH)} {rcM : Int32 → Int32 → Int32 → Int32 → dH → Option (dH)}
    (hrec : ∀ (p : Nat) (sum' row' : Int32) (c d : dH) (f ho ti : Int32), p < 7 → bI lf p = true → T3 c d (lf &&& ((1 <<< (Int32.ofNat p &&& 31)) ^^^ (-1))) (b + 1) f ho ti → bt 0 (30 * (dp + 1)) sum' → (0 ≤ row'.toInt ∧ row'.toInt < pw (dp + 1)) → (∀ p, p < 7 → bt 0 150 (c.1 67 (7 + p)) ∧ bt 0 30 (c.1 67 (21 + p))) → BL c d → ∃ c' d' : dH, rcC f ho ti (lf &&& ((1 <<< (Int32.ofNat p &&& 31)) ^^^ (-1))) row' sum' c = some c' ∧ rcM (depth + 1) (lf &&& ((1 <<< (Int32.ofNat p &&& 31)) ^^^ (-1))) sum' row' d = some d' ∧ cL c c' ∧ gL (dp + 1) d d' ∧ BL c' d') (hb : b ≤ 150) :
    ∀ (m n n2 j : Nat) (y : Int32) (c d : dH), m < n → m < n2 → y.toInt = j → j + m = dI (c.1 3 2) → T3 c d lf b f ho ti → (∀ p, p < 7 → bt 0 150 (c.1 67 (7 + p)) ∧ bt 0 30 (c.1 67 (21 + p))) → kept dp d → BL c d → ∃ c' d' : dH, f_X7_troubleOn_L31 rcC n f ho ti lf row sum y c = some c' ∧ f_X12_goLeast_L41 rcM n2 depth lf sum row y d = some d' ∧ cL c c' ∧ gL (dp + 1) d d' ∧ BL c' d' := by
  intro m
  have s1 := hs.1
  have s2 := hs.2
  induction m with
  | zero =>
    intro n n2 j y c d hn hn2 hy hj T vb kp B
    obtain ⟨n, rfl⟩ : ∃ z, n = z + 1 := ⟨n - 1, by omega⟩
    obtain ⟨n2, rfl⟩ : ∃ z, n2 = z + 1 := ⟨n2 - 1, by omega⟩
    have C := T.1.1
    rw [f_X7_troubleOn_L31, f_X12_goLeast_L41, C.np, if_neg (ge_j C hy hj), if_neg (ge_j C hy hj)]
    exact ⟨c, d, rfl, rfl, cL_rf _, gL_rf _ _, B⟩
  | succ m ih =>
    intro n n2 j y c d hn hn2 hy hj T vb kp B
    obtain ⟨n, rfl⟩ : ∃ z, n = z + 1 := ⟨n - 1, by omega⟩
    obtain ⟨n2, rfl⟩ : ∃ z, n2 = z + 1 := ⟨n2 - 1, by omega⟩
    obtain ⟨C, L3, mo, e23, e21, e22, hf, bho, bti, rows⟩ := id T.1
    have hx := pl_j C hy hj
    have nx := C.nat
    have dy : dI y = j := dI_of hy
    have ey : y = Int32.ofNat j := by rw [i_eq, hy, i_ofNat (by omega)]
    have hcw : f_X12_canWalk 12 y d = some (cwB c f ho ti y) := by rw [M_canWalk C 12 (by rw [e23]; exact hf), e23, e21, e22]
    have hh : f_X12_has lf y d = bI lf j := by rw [M_hasB hx C d, dy]
    have hhc : f_X11_isIn lf y c = bI lf j := by rw [ey]; exact isIn_b lf c (by omega)
    rw [f_X7_troubleOn_L31, f_X12_goLeast_L41, C.np, if_pos (lt_j C hy hj), if_pos (lt_j C hy hj), hh, hhc]
    unfold f_X12_goLeast_J125 f_X7_troubleOn_J138
    have skip := ih n n2 (j + 1) (y + 1) c d (by omega) (by omega) (y_suc hy (by omega)) (by omega) T vb kp B
    by_cases hl : bI lf j = true
    · rw [if_pos hl, if_pos hl, hcw, C_couldWalk C 66 hf, Option.bind_some, Option.bind_some]
      by_cases cw : cwB c f ho ti y = true
      · rw [if_pos cw, if_pos cw, C_apart C hf hx.p', Option.bind_some]
        obtain ⟨d1, w1, W, T'⟩ := T3_walk T hb cw (by rw [dy]; exact hl)
        have tb := tW_bt (c := c) (d := d) (x := y) (f := f) (ho := ho) (ti := ti)
        have tb1 := tb.1
        have tb2 := tb.2
        have wf := wF_bt C hf hx.p'
        have wf1 := wf.1
        have wf2 := wf.2
        have h1 := bho.1
        have h2 := bho.2
        have h3 := bti.1
        have h4 := bti.2
        have e1 : (ho + wF c f y).toInt = ho.toInt + (wF c f y).toInt := i_add (by omega)
        have e2 : (ti + wF c f y).toInt = ti.toInt + (wF c f y).toInt := i_add (by omega)
        obtain ⟨vb1, vb2⟩ := vb (dI y) (by omega)
        obtain ⟨c1, tc, fc⟩ := C_tr (ho := ho + wF c f y) (ti := ti + wF c f y) (sm := 0) C L3 mo hx ⟨by omega, by omega⟩ ⟨by omega, by omega⟩ ⟨vb1.1, by have := vb1.2; omega⟩ ⟨vb2.1, by have := vb2.2; omega⟩ bs0
        have tc' : f_X8_troubleThen 66 y (ho + wF c f y) (ti + wF c f y) 0 c = some (tW c d y f ho ti, c1) := tc
        rw [w1, tc', Option.bind_some, Option.bind_some]
        have es : (sum + tW c d y f ho ti).toInt = sum.toInt + (tW c d y f ho ti).toInt := i_add (by omega)
        have rs := row_step h7 hr hy (by omega)
        have gg := W.2.2.2.2.2.2.2
        have T1' : T3 c1 d1 (lf &&& ((1 <<< (Int32.ofNat j &&& 31)) ^^^ (-1))) (b + 1) y (ho + wF c f y + 1) (ti + wF c f y) := T3_c fc.l (gL_rf 0 d1) (ey ▸ T')
        have B1 : BL c1 d1 := BL_c (dp := 0) (fun k hk => by rcases hk with rfl | rfl <;> exact gg.2.1 _ (by omega)) (fun k => fc.1 83 k (by omega) (by omega)) B
        obtain ⟨c2, d2, r1, r2, g1, g2, B2⟩ := hrec j (sum + tW c d y f ho ti) (row * 10 + y) c1 d1 y (ho + wF c f y + 1) (ti + wF c f y) (by omega) hl T1' ⟨by omega, by omega⟩ rs.2 (fun p hp => by rw [fc.1 67 _ (by omega) (by omega), fc.1 67 _ (by omega) (by omega)]; exact vb p hp) B1
        dsimp only
        rw [← ey] at r1 r2
        rw [Int32.mul_comm 10 row, r1, r2, Option.bind_some, Option.bind_some]
        obtain ⟨d3, a1, g3, kp3, z3⟩ := M_again hdp (by omega) kp (by omega) W g2
        rw [a1, Option.bind_some]
        have cl : cL c c2 := cL_tr fc.l g1
        have e32 : c2.1 3 2 = c.1 3 2 := cl 3 2 (by omega) (by omega) (by omega)
        have B3 : BL c2 d3 := BL_c (dp := 0) (fun k _ => z3 k) (fun _ => rfl) B2
        obtain ⟨c4, d4, r4, r5, g4, g5, B4⟩ := ih n n2 (j + 1) (y + 1) c2 d3 (by omega) (by omega) (y_suc hy (by omega)) (by rw [e32]; omega) (T3_c cl g3 T) (fun p hp => by rw [cl 67 _ (by omega) (by omega) (by omega), cl 67 _ (by omega) (by omega) (by omega)]; exact vb p hp) kp3 B3
        exact ⟨c4, d4, r4, r5, cL_tr cl g4, gL_tr g3 g5, B4⟩
      · rw [if_neg cw, if_neg cw]
        exact skip
    · rw [if_neg hl, if_neg hl]
      exact skip
theorem J_least : ∀ (m fu fu2 dp : Nat) (depth lf sum row : Int32) (c d : dH) (f ho ti : Int32) (b : Int), cnt lf = m → m < fu → m < fu2 → dp + m ≤ 7 → depth.toInt = dp → T3 c d lf b f ho ti → b + m ≤ 150 → (∀ p, p < 7 → bt 0 150 (c.1 67 (7 + p)) ∧ bt 0 30 (c.1 67 (21 + p))) → bt 0 (30 * dp) sum → (0 ≤ row.toInt ∧ row.toInt < pw dp) → BL c d → ∃ c' d' : dH, g_X7_troubleOn fu f ho ti lf row sum c = some c' ∧ g_X12_goLeast fu2 depth lf sum row d = some d' ∧ cL c c' ∧ gL dp d d' ∧ BL c' d' := by
  intro m
  induction m using Nat.strongRecOn with
  | ind m ih =>
    intro fu fu2 dp depth lf sum row c d f ho ti b hc hfu hfu2 hdm hdp T hb vb hs hr B
    obtain ⟨fu, rfl⟩ : ∃ z, fu = z + 1 := ⟨fu - 1, by omega⟩
    have s1 := hs.1
    have s2 := hs.2
    show ∃ c' d' : dH, f_X7_troubleOn (g_X7_troubleOn fu) f ho ti lf row sum c = some c' ∧ g_X12_goLeast fu2 depth lf sum row d = some d' ∧ cL c c' ∧ gL dp d d' ∧ BL c' d'
    unfold f_X7_troubleOn
    by_cases pr : sum < c.1 83 1
    · rw [if_pos pr]
      obtain ⟨fu2, rfl⟩ : ∃ z, fu2 = z + 1 := ⟨fu2 - 1, by omega⟩
      show ∃ c' d' : dH, (if lf = 0 then _ else _) = some c' ∧ f_X12_goLeast (g_X12_goLeast fu2) depth lf sum row d = some d' ∧ cL c c' ∧ gL dp d d' ∧ BL c' d'
      unfold f_X12_goLeast f_X12_goLeast_J21
      by_cases e0 : lf = 0
      · rw [if_pos e0, if_pos e0]
        have m1 : (if d.1 0 39 = -1 then (some (dPut d 0 39 sum)).bind fun h16 => some (dPut h16 0 38 row) else if sum < d.1 0 39 then (some (dPut d 0 39 sum)).bind fun h16 => some (dPut h16 0 38 row) else some d) = some (dPut (dPut d 0 39 sum) 0 38 row) := by
          by_cases q : d.1 0 39 = -1
          · rw [if_pos q, Option.bind_some]
          · rw [if_neg q, if_pos, Option.bind_some]
            rcases B with B | B
            · exact absurd B.2.2.1 q
            · rw [← B.1]; exact pr
        rw [m1, Option.bind_some]
        refine ⟨_, _, rfl, rfl, fun a k _ _ h3 => ?_, ⟨fun a k h1 h2 h3 h4 => ?_, fun k hk => ?_, fun k h1 h2 => ?_, fun _ _ => rfl, fun z => mOK_put rfl (by decide) (mOK_put rfl (by decide) z)⟩, Or.inr ⟨?_, ?_, ?_, ?_⟩⟩
        · rw [dPut_ne (by omega), dPut_ne (by omega)]
        · rw [dPut_ne (by omega), dPut_ne (by omega)]
        · rw [dPut_ne (by omega), dPut_ne (by omega)]
        · rw [dPut_ne (by omega), dPut_ne (by omega)]
        · rw [dPut_at, dPut_ne (by omega), dPut_at]
        · rw [dPut_ne (by omega), dPut_at, dPut_at]
        · rw [dPut_ne (by omega), dPut_at]
          exact ⟨by omega, by omega⟩
        · rw [dPut_ne (by omega), dPut_at]
          exact hr.1
      · rw [if_neg e0, if_neg e0]
        obtain ⟨d1, k1, k2, k3, k4⟩ := M_keep hdp (by omega) d
        rw [k1, Option.bind_some]
        have nx := T.1.1.nat
        have T' := T3_c (cL_rf c) k2 T
        have B' : BL c d1 := BL_c (dp := 0) (fun k _ => k4 k) (fun _ => rfl) B
        by_cases m0 : m = 0
        · -- nothing is left among the PLACES
          have hz : ∀ p, p < 7 → bI lf p = true → False := fun p hp hl => by have := cnt_del hp hl; omega
          have none : ∀ (m n n2 j : Nat) (y : Int32), m < n → m < n2 → y.toInt = j → j + m = dI (c.1 3 2) → f_X7_troubleOn_L31 (g_X7_troubleOn fu) n f ho ti lf row sum y c = some c ∧ f_X12_goLeast_L41 (g_X12_goLeast fu2) n2 depth lf sum row y d1 = some d1 := by
            intro m
            have C := T'.1.1
            induction m with
            | zero =>
              intro n n2 j y hn hn2 hy hj
              obtain ⟨n, rfl⟩ : ∃ z, n = z + 1 := ⟨n - 1, by omega⟩
              obtain ⟨n2, rfl⟩ : ∃ z, n2 = z + 1 := ⟨n2 - 1, by omega⟩
              rw [f_X7_troubleOn_L31, f_X12_goLeast_L41, C.np, if_neg (ge_j C hy hj), if_neg (ge_j C hy hj)]
              exact ⟨rfl, rfl⟩
            | succ m ih2 =>
              intro n n2 j y hn hn2 hy hj
              obtain ⟨n, rfl⟩ : ∃ z, n = z + 1 := ⟨n - 1, by omega⟩
              obtain ⟨n2, rfl⟩ : ∃ z, n2 = z + 1 := ⟨n2 - 1, by omega⟩
              have hx := pl_j C hy hj
              have dy : dI y = j := dI_of hy
              have ey : y = Int32.ofNat j := by rw [i_eq, hy, i_ofNat (by omega)]
              have hl : ¬ bI lf j = true := fun z => hz j (by omega) z
              have hh : f_X12_has lf y d1 = bI lf j := by rw [M_hasB hx C d1, dy]
              have hhc : f_X11_isIn lf y c = bI lf j := by rw [ey]; exact isIn_b lf c (by omega)
              rw [f_X7_troubleOn_L31, f_X12_goLeast_L41, C.np, if_pos (lt_j C hy hj), if_pos (lt_j C hy hj), hh, hhc, if_neg hl, if_neg hl]
              exact ih2 n n2 (j + 1) (y + 1) (by omega) (by omega) (y_suc hy (by omega)) (by omega)
          obtain ⟨q1, q2⟩ := none (dI (c.1 3 2)) dFu dFu 0 0 (fuel_lt (by omega)) (fuel_lt (by omega)) rfl (by omega)
          rw [q1, q2]
          exact ⟨c, d1, rfl, rfl, cL_rf _, k2, B'⟩
        · obtain ⟨c2, d2, u1, u2, u3, u4, u5⟩ := J_loop (b := b) (lf := lf) (f := f) (ho := ho) (ti := ti) (row := row) (rcC := g_X7_troubleOn fu) (rcM := g_X12_goLeast fu2) hdp (by omega) hs hr (fun p sum' row' c d f ho ti hp hl T hs' hr' vb' B => by
            have hcd := cnt_del hp hl
            exact ih (m - 1) (by omega) fu fu2 (dp + 1) (depth + 1) _ sum' row' c d f ho ti (b + 1) (by omega) (by omega) (by omega) (by omega) (by rw [i_add1 (by omega), hdp]; omega) T (by omega) vb' (by show bt 0 (30 * ((dp + 1 : Nat) : Int)) sum'; exact hs') hr' B) (by omega) (dI (c.1 3 2)) dFu dFu 0 0 c d1 (fuel_lt (by omega)) (fuel_lt (by omega)) rfl (by omega) T' vb k3 B'
          rw [u1, u2]
          exact ⟨c2, d2, rfl, rfl, u3, gL_tr k2 (gL_le (by omega) u4), u5⟩
    · rw [if_neg pr]
      obtain ⟨d1, u1, u2, u3⟩ := M_gl (c := c) m fu2 dp depth lf sum row d f ho ti b hc hfu2 hdm hdp T hb hs
      refine ⟨c, d1, rfl, u1, cL_rf _, u2, ?_⟩
      rw [i_lt] at pr
      rcases B with B | B
      · rw [B.1, k1000] at pr
        omega
      · have hn1 : d.1 0 39 ≠ -1 := fun z => by have := B.2.2.1.1; rw [z, tm1] at this; omega
        obtain ⟨w1, w2⟩ := u3 hn1 (by rw [← B.1]; omega)
        exact BL_c (dp := 0) (fun k hk => by rcases hk with rfl | rfl; exact w2; exact w1) (fun _ => rfl) (Or.inr B)
theorem gL_put (d : dH) {k : Nat} (v : Int32) (hk : 38 ≤ k ∧ k ≤ 41) : gL 0 d (dPut d 0 k v) := ⟨fun a j h1 _ _ _ => dPut_ne (fun z => h1 z.1), fun j hj => by omega, fun j _ h2 => dPut_ne (by omega), fun _ _ => rfl, fun m => by
  rcases (show k = 38 ∨ k = 39 ∨ k = 40 ∨ k = 41 by omega) with rfl | rfl | rfl | rfl <;> exact mOK_put rfl (by decide) m⟩
theorem T3_0 (R : RelK K hC hM) (lf : Int32) : T3 hC (dPut (dCpy hM 11 12 0 0 28) 12 28 0) lf 60 (hC.1 67 0) (hC.1 67 1) (hC.1 67 2) := by
  obtain ⟨s0, s1, s2, s3, s4, s5, s6, s7⟩ := R.sr
  refine ⟨T1_0 R, fun p hp _ => ?_, fun p hp => ?_⟩
  · rw [copy12 hM (by omega)]; exact (s7 p hp).1.symm
  · rw [copy12 hM (by omega)]; exact (s7 p hp).2.2.symm
theorem RelK.vb (R : RelK K hC hM) : ∀ p, p < 7 → bt 0 150 (hC.1 67 (7 + p)) ∧ bt 0 30 (hC.1 67 (21 + p)) := fun p hp => by
  obtain ⟨w0, w1, w2, w3, w4, w6, w7⟩ := R.sw
  obtain ⟨p1, p2, p3, p4⟩ := w7 p hp
  have r12 := R.ct.2.1.2.2.1.2
  exact ⟨⟨by omega, by omega⟩, p3⟩
theorem ok_least : st_least Rel := by
  intro n hC hM hn R x q
  have R1 : RelK (60 * n) hC (dPut hM 0 0 0) := R.t0
  unfold aC_least aM_least f_X11_least f_X12_least
  rw [Option.bind_some]
  generalize dPut hM 0 0 0 = h1 at R1 ⊢
  have C := R1.ct
  have k0 : (0 : Int64).toInt = 0 := rfl
  have k1 : (1 : Int64).toInt = 1 := rfl
  have fin : dAg (Rel (n + 1)) (some (-1, hC)) (some (-1, h1)) := ag rfl rfl (Rel_mono R1)
  rw [isSet_eq C, M_isIn, k0, k1]
  by_cases s : f_X12_isSet x h1 = true
  · rw [if_pos s, if_pos s]
    by_cases a : 0 ≤ q.toInt ∧ q.toInt ≤ 1
    · rw [if_neg (show ¬ q < 0 by rw [i_lt, t0]; omega), if_neg (show ¬ 1 < q by rw [i_lt, t1]; omega), if_pos (decide_eq_true a), M_copy]
      unfold f_X7_troubleLeast
      rw [Option.bind_some, Option.bind_some, Option.bind_some, Option.bind_some, Option.bind_some]
      have T := T3_0 R1 x
      have gm := gM_copy h1
      generalize dPut (dCpy h1 11 12 0 0 28) 12 28 0 = d0 at T gm
      have gp : gL 0 d0 (dPut (dPut d0 0 38 (-1)) 0 39 (-1)) := gL_tr (gL_put d0 (-1) ⟨by omega, by omega⟩) (gL_put _ (-1) ⟨by omega, by omega⟩)
      have cp : cL hC (dPut (dPut hC 83 0 (-1)) 83 1 1000) := fun a k _ _ h3 => by rw [dPut_ne (by omega), dPut_ne (by omega)]
      have B0 : BL (dPut (dPut hC 83 0 (-1)) 83 1 1000) (dPut (dPut d0 0 38 (-1)) 0 39 (-1)) := Or.inl ⟨dPut_at, by rw [dPut_ne (by omega), dPut_at], dPut_at, by rw [dPut_ne (by omega), dPut_at]⟩
      generalize dPut (dPut hC 83 0 (-1)) 83 1 1000 = c1 at cp B0
      generalize dPut (dPut d0 0 38 (-1)) 0 39 (-1) = d1 at gp B0
      have T1 := T3_c cp gp T
      have Rc : RelK (60 * n) c1 d1 := RelK_e R1 cp.e (eM_tr (gM.e12 gm) gp.e)
      have e0 : hC.1 67 0 = c1.1 67 0 := (cp 67 0 (by omega) (by omega) (by omega)).symm
      have e1 : hC.1 67 1 = c1.1 67 1 := (cp 67 1 (by omega) (by omega) (by omega)).symm
      have e2 : hC.1 67 2 = c1.1 67 2 := (cp 67 2 (by omega) (by omega) (by omega)).symm
      rw [e0, e1, e2] at T1
      have cl := cnt_le x
      obtain ⟨c2, d2, u1, u2, u3, u4, u5⟩ := J_least (cnt x) 9 9 0 0 x 0 0 c1 d1 _ _ _ 60 rfl (by omega) (by omega) (by omega) rfl T1 (by omega) Rc.vb ⟨by decide, by decide⟩ ⟨by decide, by decide⟩ B0
      have u1' : r_X7_troubleOn 9 (f_X8_place c1) (f_X8_hour c1) (f_X8_tired c1) x 0 0 c1 = some c2 := u1
      have u2' : r_X12_goLeast 9 0 x 0 0 d1 = some d2 := u2
      rw [u1', u2', Option.bind_some, Option.bind_some, Option.bind_some]
      have Rn : Rel (n + 1) c2 d2 := Rel_mono (RelK_e Rc u3.e u4.e)
      rcases u5 with B | B
      · rw [if_pos B.2.1, B.2.2.1, B.2.2.2]
        have : (if q = 0 then some ((-1 : Int32), d2) else some (-1, d2)) = some (-1, d2) := by split <;> rfl
        rw [this]
        exact ag rfl rfl Rn
      · have hn1 : ¬ c2.1 83 0 = -1 := fun z => by have := B.2.2.2; rw [z, tm1] at this; omega
        rw [if_neg hn1, B.1, B.2.1]
        by_cases z : q = 0
        · rw [if_pos z, if_pos z]
          exact ag rfl rfl Rn
        · rw [if_neg z, if_neg z]
          exact ag rfl rfl Rn
    · rw [if_neg (show ¬ decide (0 ≤ q.toInt ∧ q.toInt ≤ 1) = true by rw [decide_eq_true_iff]; exact a)]
      by_cases a1 : q < 0
      · rw [if_pos a1]
        exact fin
      · rw [if_neg a1, if_pos (show 1 < q by rw [i_lt, t0] at a1; rw [i_lt, t1]; omega)]
        exact fin
  · rw [if_neg s, if_neg s]
    exact fin
end LE
