/-! PURE: SEES, the search -/
section SF
variable {K : Int} {n : Nat} {hC hM c d c' d' : dH} {x y us f ho ti : Int32} {b g : Int}
theorem okB_c (hc : cL c c') {dp : Nat} (hd : gL dp d d') : okB c' d' us ↔ okB c d us := by
  unfold okB
  rw [hc 3 2 (by omega) (by omega) (by omega)]
  constructor
  · intro h p hp hu a
    have := h p hp hu
    rw [hc 67 _ (by omega) (by omega) (by omega), hc 67 _ (by omega) (by omega) (by omega), hd.1 12 _ (by omega) (by omega) (by omega) (by omega)] at this
    exact this a
  · intro h p hp hu a
    rw [hc 67 _ (by omega) (by omega) (by omega), hd.1 12 _ (by omega) (by omega) (by omega) (by omega)] at a
    rw [hc 67 _ (by omega) (by omega) (by omega), hc 67 _ (by omega) (by omega) (by omega)]
    exact h p hp hu a
theorem NP_c {dp dq : Nat} (hd : gL dq d d') (s : sameB d d') (h : NP c d us g dp) : NP c d' us g dp := by
  unfold NP
  rw [okB_c (cL_rf c) hd, s 39 (by omega) (by omega), s 40 (by omega) (by omega)]
  exact h
/-- the test finds nothing -/
theorem NP_test {dp : Nat} (T : T4 c d us b f ho ti g) (h : NP c d us g dp) : ¬ (okB c d us ∧ btr d g dp) := by
  have lb := lf_bd T.1.1 us
  rintro ⟨o, z⟩
  rcases h with h | h
  · exact h o
  · rcases z with z | z
    · rcases h with h | h <;> omega
    · rcases h with h | h <;> omega
theorem NP_walk {dp : Nat} (T : T4 c d us b f ho ti g) {d1 : dH} {v : Int32} (hx : Pl c x) (hu : bI us (dI x) = false) (W : WK c d d1 x v) (ol : lf_ c (us ||| (1 <<< (x &&& 31))) = lf_ c us - nw c (dI x)) (op : lp_ c (us ||| (1 <<< (x &&& 31))) = lp_ c us - n1 c (dI x)) (h : NP c d us g dp) : NP c d1 (us ||| (1 <<< (x &&& 31))) (g + nw c (dI x)) (dp + 1) := by
  have gg := W.2.2.2.2.2.2.2
  have q39 : d1.1 0 39 = d.1 0 39 := gg.2.1 39 (by omega)
  have q40 : d1.1 0 40 = d.1 0 40 := gg.2.1 40 (by omega)
  unfold NP
  rw [okB_walk T hx hu W, q39, q40, ol, op]
  have n1b : n1 c (dI x) ≤ 1 := by unfold n1; split <;> omega
  rcases h with h | h
  · exact Or.inl (fun z => h z.1)
  · refine Or.inr ?_
    rcases h with h | h
    · exact Or.inl (by omega)
    · exact Or.inr ⟨by omega, by omega⟩
theorem rwM_child {dp : Nat} {row : Int32} {r : Int} (h : rwM dp row r) (h7 : dp + 1 ≤ 7) {j : Nat} (hy : y.toInt = j) (hj : j < 7) : ∃ row' : Int32, (if dp = 0 then y else 10 * row + y) = row' ∧ rwM (dp + 1) row' (r * 10 + j) ∧ row'.toInt = r * 10 + j := by
  refine ⟨_, rfl, ?_⟩
  rcases h with ⟨h1, h2, h3⟩ | ⟨h1, h2, h3, h4⟩
  · rw [if_pos h1, h1, h3]
    have e : y.toInt = 0 * 10 + (j : Int) := by omega
    exact ⟨Or.inr ⟨by omega, e, by omega, by show (0 : Int) * 10 + j < 10 * 1; omega⟩, e⟩
  · rw [if_neg (by omega), Int32.mul_comm 10 row]
    have rs := row_step h7 (row := row) ⟨by omega, by omega⟩ hy hj
    have e : (row * 10 + y).toInt = r * 10 + j := by rw [rs.1, h2]
    exact ⟨Or.inr ⟨by omega, e, by omega, by rw [← e]; exact rs.2.2⟩, e⟩
theorem J206 {rc : Int32 → Int32 → Int32 → dH → Option (dH)} {k : Int32 → Int32 → Int32 → Int32 → dH → Option (dH)} {dp : Nat} {depth row : Int32} (hdp : depth.toInt = dp) (us' : Int32) (h : dH) : (if depth = 0 then f_X12_goSees_J206 rc k depth us row y (depth + 1) us' y h else f_X12_goSees_J206 rc k depth us row y (depth + 1) us' (10 * row + y) h) = (rc (depth + 1) us' (if dp = 0 then y else 10 * row + y) h).bind fun h25 => (f_X12_again depth h25).bind fun h27 => k depth us row (y + 1) h27 := by
  unfold f_X12_goSees_J206 f_X12_goSees_J214
  by_cases e : depth = 0
  · rw [if_pos e, if_pos (by rw [i_eq, hdp, t0] at e; omega)]
  · rw [if_neg e, if_neg (by rw [i_eq, hdp, t0] at e; omega)]
theorem lp_gs {dp : Nat} {depth row : Int32} {r : Int} (hdp : depth.toInt = dp) (h8 : dp < 8) (hr : rwM dp row r) {rc : Int32 → Int32 → Int32 → dH → Option (dH)} (hcu : cnt us = dp)
    (hrec : ∀ (p : Nat) (row' : Int32) (d : dH) (f ho ti : Int32) (g : Int), p < 7 → bI us p = false → T4 c d (us ||| (1 <<< (Int32.ofNat p &&& 31))) (b + 1) f ho ti g → rwM (dp + 1) row' (r * 10 + p) → Jn (dp + 1) (r * 10 + p) d → NP c d (us ||| (1 <<< (Int32.ofNat p &&& 31))) g (dp + 1) → ∃ d' : dH, rc (depth + 1) (us ||| (1 <<< (Int32.ofNat p &&& 31))) row' d = some d' ∧ gL (dp + 1) d d' ∧ sameB d d') (hb : b ≤ 150) :
    ∀ (m n j : Nat) (y : Int32) (d : dH), m < n → y.toInt = j → j + m = dI (c.1 3 2) → T4 c d us b f ho ti g → kept dp d → LI dp r j d → NP c d us g dp → ∃ d' : dH, f_X12_goSees_L128 rc n depth us row y d = some d' ∧ gL (dp + 1) d d' ∧ sameB d d' := by
  intro m
  induction m with
  | zero =>
    intro n j y d hn hy hj T kp J N
    obtain ⟨n, rfl⟩ : ∃ z, n = z + 1 := ⟨n - 1, by omega⟩
    have C := T.1.1
    rw [f_X12_goSees_L128, C.np, if_neg (ge_j C hy hj)]
    exact ⟨d, rfl, gL_rf _ _, fun _ _ _ => rfl⟩
  | succ m ih =>
    intro n j y d hn hy hj T kp J N
    obtain ⟨n, rfl⟩ : ∃ z, n = z + 1 := ⟨n - 1, by omega⟩
    have C := T.1.1
    have hx := pl_j C hy hj
    have nx := C.nat
    have dy : dI y = j := dI_of hy
    have ey : y = Int32.ofNat j := by rw [i_eq, hy, i_ofNat (by omega)]
    have hcw : f_X12_canWalk 12 y d = some (cwB c f ho ti y) := by rw [M_canWalk C 12 (by rw [T.1.2.2.2.1]; exact T.1.2.2.2.2.2.2.1), T.1.2.2.2.1, T.1.2.2.2.2.1, T.1.2.2.2.2.2.1]
    have hh : f_X12_has us y d = bI us j := by rw [M_hasB hx C d, dy]
    rw [f_X12_goSees_L128, C.np, if_pos (lt_j C hy hj), hh]
    have skip := ih n (j + 1) (y + 1) d (by omega) (y_suc hy (by omega)) (by omega) T kp (LI_s J) N
    by_cases hu : bI us j = true
    · rw [if_pos hu]
      exact skip
    · have hu' : bI us j = false := Bool.eq_false_iff.mpr hu
      rw [if_neg hu, hcw, Option.bind_some]
      by_cases cw : cwB c f ho ti y = true
      · have c1 := cnt_or (x := us) (p := j) (by omega) hu'
        have c2 := cnt_le (us ||| (1 <<< (Int32.ofNat j &&& 31)))
        obtain ⟨row', er, rw', _⟩ := rwM_child hr (by omega) hy (by omega)
        obtain ⟨d1, w1, W, T', ol, op⟩ := T4_walk T hb cw (by rw [dy]; exact hu')
        have gg := W.2.2.2.2.2.2.2
        have s1 : sameB d d1 := fun k h1 h2 => gg.2.1 k (by omega)
        have N' := NP_walk T hx (by rw [dy]; exact hu') W ol op N
        rw [if_pos cw, w1, Option.bind_some, J206 hdp, er]
        rw [ey] at T' N'
        obtain ⟨d2, r1, g2, s2⟩ := hrec j row' d1 _ _ _ _ (by omega) hu' T' rw' (Jn_c s1 (LI_J J)) N'
        rw [← ey] at r1
        rw [r1, Option.bind_some]
        obtain ⟨d3, a1, g3, kp3, z3⟩ := M_again hdp h8 kp (by omega) W g2
        have s3 : sameB d d3 := fun k h1 h2 => by rw [z3, s2 k h1 h2, s1 k h1 h2]
        rw [a1, Option.bind_some]
        obtain ⟨d4, r4, g4, s4⟩ := ih n (j + 1) (y + 1) d3 (by omega) (y_suc hy (by omega)) (by omega) (T4_c (cL_rf c) g3 T) kp3 (LI_c s3 (LI_s J)) (NP_c g3 s3 N)
        exact ⟨d4, r4, gL_tr g3 g4, sameB_tr s3 s4⟩
      · rw [if_neg cw]
        exact skip
theorem hrow_of {dp : Nat} {row : Int32} {r : Int} (h : rwM dp row r) (J : Jn dp r d) (h0 : dp = 0 → (d.1 0 38).toInt = -1 ∨ (d.1 0 40).toInt ≠ 0) : (d.1 0 40).toInt = dp → ¬ row.toInt < (d.1 0 38).toInt := by
  intro hl
  have j := J 0 (by omega)
  have e : r * pw 0 = r := Int.mul_one r
  rw [e] at j
  rcases h with ⟨h1, h2, h3⟩ | ⟨h1, h2, h3, h4⟩
  · rcases h0 h1 with z | z
    · rw [z, h2, tm1]; omega
    · omega
  · omega
/-- the reference alone, where nothing better is to be had -/
theorem M_gs : ∀ (m fu dp : Nat) (depth us row : Int32) (d : dH) (f ho ti : Int32) (b g r : Int), cnt us = dp → dp + m = 7 → m < fu → 1 ≤ dp → depth.toInt = dp → T4 c d us b f ho ti g → b + m ≤ 150 → rwM dp row r → Jn dp r d → NP c d us g dp → ∃ d' : dH, g_X12_goSees fu depth us row d = some d' ∧ gL dp d d' ∧ sameB d d' := by
  intro m
  induction m with
  | zero =>
    intro fu dp depth us row d f ho ti b g r hc hdm hfu h1 hdp T hb hr J N
    obtain ⟨fu, rfl⟩ : ∃ z, fu = z + 1 := ⟨fu - 1, by omega⟩
    show ∃ d' : dH, f_X12_goSees (g_X12_goSees fu) depth us row d = some d' ∧ gL dp d d' ∧ sameB d d'
    rw [(M_test (r := r) hdp T (hrow_of hr J (fun z => by omega))).1 (NP_test T N)]
    unfold f_X12_goSees_J120
    obtain ⟨d1, k1, k2, k3, k4⟩ := M_keep hdp (by omega) d
    have s1 : sameB d d1 := fun k _ _ => k4 k
    have nx := T.1.1.nat
    rw [k1, Option.bind_some]
    obtain ⟨d2, u1, u2, u3⟩ := lp_gs (c := c) (b := b) (us := us) (f := f) (ho := ho) (ti := ti) (g := g) (rc := g_X12_goSees fu) hdp (by omega) hr hc (fun p row' d f ho ti g hp hu T _ _ _ => by
      have c1 := cnt_or (x := us) hp hu
      have c2 := cnt_le (us ||| (1 <<< (Int32.ofNat p &&& 31)))
      omega) (by omega) (dI (c.1 3 2)) dFu 0 0 d1 (fuel_lt (by omega)) rfl (by omega) (T4_c (cL_rf c) k2 T) k3 (LI_c s1 (Jn_LI J)) (NP_c k2 s1 N)
    exact ⟨d2, u1, gL_tr k2 (gL_le (by omega) u2), sameB_tr s1 u3⟩
  | succ m ih =>
    intro fu dp depth us row d f ho ti b g r hc hdm hfu h1 hdp T hb hr J N
    obtain ⟨fu, rfl⟩ : ∃ z, fu = z + 1 := ⟨fu - 1, by omega⟩
    show ∃ d' : dH, f_X12_goSees (g_X12_goSees fu) depth us row d = some d' ∧ gL dp d d' ∧ sameB d d'
    rw [(M_test (r := r) hdp T (hrow_of hr J (fun z => by omega))).1 (NP_test T N)]
    unfold f_X12_goSees_J120
    obtain ⟨d1, k1, k2, k3, k4⟩ := M_keep hdp (by omega) d
    have s1 : sameB d d1 := fun k _ _ => k4 k
    have nx := T.1.1.nat
    rw [k1, Option.bind_some]
    obtain ⟨d2, u1, u2, u3⟩ := lp_gs (c := c) (b := b) (us := us) (f := f) (ho := ho) (ti := ti) (g := g) (rc := g_X12_goSees fu) hdp (by omega) hr hc (fun p row' d f ho ti g hp hu T rw' J' N' => by
      have c1 := cnt_or (x := us) hp hu
      exact ih fu (dp + 1) (depth + 1) _ row' d f ho ti (b + 1) g (r * 10 + p) (by omega) (by omega) (by omega) (by omega) (by rw [i_add1 (by omega), hdp]; omega) T (by omega) rw' J' N') (by omega) (dI (c.1 3 2)) dFu 0 0 d1 (fuel_lt (by omega)) rfl (by omega) (T4_c (cL_rf c) k2 T) k3 (LI_c s1 (Jn_LI J)) (NP_c k2 s1 N)
    exact ⟨d2, u1, gL_tr k2 (gL_le (by omega) u2), sameB_tr s1 u3⟩
/-- the same best -/
def BS (c d : dH) : Prop := c.1 83 0 = d.1 0 38 ∧ c.1 83 1 = d.1 0 39 ∧ c.1 83 5 = d.1 0 40 ∧ c.1 83 2 = d.1 0 41
theorem BS_c (s : sameB d d') (hc : ∀ k, c'.1 83 k = c.1 83 k) (B : BS c d) : BS c' d' := by
  unfold BS
  rw [hc, hc, hc, hc, s 38 (by omega) (by omega), s 39 (by omega) (by omega), s 40 (by omega) (by omega), s 41 (by omega) (by omega)]
  exact B
theorem C_isBetter (B : BS c d) {gn ln : Int32} {dp : Nat} (hg : gn.toInt = g) (hl : ln.toInt = dp) : f_X7_isBetter gn ln c = true ↔ btr d g dp := by
  unfold f_X7_isBetter btr
  rw [B.2.1, B.2.2.1, ← hg, ← hl]
  by_cases b1 : d.1 0 39 < gn
  · rw [if_pos b1]
    rw [i_lt] at b1
    exact ⟨fun _ => Or.inl b1, fun _ => rfl⟩
  · rw [if_neg b1]
    rw [i_lt] at b1
    by_cases b2 : gn = d.1 0 39
    · rw [if_pos b2]
      rw [i_eq] at b2
      by_cases b3 : ln < d.1 0 40
      · rw [if_pos b3]
        rw [i_lt] at b3
        exact ⟨fun _ => Or.inr ⟨b2, b3⟩, fun _ => rfl⟩
      · rw [if_neg b3]
        rw [i_lt] at b3
        exact ⟨fun h => by simp at h, fun h => by rcases h with z | z; exact absurd z b1; exact absurd z.2 b3⟩
    · rw [if_neg b2]
      rw [i_eq] at b2
      exact ⟨fun h => by simp at h, fun h => by rcases h with z | z; exact absurd z b1; exact absurd z.1 b2⟩
theorem C_isBorneBy (C : Ct c d) (hx : Pl c x) (v : Int32) : ∃ bb : Bool, f_X7_isBorneBy x v c = some bb ∧ (bb = true ↔ (c.1 67 (21 + dI x) < c.1 67 (14 + dI x) + v → c.1 67 (21 + dI x) < c.1 67 (14 + dI x))) := by
  unfold f_X7_isBorneBy
  rw [C_isTooMuch C hx, C_isTooMuch C hx, Option.bind_some, Option.bind_some, Int32.add_zero]
  by_cases a : c.1 67 (21 + dI x) < c.1 67 (14 + dI x)
  · rw [if_pos (decide_eq_true a)]
    exact ⟨true, rfl, fun _ _ => a, fun _ => rfl⟩
  · rw [if_neg (show ¬ decide (c.1 67 (21 + dI x) < c.1 67 (14 + dI x)) = true by rw [decide_eq_true_iff]; exact a)]
    by_cases z : c.1 67 (21 + dI x) < c.1 67 (14 + dI x) + v
    · rw [if_pos (decide_eq_true z)]
      exact ⟨false, rfl, fun h => by simp at h, fun h => absurd (h z) a⟩
    · rw [if_neg (show ¬ decide (c.1 67 (21 + dI x) < c.1 67 (14 + dI x) + v) = true by rw [decide_eq_true_iff]; exact z)]
      exact ⟨true, rfl, fun _ h => absurd h z, fun _ => rfl⟩
def vbd (c : dH) : Prop := ∀ p, p < 7 → bt 0 150 (c.1 67 (7 + p)) ∧ bt 0 30 (c.1 67 (21 + p))
theorem vbd_c (h : cL c c') (v : vbd c) : vbd c' := fun p hp => by
  rw [h 67 _ (by omega) (by omega) (by omega), h 67 _ (by omega) (by omega) (by omega)]; exact v p hp
theorem JS_loop {dp : Nat} {depth row rC gn : Int32} {r : Int} (hdp : depth.toInt = dp) (h8 : dp < 8) (hr : rwM dp row r) (hrC : rC.toInt = r) (hgn : gn.toInt = g) (hcu : cnt us = dp) {rcC : Int32 → Int32 → Int32 → Int32 → Int32 → Int32 → dH → Option (dH)} {rcM : Int32 → Int32 → Int32 → dH → Option (dH)}
    (hrec : ∀ (p : Nat) (row' gn' : Int32) (c d : dH) (f ho ti : Int32) (g : Int), p < 7 → bI us p = false → T4 c d (us ||| (1 <<< (Int32.ofNat p &&& 31))) (b + 1) f ho ti g → okB c d (us ||| (1 <<< (Int32.ofNat p &&& 31))) → rwM (dp + 1) row' (r * 10 + p) → Jn (dp + 1) (r * 10 + p) d → gn'.toInt = g → vbd c → BS c d → ∃ c' d' : dH, rcC f ho ti (us ||| (1 <<< (Int32.ofNat p &&& 31))) row' gn' c = some c' ∧ rcM (depth + 1) (us ||| (1 <<< (Int32.ofNat p &&& 31))) row' d = some d' ∧ cL c c' ∧ gL (dp + 1) d d' ∧ BS c' d' ∧ Post (dp + 1) (r * 10 + p) d d')
    (hprn : ∀ (p : Nat) (row' : Int32) (c d : dH) (f ho ti : Int32) (g : Int), p < 7 → bI us p = false → T4 c d (us ||| (1 <<< (Int32.ofNat p &&& 31))) (b + 1) f ho ti g → rwM (dp + 1) row' (r * 10 + p) → Jn (dp + 1) (r * 10 + p) d → ¬ okB c d (us ||| (1 <<< (Int32.ofNat p &&& 31))) → ∃ d' : dH, rcM (depth + 1) (us ||| (1 <<< (Int32.ofNat p &&& 31))) row' d = some d' ∧ gL (dp + 1) d d' ∧ sameB d d') (hb : b ≤ 150) :
    ∀ (m n n2 j : Nat) (y : Int32) (c d : dH), m < n → m < n2 → y.toInt = j → j + m = dI (c.1 3 2) → T4 c d us b f ho ti g → okB c d us → kept dp d → LI dp r j d → vbd c → BS c d → ∃ c' d' : dH, f_X7_seeOn_L70 rcC n f ho ti us rC gn y c = some c' ∧ f_X12_goSees_L128 rcM n2 depth us row y d = some d' ∧ cL c c' ∧ gL (dp + 1) d d' ∧ BS c' d' ∧ Post dp r d d' := by
  intro m
  induction m with
  | zero =>
    intro n n2 j y c d hn hn2 hy hj T ok kp J vb B
    obtain ⟨n, rfl⟩ : ∃ z, n = z + 1 := ⟨n - 1, by omega⟩
    obtain ⟨n2, rfl⟩ : ∃ z, n2 = z + 1 := ⟨n2 - 1, by omega⟩
    have C := T.1.1
    rw [f_X7_seeOn_L70, f_X12_goSees_L128, C.np, if_neg (ge_j C hy hj), if_neg (ge_j C hy hj)]
    exact ⟨c, d, rfl, rfl, cL_rf _, gL_rf _ _, B, Or.inl (fun _ _ _ => rfl)⟩
  | succ m ih =>
    intro n n2 j y c d hn hn2 hy hj T ok kp J vb B
    obtain ⟨n, rfl⟩ : ∃ z, n = z + 1 := ⟨n - 1, by omega⟩
    obtain ⟨n2, rfl⟩ : ∃ z, n2 = z + 1 := ⟨n2 - 1, by omega⟩
    obtain ⟨C, L3, mo, e23, e21, e22, hf, bho, bti, rows⟩ := id T.1
    have hx := pl_j C hy hj
    have nx := C.nat
    have dy : dI y = j := dI_of hy
    have ey : y = Int32.ofNat j := by rw [i_eq, hy, i_ofNat (by omega)]
    have hcw : f_X12_canWalk 12 y d = some (cwB c f ho ti y) := by rw [M_canWalk C 12 (by rw [e23]; exact hf), e23, e21, e22]
    have hh : f_X12_has us y d = bI us j := by rw [M_hasB hx C d, dy]
    have hhc : f_X11_isIn us y c = bI us j := by rw [ey]; exact isIn_b us c (by omega)
    rw [f_X7_seeOn_L70, f_X12_goSees_L128, C.np, if_pos (lt_j C hy hj), if_pos (lt_j C hy hj), hh, hhc]
    unfold f_X7_seeOn_J186
    have skip := ih n n2 (j + 1) (y + 1) c d (by omega) (by omega) (y_suc hy (by omega)) (by omega) T ok kp (LI_s J) vb B
    by_cases hu : bI us j = true
    · rw [if_pos hu, if_pos hu]
      exact skip
    · have hu' : bI us j = false := Bool.eq_false_iff.mpr hu
      rw [if_neg hu, if_neg hu, hcw, C_couldWalk C 66 hf, Option.bind_some, Option.bind_some]
      by_cases cw : cwB c f ho ti y = true
      · have cc1 := cnt_or (x := us) (p := j) (by omega) hu'
        have cc2 := cnt_le (us ||| (1 <<< (Int32.ofNat j &&& 31)))
        rw [if_pos cw, if_pos cw, C_apart C hf hx.p', Option.bind_some]
        obtain ⟨row', er, rw', er2⟩ := rwM_child hr (by omega) hy (by omega)
        obtain ⟨d1, w1, W, T', ol, op⟩ := T4_walk T hb cw (by rw [dy]; exact hu')
        have gg := W.2.2.2.2.2.2.2
        have s1 : sameB d d1 := fun k h1 h2 => gg.2.1 k (by omega)
        have wf := wF_bt C hf hx.p'
        have wf1 := wf.1
        have wf2 := wf.2
        have h1 := bho.1
        have h2 := bho.2
        have h3 := bti.1
        have h4 := bti.2
        have e1 : (ho + wF c f y).toInt = ho.toInt + (wF c f y).toInt := i_add (by omega)
        have e2 : (ti + wF c f y).toInt = ti.toInt + (wF c f y).toInt := i_add (by omega)
        obtain ⟨vb1, vb2⟩ := vb (dI y) (by omega)
        obtain ⟨c1, tc, fc⟩ := C_tr (ho := ho + wF c f y) (ti := ti + wF c f y) (sm := 0) C L3 mo hx ⟨by omega, by omega⟩ ⟨by omega, by omega⟩ ⟨vb1.1, by have := vb1.2; omega⟩ ⟨vb2.1, by have := vb2.2; omega⟩ bs0
        have tc' : f_X8_troubleThen 66 y (ho + wF c f y) (ti + wF c f y) 0 c = some (tW c d y f ho ti, c1) := tc
        have cl1 := fc.l
        have C1 : Ct c1 d := (T4_c cl1 (gL_rf 0 d) T).1.1
        have hx1 : Pl c1 y := Pl_c (cl1 3 2 (by omega) (by omega) (by omega)) hx
        obtain ⟨bb, eb, hbb⟩ := C_isBorneBy C1 hx1 (tW c d y f ho ti)
        rw [cl1 67 _ (by omega) (by omega) (by omega), cl1 67 _ (by omega) (by omega) (by omega)] at hbb
        have okw := okB_walk T hx (by rw [dy]; exact hu') W
        rw [w1, tc', Option.bind_some, Option.bind_some, J206 hdp, er]
        dsimp only
        rw [eb, Option.bind_some]
        have T1 := T4_c cl1 (gL_rf 0 d1) T'
        have ebit : us ||| (1 <<< (y &&& 31)) = us ||| (1 <<< (Int32.ofNat j &&& 31)) := by rw [ey]
        rw [ebit] at T1
        have B1 : BS c1 d1 := BS_c s1 (fun k => fc.1 83 k (by omega) (by omega)) B
        have J1 : Jn (dp + 1) (r * 10 + j) d1 := Jn_c s1 (LI_J J)
        have ok1 : okB c1 d1 (us ||| (1 <<< (Int32.ofNat j &&& 31))) ↔ bb = true := by
          rw [okB_c cl1 (gL_rf 0 d1), ← ey, okw, hbb]
          exact ⟨fun z => z.2, fun z => ⟨ok, z⟩⟩
        -- behind the child
        have back : ∀ c2 d2 : dH, cL c c2 → gL (dp + 1) d1 d2 → BS c2 d2 → Post (dp + 1) (r * 10 + j) d1 d2 → ∃ c' d' : dH, f_X7_seeOn_L70 rcC n f ho ti us rC gn (y + 1) c2 = some c' ∧ ((f_X12_again depth d2).bind fun h27 => f_X12_goSees_L128 rcM n2 depth us row (y + 1) h27) = some d' ∧ cL c c' ∧ gL (dp + 1) d d' ∧ BS c' d' ∧ Post dp r d d' := by
          intro c2 d2 cl g2 B2 P2
          obtain ⟨d3, a1, g3, kp3, z3⟩ := M_again hdp h8 kp (by omega) W g2
          have s3 : sameB d2 d3 := fun k _ _ => z3 k
          rw [a1, Option.bind_some]
          have P3 : Post (dp + 1) (r * 10 + j) d d3 := Post_tr (Or.inl s1) (Post_tr P2 (Or.inl s3))
          have e32 : c2.1 3 2 = c.1 3 2 := cl 3 2 (by omega) (by omega) (by omega)
          obtain ⟨c4, d4, r4, r5, g4, g5, B4, P4⟩ := ih n n2 (j + 1) (y + 1) c2 d3 (by omega) (by omega) (y_suc hy (by omega)) (by rw [e32]; omega) (T4_c cl g3 T) ((okB_c cl g3).mpr ok) kp3 (LI_post J P3) (vbd_c cl vb) (BS_c s3 (fun _ => rfl) B2)
          exact ⟨c4, d4, r4, r5, cL_tr cl g4, gL_tr g3 g5, B4, Post_tr (Post_up (by omega) P3) P4⟩
        cases bb with
        | true =>
          obtain ⟨nv, en, env⟩ := C_newAt C1 hx1
          rw [nw_c cl1 (by omega)] at env
          rw [if_pos rfl, en, Option.bind_some]
          have nb := nw_bd C (p := dI y) (by omega)
          have lb := (lf_bd C us).1
          have t4 := T.2.2.2.1
          have eg : (gn + nv).toInt = g + nw c (dI y) := by rw [i_add (by omega)]; omega
          obtain ⟨c2, d2, r1, r2, g1, g2, B2, P2⟩ := hrec j row' (gn + nv) c1 d1 _ _ _ _ (by omega) hu' T1 (ok1.mpr rfl) rw' J1 eg (vbd_c cl1 vb) B1
          have erC : rC * 10 + y = row' := by
            rw [i_eq, er2]
            rcases hr with ⟨q1, q2, q3⟩ | ⟨q1, q2, q3, q4⟩
            · have : rC = 0 := by rw [i_eq, hrC, q3, t0]
              rw [this, show (0 : Int32) * 10 + y = y by rw [Int32.zero_mul, Int32.zero_add], hy, q3]
              omega
            · exact (row_step (dp := dp) (by omega) (row := rC) ⟨by omega, by omega⟩ hy (by omega)).1.trans (by rw [hrC])
          rw [← ey] at r1 r2
          rw [erC, r1, r2, Option.bind_some, Option.bind_some]
          exact back c2 d2 (cL_tr cl1 g1) g2 B2 P2
        | false =>
          rw [if_neg (show ¬ false = true by decide)]
          obtain ⟨d2, r2, g2, s2⟩ := hprn j row' c1 d1 _ _ _ _ (by omega) hu' T1 rw' J1 (fun z => by have := ok1.mp z; cases this)
          rw [← ey] at r2
          rw [r2, Option.bind_some]
          exact back c1 d2 cl1 g2 (BS_c s2 (fun _ => rfl) B1) (Or.inl s2)
      · rw [if_neg cw, if_neg cw]
        exact skip
theorem gL_putd (dp : Nat) (d : dH) {k : Nat} (v : Int32) (hk : 38 ≤ k ∧ k ≤ 41) : gL dp d (dPut d 0 k v) := ⟨fun a j h1 _ _ _ => dPut_ne (fun z => h1 z.1), fun j hj => dPut_ne (by omega), fun j _ h2 => dPut_ne (by omega), fun _ _ => rfl, (gL_put d v hk).2.2.2.2⟩
theorem gL_upd (dp : Nat) (d : dH) (v depth row : Int32) : gL dp d (updB d v depth row) := gL_tr (gL_tr (gL_tr (gL_putd dp d v ⟨by omega, by omega⟩) (gL_putd dp _ depth ⟨by omega, by omega⟩)) (gL_putd dp _ row ⟨by omega, by omega⟩)) (gL_putd dp _ _ ⟨by omega, by omega⟩)
theorem upd_at (d : dH) (v depth row : Int32) : (updB d v depth row).1 0 39 = v ∧ (updB d v depth row).1 0 40 = depth ∧ (updB d v depth row).1 0 38 = row ∧ (updB d v depth row).1 0 41 = d.1 12 21 := by
  unfold updB
  refine ⟨?_, ?_, ?_, dPut_at⟩
  · rw [dPut_ne (by omega), dPut_ne (by omega), dPut_ne (by omega), dPut_at]
  · rw [dPut_ne (by omega), dPut_ne (by omega), dPut_at]
  · rw [dPut_ne (by omega), dPut_at]
def updC (c : dH) (row len gn ho : Int32) : dH := dPut (dPut (dPut (dPut c 83 0 row) 83 5 len) 83 1 gn) 83 2 ho
theorem cL_upd (c : dH) (row len gn ho : Int32) : cL c (updC c row len gn ho) := fun a k _ _ h3 => by
  unfold updC
  rw [dPut_ne (by omega), dPut_ne (by omega), dPut_ne (by omega), dPut_ne (by omega)]
theorem updC_at (c : dH) (row len gn ho : Int32) : (updC c row len gn ho).1 83 0 = row ∧ (updC c row len gn ho).1 83 5 = len ∧ (updC c row len gn ho).1 83 1 = gn ∧ (updC c row len gn ho).1 83 2 = ho := by
  unfold updC
  refine ⟨?_, ?_, ?_, dPut_at⟩
  · rw [dPut_ne (by omega), dPut_ne (by omega), dPut_ne (by omega), dPut_at]
  · rw [dPut_ne (by omega), dPut_ne (by omega), dPut_at]
  · rw [dPut_ne (by omega), dPut_at]
theorem C_seeOn {rc : Int32 → Int32 → Int32 → Int32 → Int32 → Int32 → dH → Option (dH)} {row gn : Int32} {k : Nat} (hk : us = Int32.ofNat k) (hk2 : k < 128) (c : dH) : f_X7_seeOn rc f ho ti us row gn c = (if f_X7_isBetter gn (Int32.ofNat (cnt us)) c = true then f_X7_seeOn_J41 rc f ho ti us row gn (Int32.ofNat (cnt us)) (updC c row (Int32.ofNat (cnt us)) gn ho) else f_X7_seeOn_J41 rc f ho ti us row gn (Int32.ofNat (cnt us)) c) := by
  unfold f_X7_seeOn updC
  rw [hk, bc_tab k hk2 c, Option.bind_some, Option.bind_some, Option.bind_some, Option.bind_some, Option.bind_some]
/-- behind the test -/
theorem JS_after : ∀ (m fu fu2 dp : Nat) (depth us row rC gn ln : Int32) (c d : dH) (f ho ti : Int32) (b g r : Int) (k : Nat), us = Int32.ofNat k → k < 128 → cnt us = dp → dp + m = 7 → m < fu → m < fu2 → depth.toInt = dp → T4 c d us b f ho ti g → okB c d us → b + m ≤ 150 → rwM dp row r → rC.toInt = r → gn.toInt = g → ln.toInt = dp → Jn dp r d → vbd c → BS c d → ∃ c' d' : dH, f_X7_seeOn_J41 (g_X7_seeOn fu) f ho ti us rC gn ln c = some c' ∧ f_X12_goSees_J120 (g_X12_goSees fu2) depth us row d = some d' ∧ cL c c' ∧ gL dp d d' ∧ BS c' d' ∧ Post dp r d d' := by
  intro m
  induction m using Nat.strongRecOn with
  | ind m ih =>
    intro fu fu2 dp depth us row rC gn ln c d f ho ti b g r k hk hk2 hc hdm hfu hfu2 hdp T ok hb hr hrC hgn hln J vb B
    have C := T.1.1
    have nx := C.nat
    have lb := lf_bd C us
    have t4 := T.2.2.2.1
    obtain ⟨v7, l1, l2⟩ := lp_lts (us := us) C (dI (c.1 3 2)) dFu 0 0 0 (fuel_lt (by omega)) rfl (by omega) ⟨by decide, by decide⟩
    obtain ⟨v8, p1, p2⟩ := lp_lps (us := us) C (dI (c.1 3 2)) dFu 0 0 0 (fuel_lt (by omega)) rfl (by omega) ⟨by decide, by decide⟩
    have l1' : f_X7_leftToSee us c = some v7 := l1
    have p1' : f_X7_leftPlaces us c = some v8 := p1
    have l2' : v7.toInt = lf_ c us := by rw [l2, t0]; unfold lf_; omega
    have p2' : v8.toInt = lp_ c us := by rw [p2, t0]; unfold lp_; omega
    unfold f_X7_seeOn_J41 f_X12_goSees_J120
    rw [l1', p1', Option.bind_some, Option.bind_some]
    obtain ⟨d1, k1, k2, k3, k4⟩ := M_keep hdp (by omega) d
    have s1 : sameB d d1 := fun k _ _ => k4 k
    rw [k1, Option.bind_some]
    have T' := T4_c (cL_rf c) k2 T
    have eg : (gn + v7).toInt = g + lf_ c us := by rw [i_add (by omega)]; omega
    have el : (ln + v8).toInt = ((dp + (lp_ c us).toNat : Nat) : Int) := by rw [i_add (by omega)]; omega
    have bt' := C_isBetter B eg el
    by_cases z : f_X7_isBetter (gn + v7) (ln + v8) c = true
    · rw [if_pos z]
      obtain ⟨c2, d2, u1, u2, u3, u4, u5, u6⟩ := JS_loop (b := b) (g := g) (us := us) (f := f) (ho := ho) (ti := ti) (rcC := g_X7_seeOn fu) (rcM := g_X12_goSees fu2) hdp (by omega) hr hrC hgn hc
        (fun p row' gn' c d f ho ti g hp hu T ok rw' J hg vb B => by
          have c1 := cnt_or (x := us) hp hu
          have c2 := cnt_le (us ||| (1 <<< (Int32.ofNat p &&& 31)))
          obtain ⟨fu, rfl⟩ : ∃ z, fu = z + 1 := ⟨fu - 1, by omega⟩
          obtain ⟨fu2, rfl⟩ : ∃ z, fu2 = z + 1 := ⟨fu2 - 1, by omega⟩
          have ot := or_tab k hk2 p hp
          have ek : us ||| (1 <<< (Int32.ofNat p &&& 31)) = Int32.ofNat (k ||| 2 ^ p) := by rw [hk]; exact ot.1
          have dp1 : (depth + 1).toInt = ((dp + 1 : Nat) : Int) := by rw [i_add1 (by omega), hdp]; omega
          have el1 : (Int32.ofNat (cnt (us ||| (1 <<< (Int32.ofNat p &&& 31))))).toInt = ((dp + 1 : Nat) : Int) := by rw [i_ofNat (by omega), c1, hc]
          show ∃ c' d' : dH, f_X7_seeOn (g_X7_seeOn fu) f ho ti _ row' gn' c = some c' ∧ f_X12_goSees (g_X12_goSees fu2) (depth + 1) _ row' d = some d' ∧ cL c c' ∧ gL (dp + 1) d d' ∧ BS c' d' ∧ Post (dp + 1) (r * 10 + p) d d'
          have tst := M_test (rc := g_X12_goSees fu2) (r := r * 10 + p) dp1 T (hrow_of rw' J (fun z => by omega))
          have erow : row'.toInt = r * 10 + p := by
            rcases rw' with ⟨q1, _⟩ | ⟨q1, q2, q3, q4⟩
            · omega
            · exact q2
          rw [C_seeOn ek ot.2 c]
          have ib := C_isBetter B hg el1
          have nx := T.1.1.nat
          have t4 := T.2.2.2.1
          have lb := lf_bd T.1.1 (us ||| (1 <<< (Int32.ofNat p &&& 31)))
          by_cases w : f_X7_isBetter gn' (Int32.ofNat (cnt (us ||| (1 <<< (Int32.ofNat p &&& 31))))) c = true
          · rw [if_pos w, tst.2 ⟨ok, ib.mp w⟩]
            have ev : d.1 12 24 - d.1 11 24 = gn' := by rw [i_eq, i_sub (by omega), hg]; omega
            rw [ev]
            obtain ⟨a39, a40, a38, a41⟩ := upd_at d gn' (depth + 1) row'
            obtain ⟨b0, b5, b1, b2⟩ := updC_at c row' (Int32.ofNat (cnt (us ||| (1 <<< (Int32.ofNat p &&& 31))))) gn' ho
            have gd := gL_upd (dp + 1) d gn' (depth + 1) row'
            have gc := cL_upd c row' (Int32.ofNat (cnt (us ||| (1 <<< (Int32.ofNat p &&& 31))))) gn' ho
            generalize updB d gn' (depth + 1) row' = d5 at a39 a40 a38 a41 gd
            generalize updC c row' (Int32.ofNat (cnt (us ||| (1 <<< (Int32.ofNat p &&& 31))))) gn' ho = c5 at b0 b5 b1 b2 gc
            have B5 : BS c5 d5 := ⟨by rw [b0, a38], by rw [b1, a39], by rw [b5, a40, i_eq, el1, dp1], by rw [b2, a41]; exact T.1.2.2.2.2.1.symm⟩
            have J5 : Jn (dp + 1) (r * 10 + p) d5 := fun e he => by
              rw [a40, dp1] at he
              have e0 : e = 0 := by omega
              rw [e0, a38, erow]
              show _ ≤ (r * 10 + (p : Int)) * 1
              omega
            obtain ⟨c6, d6, u1, u2, u3, u4, u5, u6⟩ := ih (m - 1) (by omega) fu fu2 (dp + 1) (depth + 1) _ row' row' gn' _ c5 d5 f ho ti (b + 1) g (r * 10 + p) _ ek ot.2 (by omega) (by omega) (by omega) (by omega) dp1 (T4_c gc gd T) ((okB_c gc gd).mpr ok) (by omega) rw' erow hg el1 J5 (vbd_c gc vb) B5
            refine ⟨c6, d6, u1, u2, cL_tr gc u3, gL_tr gd u4, u5, Post_tr (Or.inr ⟨0, ?_, ?_⟩) u6⟩
            · rw [a40, dp1]; rfl
            · rw [a38, erow]
              show _ < (r * 10 + (p : Int) + 1) * 1
              omega
          · rw [if_neg w, tst.1 (fun h => w (ib.mpr h.2))]
            exact ih (m - 1) (by omega) fu fu2 (dp + 1) (depth + 1) _ row' row' gn' _ c d f ho ti (b + 1) g (r * 10 + p) _ ek ot.2 (by omega) (by omega) (by omega) (by omega) dp1 T ok (by omega) rw' erow hg el1 J vb B)
        (fun p row' c d f ho ti g hp hu T rw' J nok => by
          have c1 := cnt_or (x := us) hp hu
          have c2 := cnt_le (us ||| (1 <<< (Int32.ofNat p &&& 31)))
          exact M_gs (c := c) (m - 1) fu2 (dp + 1) (depth + 1) _ row' d f ho ti (b + 1) g (r * 10 + p) (by omega) (by omega) (by omega) (by omega) (by rw [i_add1 (by omega), hdp]; omega) T (by omega) rw' J (Or.inl nok)) (by omega)
        (dI (c.1 3 2)) dFu dFu 0 0 c d1 (fuel_lt (by omega)) (fuel_lt (by omega)) rfl (by omega) T' ((okB_c (cL_rf c) k2).mpr ok) k3 (LI_c s1 (Jn_LI J)) vb (BS_c s1 (fun _ => rfl) B)
      rw [u1, u2]
      exact ⟨c2, d2, rfl, rfl, u3, gL_tr k2 (gL_le (by omega) u4), u5, Post_tr (Or.inl s1) u6⟩
    · rw [if_neg z]
      have N : NP c d us g dp := by
        refine Or.inr ?_
        have nb1 : ¬ ((d.1 0 39).toInt < g + lf_ c us) := fun h => z (bt'.mpr (Or.inl h))
        by_cases e : (d.1 0 39).toInt = g + lf_ c us
        · have nb2 : ¬ (((dp + (lp_ c us).toNat : Nat) : Int) < (d.1 0 40).toInt) := fun h => z (bt'.mpr (Or.inr ⟨e.symm, h⟩))
          exact Or.inr ⟨e, by omega⟩
        · exact Or.inl (by omega)
      obtain ⟨d2, u1, u2, u3⟩ := lp_gs (c := c) (b := b) (us := us) (f := f) (ho := ho) (ti := ti) (g := g) (rc := g_X12_goSees fu2) hdp (by omega) hr hc (fun p row' d f ho ti g hp hu T rw' J' N' => by
        have c1 := cnt_or (x := us) hp hu
        have c2 := cnt_le (us ||| (1 <<< (Int32.ofNat p &&& 31)))
        exact M_gs (c := c) (m - 1) fu2 (dp + 1) (depth + 1) _ row' d f ho ti (b + 1) g (r * 10 + p) (by omega) (by omega) (by omega) (by omega) (by rw [i_add1 (by omega), hdp]; omega) T (by omega) rw' J' N') (by omega) (dI (c.1 3 2)) dFu 0 0 d1 (fuel_lt (by omega)) rfl (by omega) T' k3 (LI_c s1 (Jn_LI J)) (NP_c k2 s1 N)
      rw [u1]
      exact ⟨c, d2, rfl, rfl, cL_rf _, gL_tr k2 (gL_le (by omega) u2), BS_c (sameB_tr s1 u3) (fun _ => rfl) B, Or.inl (sameB_tr s1 u3)⟩
theorem ok_sees : st_sees Rel := by
  intro n hC hM hn R q
  have R1 : RelK (60 * n) hC (dPut hM 0 0 0) := R.t0
  unfold aC_sees aM_sees f_X11_sees f_X12_sees
  rw [Option.bind_some]
  generalize dPut hM 0 0 0 = h1 at R1 ⊢
  have C := R1.ct
  have k0 : (0 : Int64).toInt = 0 := rfl
  have k2 : (2 : Int64).toInt = 2 := rfl
  have k2' : (2 : Int32).toInt = 2 := rfl
  have fin : dAg (Rel (n + 1)) (some (-1, hC)) (some (-1, h1)) := ag rfl rfl (Rel_mono R1)
  rw [C_isThere, C.np, M_isIn, k0, k2]
  by_cases hp : 0 < (hC.1 3 2).toInt
  · have hp0 : ¬ hC.1 3 2 = 0 := fun z => by rw [z, t0] at hp; omega
    rw [if_pos (decide_eq_true hp), if_neg hp0]
    by_cases a : 0 ≤ q.toInt ∧ q.toInt ≤ 2
    · rw [if_neg (show ¬ q < 0 by rw [i_lt, t0]; omega), if_neg (show ¬ 2 < q by rw [i_lt, k2']; omega), if_pos (decide_eq_true a), M_copy]
      unfold f_X7_seeMost
      rw [Option.bind_some, Option.bind_some, Option.bind_some, Option.bind_some, Option.bind_some, Option.bind_some, Option.bind_some, Option.bind_some]
      have T0 := T1_0 R1
      have gm := gM_copy h1
      have mk := fun k hk => copy12 h1 (k := k) hk
      obtain ⟨s0, s1, s2, s3, s4, s5, s6, s7⟩ := R1.sr
      have w3 := R1.sw.2.2.2.1
      have w31 := w3.1
      have w32 := w3.2
      generalize dPut (dCpy h1 11 12 0 0 28) 12 28 0 = d0 at T0 gm mk
      have ehr : f_X8_hour (dPut (dPut (dPut hC 83 0 (-1)) 83 5 0) 83 1 0) = hC.1 67 1 := by
        show (dPut (dPut (dPut hC 83 0 (-1)) 83 5 0) 83 1 0).1 67 1 = _
        rw [dPut_ne (by omega), dPut_ne (by omega), dPut_ne (by omega)]
      rw [ehr]
      have gp : gL 0 d0 (dPut (dPut (dPut d0 0 38 (-1)) 0 39 (-1)) 0 40 0) := gL_tr (gL_tr (gL_put d0 (-1) ⟨by omega, by omega⟩) (gL_put _ (-1) ⟨by omega, by omega⟩)) (gL_put _ 0 ⟨by omega, by omega⟩)
      have cp : cL hC (dPut (dPut (dPut (dPut hC 83 0 (-1)) 83 5 0) 83 1 0) 83 2 (hC.1 67 1)) := fun a k _ _ h3 => by rw [dPut_ne (by omega), dPut_ne (by omega), dPut_ne (by omega), dPut_ne (by omega)]
      have c0 : (dPut (dPut (dPut (dPut hC 83 0 (-1)) 83 5 0) 83 1 0) 83 2 (hC.1 67 1)).1 83 0 = -1 := by rw [dPut_ne (by omega), dPut_ne (by omega), dPut_ne (by omega), dPut_at]
      have c5 : (dPut (dPut (dPut (dPut hC 83 0 (-1)) 83 5 0) 83 1 0) 83 2 (hC.1 67 1)).1 83 5 = 0 := by rw [dPut_ne (by omega), dPut_ne (by omega), dPut_at]
      have c1 : (dPut (dPut (dPut (dPut hC 83 0 (-1)) 83 5 0) 83 1 0) 83 2 (hC.1 67 1)).1 83 1 = 0 := by rw [dPut_ne (by omega), dPut_at]
      have c2 : (dPut (dPut (dPut (dPut hC 83 0 (-1)) 83 5 0) 83 1 0) 83 2 (hC.1 67 1)).1 83 2 = hC.1 67 1 := dPut_at
      have d38 : (dPut (dPut (dPut d0 0 38 (-1)) 0 39 (-1)) 0 40 0).1 0 38 = -1 := by rw [dPut_ne (by omega), dPut_ne (by omega), dPut_at]
      have d39 : (dPut (dPut (dPut d0 0 38 (-1)) 0 39 (-1)) 0 40 0).1 0 39 = -1 := by rw [dPut_ne (by omega), dPut_at]
      have d40 : (dPut (dPut (dPut d0 0 38 (-1)) 0 39 (-1)) 0 40 0).1 0 40 = 0 := dPut_at
      generalize dPut (dPut (dPut (dPut hC 83 0 (-1)) 83 5 0) 83 1 0) 83 2 (hC.1 67 1) = cc at cp c0 c5 c1 c2
      generalize dPut (dPut (dPut d0 0 38 (-1)) 0 39 (-1)) 0 40 0 = dd at gp d38 d39 d40
      have Rc : RelK (60 * n) cc dd := RelK_e R1 cp.e (eM_tr (gM.e12 gm) gp.e)
      have e67 : ∀ k, cc.1 67 k = hC.1 67 k := fun k => cp 67 k (by omega) (by omega) (by omega)
      have T00 : T4 hC d0 0 60 (hC.1 67 0) (hC.1 67 1) (hC.1 67 2) 0 := by
        have lb := lf_bd T0.1 0
        refine ⟨T0, fun p hp _ => ?_, fun p hp => ?_, ?_, fun p hp => ?_⟩
        · rw [mk (3 * p + 2) (by omega), mk (3 * p) (by omega)]
          exact ⟨(s7 p hp).1.symm, (s7 p hp).2.1.symm⟩
        · rw [mk (3 * p + 1) (by omega)]
          exact (s7 p hp).2.2.symm
        · rw [mk 24 (by omega), gm.1 11 24 (by omega) (by omega) (by omega) (by omega), ← s3]
          omega
        · rw [gm.1 11 _ (by omega) (by omega) (by omega) (by omega), gm.1 11 _ (by omega) (by omega) (by omega) (by omega)]
          exact ⟨(s7 p hp).2.1.symm, (s7 p hp).2.2.symm⟩
      have T := T4_c cp gp T00
      have ok0 : okB cc dd 0 := fun p _ hu => by rw [bI_0] at hu; cases hu
      have cnt0 : cnt 0 = 0 := by decide
      have tst := M_test (rc := g_X12_goSees 8) (depth := 0) (row := -1) (dp := 0) (r := 0) rfl T (fun _ => by rw [d38]; omega)
      have bt0 : btr dd 0 0 := Or.inl (by rw [d39]; decide)
      have eM1 := tst.2 ⟨ok0, bt0⟩
      have eC1 := C_seeOn (us := 0) (k := 0) (rc := g_X7_seeOn 8) (f := hC.1 67 0) (ho := hC.1 67 1) (ti := hC.1 67 2) (row := 0) (gn := 0) rfl (by omega) cc
      rw [cnt0] at eC1
      have nb : ¬ f_X7_isBetter 0 (Int32.ofNat 0) cc = true := by
        unfold f_X7_isBetter
        rw [c1, c5]
        decide
      rw [if_neg nb] at eC1
      have t4 := T.2.2.2.1
      have ev : dd.1 12 24 - dd.1 11 24 = 0 := by rw [i_eq, i_sub (by omega), t0]; omega
      rw [ev] at eM1
      obtain ⟨a39, a40, a38, a41⟩ := upd_at dd 0 0 (-1)
      have gd := gL_upd 0 dd 0 0 (-1)
      generalize updB dd 0 0 (-1) = d5 at a39 a40 a38 a41 gd eM1
      have B5 : BS cc d5 := ⟨by rw [c0, a38], by rw [c1, a39], by rw [c5, a40], by rw [c2, a41]; exact T.1.2.2.2.2.1.symm⟩
      have J5 : Jn 0 0 d5 := fun e he => by
        rw [a38, tm1]
        have := pw_pos e
        omega
      obtain ⟨c6, d6, u1, u2, u3, u4, u5, u6⟩ := JS_after 7 8 8 0 0 0 (-1) 0 0 (Int32.ofNat 0) cc d5 _ _ _ 60 0 0 0 rfl (by omega) cnt0 (by omega) (by omega) (by omega) rfl (T4_c (cL_rf cc) gd T) ((okB_c (cL_rf cc) gd).mpr ok0) (by omega) (Or.inl ⟨rfl, rfl, rfl⟩) rfl rfl rfl J5 Rc.vb B5
      have w1 : r_X7_seeOn 9 (f_X8_place cc) (f_X8_hour cc) (f_X8_tired cc) 0 0 0 cc = some c6 := by
        show f_X7_seeOn (g_X7_seeOn 8) (cc.1 67 0) (cc.1 67 1) (cc.1 67 2) 0 0 0 cc = some c6
        rw [e67, e67, e67, eC1]
        exact u1
      have w2 : r_X12_goSees 9 0 0 (-1) dd = some d6 := by
        show f_X12_goSees (g_X12_goSees 8) 0 0 (-1) dd = some d6
        rw [eM1]
        exact u2
      rw [w1, w2, Option.bind_some, Option.bind_some, Option.bind_some]
      have Rn : Rel (n + 1) c6 d6 := Rel_mono (RelK_e Rc u3.e (eM_tr gd.e u4.e))
      rw [u5.1, u5.2.1, u5.2.2.2]
      by_cases z0 : q = 0
      · rw [if_pos z0, if_pos z0]
        exact ag rfl rfl Rn
      · rw [if_neg z0, if_neg z0]
        by_cases z1 : q = 1
        · rw [if_pos z1, if_pos z1]
          exact ag rfl rfl Rn
        · rw [if_neg z1, if_neg z1]
          exact ag rfl rfl Rn
    · rw [if_neg (show ¬ decide (0 ≤ q.toInt ∧ q.toInt ≤ 2) = true by rw [decide_eq_true_iff]; exact a)]
      by_cases a1 : q < 0
      · rw [if_pos a1]
        exact fin
      · rw [if_neg a1, if_pos (show 2 < q by rw [i_lt, t0] at a1; rw [i_lt, k2']; omega)]
        exact fin
  · have hp0 : hC.1 3 2 = 0 := by rw [i_eq, t0]; have := C.ge; omega
    rw [if_neg (show ¬ decide (0 < (hC.1 3 2).toInt) = true by rw [decide_eq_true_iff]; exact hp), if_pos hp0]
    exact fin
end SF
