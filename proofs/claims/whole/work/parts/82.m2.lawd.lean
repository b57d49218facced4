/-! PURE: the class reads CONDITIONS, CLAUSES, a LAW -/
section LD
variable {B : Nat → Nat} {L kk : Nat}
theorem pAtm_pS (hL : L ≤ 240) {q : Nat} (hq : q ≤ L) (k : Nat) : pAtm B L k (pS B L q) = pAtm B L k q := by
  unfold pAtm pAt
  simp only [pS_pS hq hL]
theorem pSum_pS (hL : L ≤ 240) {q : Nat} (hq : q ≤ L) (k : Nat) : pSum B L k (pS B L q) = pSum B L k q := by
  rw [pSum_e]
  show pBeg B L okS _ (pBeg B L okT _ (pAtm B L k (pS B L q))) = pBeg B L okS _ (pBeg B L okT _ (pAtm B L k q))
  rw [pAtm_pS hL hq]
theorem pUn_pS (hL : L ≤ 240) {q : Nat} (hq : q ≤ L) (k : Nat) (N : Option ((Nat → pR) × (Nat → pR))) : pUn B L k N (pS B L q) = pUn B L k N q := by
  unfold pUn
  simp only [pS_pS hq hL, pSum_pS hL hq]
theorem pUnit_pS (hL : L ≤ 240) {q : Nat} (hq : q ≤ L) (k : Nat) : pUnit B L k (pS B L q) = pUnit B L k q := by
  cases k with
  | zero => exact pUn_pS hL hq 0 none
  | succ k => exact pUn_pS hL hq (k + 1) _
theorem cmpC (hB : ∀ k, B k < 256) (j : Nat) (h : dH) : f_X5_isComparing (sg B L j) h = okC (pC B L j) := by
  have k1 : (61 : Int32).toInt = 61 := rfl
  have k2 : (60 : Int32).toInt = 60 := rfl
  have k3 : (62 : Int32).toInt = 62 := rfl
  unfold f_X5_isComparing okC
  rw [← sg_pC hB]
  simp only [i_eq, k1, k2, k3]
  by_cases a : (sg B L j).toInt = 61
  · rw [if_pos a, decide_eq_true (Or.inl a)]
  · rw [if_neg a]
    by_cases b : (sg B L j).toInt = 60
    · rw [if_pos b, decide_eq_true (Or.inr (Or.inl b))]
    · rw [if_neg b]
      by_cases c : (sg B L j).toInt = 62
      · rw [if_pos c, decide_eq_true (Or.inr (Or.inr c))]
      · rw [if_neg c, decide_eq_false (by omega)]
theorem nesC (hB : ∀ k, B k < 256) (j : Nat) (h : dH) : f_X5_isNesting (sg B L j) h = decide (pC B L j = 33 ∨ pC B L j = 40) := by
  have k1 : (33 : Int32).toInt = 33 := rfl
  have k2 : (40 : Int32).toInt = 40 := rfl
  unfold f_X5_isNesting
  rw [← sg_pC hB]
  simp only [i_eq, k1, k2]
  by_cases a : (sg B L j).toInt = 33
  · rw [if_pos a, decide_eq_true (Or.inl a)]
  · rw [if_neg a]
    by_cases b : (sg B L j).toInt = 40
    · rw [if_pos b, decide_eq_true (Or.inr b)]
    · rw [if_neg b, decide_eq_false (by omega)]
theorem okC_lt {j : Nat} (h : okC (pC B L j) = true) : j < L := sg_lt (by intro z; rw [z] at h; cases h)
theorem cmp_C {k : Nat} {x : Int32} (h6 : k ≤ 6) (hx : x.toInt + k = 6) (hL : L ≤ 240) (hB : ∀ k, B k < 256) {q : Nat} {cs0 : List Int32} {c : dH} (hq : cs0.length ≤ q) {o : Option (Bool × dH)} {r : pR} (O : OC B L kk q cs0 c o r) (C T U : Int32 → Bool → dH → Option (Bool × dH)) (N : Int32 → dH → Option (Bool × dH)) :
    OC B L kk q cs0 c (o.bind fun rv => if rv.1 then f_X5_readUnit_J37 C T U N x rv.2 else some (false, rv.2)) (pCmp B L k r) := by
  obtain ⟨ol, or⟩ := O
  cases r with
  | inl e =>
    obtain ⟨c2, g1, g2, g3, g4⟩ := ol e rfl
    rw [g1]
    exact OC_l rfl g2 g3 g4
  | inr r =>
    obtain ⟨j, cs⟩ := r
    obtain ⟨c2, g1, g2, g3, g4, g5⟩ := or j cs rfl
    have pl := pS_le (B := B) g3.2.2.1 hL
    rw [g1]
    simp only [Option.bind_some]
    rw [if_pos trivial]
    unfold f_X5_readUnit_J37 pCmp
    obtain ⟨c3, e3, S3, F3⟩ := SC_sign g3
    rw [e3]
    simp only [Option.bind_some]
    rw [cmpC hB]
    by_cases a : okC (pC B L (pS B L j)) = true
    · rw [if_pos a, if_pos a]
      obtain ⟨S4, F4⟩ := SC_next S3 (okC_lt a)
      obtain ⟨ol, or⟩ := sum_C hL k 30 x h6 hx (by omega) _ _ _ S4
      show OC B L kk q cs0 c (((g_X5_readSum 30).1 x _).bind _) _
      cases hg : pSum B L k (pS B L j + 1) with
      | inl e =>
        obtain ⟨c5, u1, u2, u3, u4⟩ := ol e hg
        rw [u1]
        exact OC_l rfl (FC_t g2 (FC_t F3 (FC_t F4 u2))) u3 u4
      | inr r =>
        obtain ⟨j2, cs2⟩ := r
        obtain ⟨c5, u1, u2, u3, u4, u5⟩ := or j2 cs2 hg
        have hl2 : (cs0 ++ cs ++ cs2).length = cs0.length + cs.length + cs2.length := by rw [List.length_append, List.length_append]
        obtain ⟨c6, v1, v2, v3⟩ := SC_add u3 (-(sg B L (pS B L j))) (by omega)
        rw [u1]
        simp only [Option.bind_some]
        rw [if_pos trivial, v1]
        have ec : cs0 ++ cs ++ cs2 ++ [-(sg B L (pS B L j))] = cs0 ++ (cs ++ cs2 ++ [-Int32.ofInt (pC B L (pS B L j))]) := by
          rw [sg_of hB]; simp only [List.append_assoc]
        rw [ec] at v2
        refine OC_r rfl (FC_t g2 (FC_t F3 (FC_t F4 (FC_t u2 v3)))) v2 (by omega) ?_
        rw [List.length_append, List.length_append]
        show cs.length + cs2.length + 1 + q ≤ j2
        omega
    · rw [if_neg a, if_neg a]
      exact OC_l rfl (FC_t g2 F3) S3.2.1 pl.2
theorem unit_C {k : Nat} {x : Int32} (h6 : k ≤ 6) (hx : x.toInt + k = 6) (hL : L ≤ 240) {C T U C2 T2 U2 : Int32 → Bool → dH → Option (Bool × dH)} {N2 : Int32 → dH → Option (Bool × dH)}
    (hN : ∀ k', k = k' + 1 → RC B L kk (C2 (x + 1) false) (fun q => pCo B L (pUnit B L k') (pUnit B L k' q)) ∧ RC B L kk (U2 (x + 1) false) (pUnit B L k')) : RC B L kk (f_X5_readUnit C T U (f_X5_readNested C2 T2 U2 N2) x false) (pUnit B L k) := by
  intro q cs0 c S0
  have hP := S0.1.2.1
  have hB := S0.1.2.2.2
  have t6 : (6 : Int32).toInt = 6 := rfl
  have k33 : (33 : Int32).toInt = 33 := rfl
  have k40 : (40 : Int32).toInt = 40 := rfl
  have k41 : (41 : Int32).toInt = 41 := rfl
  obtain ⟨c1, e1, S1, F1⟩ := SC_sign S0
  have pl := pS_le (B := B) S0.2.2.1 hP
  have pp : pS B L (pS B L q) = pS B L q := pS_pS S0.2.2.1 hP
  have hln := S0.2.2.2.2.2.2.1
  have eU : pUnit B L k q = pUn B L k (match k with | 0 => none | k' + 1 => some (fun q => pCo B L (pUnit B L k') (pUnit B L k' q), pUnit B L k')) q := by cases k <;> rfl
  rw [eU]
  unfold f_X5_readUnit pUn
  rw [if_neg (show ¬ false = true by decide), e1]
  simp only [Option.bind_some]
  rw [nesC hB]
  by_cases a : pC B L (pS B L q) = 33 ∨ pC B L (pS B L q) = 40
  · rw [decide_eq_true a, if_pos rfl]
    have eb : ∀ o : Option (Bool × dH), (o.bind fun rv => some (rv.1, rv.2)) = o := fun o => by cases o <;> rfl
    rw [eb]
    unfold f_X5_readNested
    cases k with
    | zero =>
      rw [if_neg (show ¬ x < 6 by rw [i_lt, t6]; omega)]
      have : ∀ (z1 z2 : pR), (if pC B L (pS B L q) = 33 then (.inl (pS B L q) : pR) else if pC B L (pS B L q) = 40 then .inl (pS B L q) else z2) = .inl (pS B L q) := fun z1 z2 => by
        rcases a with a | a
        · rw [if_pos a]
        · rw [if_neg (by omega), if_pos a]
      show OC B L kk q cs0 c _ (if pC B L (pS B L q) = 33 then (.inl (pS B L q) : pR) else if pC B L (pS B L q) = 40 then .inl (pS B L q) else _)
      rw [this (.inl 0)]
      exact OC_l rfl F1 S1.2.1 pl.2
    | succ k =>
      obtain ⟨hC, hU⟩ := hN k rfl
      rw [if_pos (show x < 6 by rw [i_lt, t6]; omega)]
      obtain ⟨c2, g1, F2, g3, g4⟩ := SC_take S1 (x := 40) (by decide)
      rw [pp] at g1 g3 g4
      rw [g1]
      simp only [Option.bind_some]
      by_cases b : pC B L (pS B L q) = 40
      · have S2 := g3 (by rw [b, k40])
        rw [decide_eq_true (by rw [b, k40]), if_pos rfl, if_neg (by omega), if_pos b]
        obtain ⟨ol, or⟩ := hC _ _ _ S2
        dsimp only at ol or
        cases hg : pCo B L (pUnit B L k) (pUnit B L k (pS B L q + 1)) with
        | inl e =>
          obtain ⟨c3, u1, u2, u3, u4⟩ := ol e hg
          rw [u1]
          exact OC_l rfl (FC_t F1 (FC_t F2 u2)) u3 u4
        | inr r =>
          obtain ⟨j, cs⟩ := r
          obtain ⟨c3, u1, u2, u3, u4, u5⟩ := or j cs hg
          have pl3 := pS_le (B := B) u3.2.2.1 hP
          rw [u1]
          simp only [Option.bind_some]
          rw [if_pos trivial]
          obtain ⟨c4, v1, F4, v3, v4⟩ := SC_take u3 (x := 41) (by decide)
          rw [v1]
          simp only [Option.bind_some]
          by_cases b : pC B L (pS B L j) = 41
          · rw [decide_eq_true (by rw [b, k41]), if_pos rfl, if_pos b]
            exact OC_r rfl (FC_t F1 (FC_t F2 (FC_t u2 F4))) (v3 (by rw [b, k41])) (by omega) (by omega)
          · rw [decide_eq_false (by rw [k41]; exact b), if_neg (by decide), if_neg b]
            exact OC_l rfl (FC_t F1 (FC_t F2 (FC_t u2 F4))) (v4 (by rw [k41]; exact b)).2.1 pl3.2
      · have b3 : pC B L (pS B L q) = 33 := a.resolve_right b
        rw [decide_eq_false (by rw [k40]; exact b), if_neg (by decide), if_pos b3]
        obtain ⟨c3, w1, F3, w3, w4⟩ := SC_take (g4 (by rw [k40]; exact b)) (x := 33) (by decide)
        rw [pp] at w1 w3 w4
        have S2 := w3 (by rw [b3, k33])
        rw [w1]
        simp only [Option.bind_some]
        rw [decide_eq_true (by rw [b3, k33]), if_pos rfl]
        obtain ⟨ol, or⟩ := hU _ _ _ S2
        cases hg : pUnit B L k (pS B L q + 1) with
        | inl e =>
          obtain ⟨c4, u1, u2, u3, u4⟩ := ol e hg
          rw [u1]
          exact OC_l rfl (FC_t F1 (FC_t F2 (FC_t F3 u2))) u3 u4
        | inr r =>
          obtain ⟨j, cs⟩ := r
          obtain ⟨c4, u1, u2, u3, u4, u5⟩ := or j cs hg
          have hl2 : (cs0 ++ cs).length = cs0.length + cs.length := by rw [List.length_append]
          rw [u1]
          simp only [Option.bind_some]
          rw [if_pos trivial]
          obtain ⟨c5, v1, v2, v3⟩ := SC_add u3 (-33) (by omega)
          rw [v1]
          rw [List.append_assoc] at v2
          refine OC_r rfl (FC_t F1 (FC_t F2 (FC_t F3 (FC_t u2 v3)))) v2 (by omega) ?_
          rw [List.length_append]
          show cs.length + 1 + q ≤ j
          omega
  · rw [decide_eq_false a, if_neg (by decide), if_neg (fun z => a (Or.inl z)), if_neg (fun z => a (Or.inr z))]
    unfold f_X5_readUnit_J23
    rw [if_neg (by decide)]
    have O := sum_C hL k 30 x h6 hx (by omega) _ _ _ S1
    rw [pSum_pS hL S0.2.2.1] at O
    have O2 : OC B L kk q cs0 c ((g_X5_readSum 30).1 x c1) (pSum B L k q) := by
      obtain ⟨ol, or⟩ := O
      refine ⟨fun e he => ?_, fun j cs he => ?_⟩
      · obtain ⟨c3, u1, u2, u3, u4⟩ := ol e he
        exact ⟨c3, u1, FC_t F1 u2, u3, u4⟩
      · obtain ⟨c3, u1, u2, u3, u4, u5⟩ := or j cs he
        exact ⟨c3, u1, FC_t F1 u2, u3, by omega, by omega⟩
    exact cmp_C h6 hx hL hB hln O2 C T U _
theorem condA_C {k n : Nat} {x : Int32} {x2 : Bool} (hL : L ≤ 240) (hU : RC B L kk ((g_X5_readCondition n).2.2.1 x false) (pUnit B L k)) {q : Nat} {cs0 : List Int32} {c : dH} {r : pR} (hq : cs0.length ≤ q) (O : OC B L kk q cs0 c ((g_X5_readCondition n).2.2.1 x x2 c) r) : OC B L kk q cs0 c ((g_X5_readCondition (n + 2)).1 x x2 c) (pCo B L (pUnit B L k) r) := by
  have tr : ∀ {x2 : Bool} {q : Nat} {cs0 : List Int32} {c : dH} {r : pR}, cs0.length ≤ q → OC B L kk q cs0 c ((g_X5_readCondition n).2.2.1 x x2 c) r → OC B L kk q cs0 c ((g_X5_readCondition (n + 1)).2.1 x x2 c) (pTr B L (pUnit B L k) r) := fun hq O =>
    beg_C (Lp := fun n y c => f_X5_readTruth_L13 _ _ _ _ n x y c) (St_take (x := 38) (by decide) (fun v => rfl) (fun n y c => by rw [f_X5_readTruth_L13])) hU hq hL O
  have hT : RC B L kk ((g_X5_readCondition (n + 1)).2.1 x false) (fun q => pTr B L (pUnit B L k) (pUnit B L k q)) := fun q cs0 c S0 => tr S0.2.2.2.2.2.2.1 (hU q cs0 c S0)
  exact beg_C (Lp := fun n y c => f_X5_readCondition_L13 _ _ _ _ n x y c) (St_take (x := 124) (by decide) (fun v => rfl) (fun n y c => by rw [f_X5_readCondition_L13])) hT hq hL (tr hq O)
theorem units_C (hL : L ≤ 240) : ∀ (k n : Nat) (x : Int32), k ≤ 6 → x.toInt + k = 6 → 4 * k + 2 ≤ n → RC B L kk ((g_X5_readCondition n).2.2.1 x false) (pUnit B L k) := by
  intro k
  induction k with
  | zero =>
    intro n x h6 hx hn
    obtain ⟨n, rfl⟩ : ∃ z, n = z + 1 + 1 := ⟨n - 2, by omega⟩
    exact unit_C (C2 := (g_X5_readCondition n).1) (T2 := (g_X5_readCondition n).2.1) (U2 := (g_X5_readCondition n).2.2.1) (N2 := (g_X5_readCondition n).2.2.2) h6 hx hL (fun k' h => by omega)
  | succ k ih =>
    intro n x h6 hx hn
    obtain ⟨n, rfl⟩ : ∃ z, n = z + 2 + 1 + 1 := ⟨n - 4, by omega⟩
    have x1 : (x + 1).toInt + k = 6 := by rw [i_add1 (by omega)]; omega
    refine unit_C (C2 := (g_X5_readCondition (n + 2)).1) (T2 := (g_X5_readCondition (n + 2)).2.1) (U2 := (g_X5_readCondition (n + 2)).2.2.1) (N2 := (g_X5_readCondition (n + 2)).2.2.2) h6 hx hL (fun k' h => ?_)
    obtain rfl : k = k' := by omega
    exact ⟨fun q cs0 c S0 => condA_C hL (ih n (x + 1) (by omega) x1 (by omega)) S0.2.2.2.2.2.2.1 (ih n (x + 1) (by omega) x1 (by omega) q cs0 c S0), ih (n + 2) (x + 1) (by omega) x1 (by omega)⟩
theorem then_C (hL : L ≤ 240) (hB : ∀ k, B k < 256) {q q1 : Nat} {cs0 : List Int32} {c c0 : dH} {r : pR} (hq : cs0.length + 2 ≤ q1) (hqq : q + 2 = q1 ∨ q + 2 < q1) (h0 : FC kk c0 c) {b : Bool} (O : OC B L kk q1 cs0 c (r_X5_readCondition 40 0 b c) r) : OC B L kk q cs0 c0 (f_X5_readClause_J76 b c) (pThen B L r) := by
  have k63 : (63 : Int32).toInt = 63 := rfl
  obtain ⟨ol, or⟩ := O
  unfold f_X5_readClause_J76
  cases r with
  | inl e =>
    obtain ⟨c2, g1, g2, g3, g4⟩ := ol e rfl
    rw [g1]
    exact OC_l rfl (FC_t h0 g2) g3 g4
  | inr r =>
    obtain ⟨j, cs⟩ := r
    obtain ⟨c2, g1, g2, g3, g4, g5⟩ := or j cs rfl
    have pl := pS_le (B := B) g3.2.2.1 hL
    have hl1 : (cs0 ++ cs).length = cs0.length + cs.length := by rw [List.length_append]
    rw [g1]
    simp only [Option.bind_some]
    rw [if_pos trivial]
    obtain ⟨c3, v1, F3, v3, v4⟩ := SC_take g3 (x := 63) (by decide)
    rw [v1]
    simp only [Option.bind_some]
    unfold pThen
    by_cases a : pC B L (pS B L j) = 63
    · have S3 := v3 (by rw [a, k63])
      rw [decide_eq_true (by rw [a, k63]), if_pos rfl]
      dsimp only
      rw [if_pos a]
      obtain ⟨c4, w1, w2, w3⟩ := SC_add S3 (-63) (by omega)
      rw [w1]
      simp only [Option.bind_some]
      obtain ⟨ol, or⟩ := sum_C hL 6 30 0 (by omega) rfl (by omega) _ _ _ w2
      show OC B L kk q cs0 c0 (((g_X5_readSum 30).1 0 _).bind _) _
      cases hg : pSum B L 6 (pS B L j + 1) with
      | inl e =>
        obtain ⟨c5, u1, u2, u3, u4⟩ := ol e hg
        rw [u1]
        exact OC_l rfl (FC_t h0 (FC_t g2 (FC_t F3 (FC_t w3 u2)))) u3 u4
      | inr r =>
        obtain ⟨j2, cs2⟩ := r
        obtain ⟨c5, u1, u2, u3, u4, u5⟩ := or j2 cs2 hg
        have hl2 : (cs0 ++ cs ++ [-63] ++ cs2).length = cs0.length + cs.length + 1 + cs2.length := by rw [List.length_append, List.length_append, hl1]; rfl
        rw [u1]
        simp only [Option.bind_some]
        rw [if_pos trivial]
        unfold f_X5_readClause_J115
        obtain ⟨c6, y1, y2, y3⟩ := SC_add u3 (-59) (by omega)
        rw [y1]
        have ec : cs0 ++ cs ++ [-63] ++ cs2 ++ [-59] = cs0 ++ (cs ++ [-63] ++ cs2 ++ [-59]) := by simp only [List.append_assoc]
        rw [ec] at y2
        refine OC_r rfl (FC_t h0 (FC_t g2 (FC_t F3 (FC_t w3 (FC_t u2 y3))))) y2 (by omega) ?_
        rw [List.length_append, List.length_append, List.length_append]
        show cs.length + 1 + cs2.length + 1 + q ≤ j2
        omega
    · rw [decide_eq_false (by rw [k63]; exact a), if_neg (by decide)]
      dsimp only
      rw [if_neg a]
      exact OC_l rfl (FC_t h0 (FC_t g2 F3)) (v4 (by rw [k63]; exact a)).2.1 pl.2
theorem clause_C (hL : L ≤ 240) : RC B L kk f_X5_readClause (pCla B L) := by
  intro q cs0 c S0
  have hB := S0.1.2.2.2
  have hln := S0.2.2.2.2.2.2.1
  have k121 : (121 : Int32).toInt = 121 := rfl
  have k58 : (58 : Int32).toInt = 58 := rfl
  have pl := pS_le (B := B) S0.2.2.1 hL
  obtain ⟨c1, a1, F1, a3, a4⟩ := SC_take S0 (x := 121) (by decide)
  unfold f_X5_readClause pCla
  rw [a1]
  simp only [Option.bind_some]
  by_cases a : pC B L (pS B L q) = 121
  · have S1 := a3 (by rw [a, k121])
    have lt1 := S1.2.2.1
    rw [decide_eq_true (by rw [a, k121]), if_pos rfl, if_pos a]
    have pl2 := pS_le (B := B) lt1 hL
    obtain ⟨c2, b1, F2, b3, b4⟩ := SC_take S1 (x := 58) (by decide)
    rw [b1]
    simp only [Option.bind_some]
    by_cases b : pC B L (pS B L (pS B L q + 1)) = 58
    · have S2 := b3 (by rw [b, k58])
      have lt2 := S2.2.2.1
      rw [decide_eq_true (by rw [b, k58]), if_pos rfl, if_pos b]
      have pl3 := pS_le (B := B) lt2 hL
      obtain ⟨c3, e3, S3, F3⟩ := SC_sign S2
      have F123 : FC kk c c3 := FC_t F1 (FC_t F2 F3)
      rw [e3]
      simp only [Option.bind_some]
      rw [nesC hB]
      generalize eq1 : pS B L (pS B L q + 1) + 1 = q1 at *
      by_cases d : pC B L (pS B L q1) = 33 ∨ pC B L (pS B L q1) = 40
      · rw [decide_eq_true d, if_pos rfl, if_pos d]
        unfold f_X5_readClause_J44 f_X5_readClause_J59
        rw [if_neg (by decide), if_neg (by decide)]
        refine then_C (q1 := pS B L q1) hL hB (by omega) (by omega) F123 ?_
        have hU := units_C (B := B) (kk := kk) hL 6 38 0 (by omega) rfl (by omega)
        rw [← pUnit_pS hL lt2]
        exact condA_C (n := 38) hL hU (by omega) (hU _ _ _ S3)
      · rw [decide_eq_false d, if_neg (by decide), if_neg d]
        unfold f_X5_readClause_J44
        rw [if_pos rfl]
        have O := sum_C hL 6 30 0 (by omega) rfl (by omega) _ _ _ S3
        rw [pSum_pS hL lt2] at O
        obtain ⟨ol, or⟩ := O
        show OC B L kk q cs0 c (((g_X5_readSum 30).1 0 _).bind _) _
        cases hg : pSum B L 6 q1 with
        | inl e =>
          obtain ⟨c5, u1, u2, u3, u4⟩ := ol e hg
          rw [u1]
          exact OC_l rfl (FC_t F123 u2) u3 u4
        | inr r =>
          obtain ⟨j, cs⟩ := r
          obtain ⟨c5, u1, u2, u3, u4, u5⟩ := or j cs hg
          have hl1 : (cs0 ++ cs).length = cs0.length + cs.length := by rw [List.length_append]
          have pl4 := pS_le (B := B) u3.2.2.1 hL
          have pp := pS_pS (B := B) u3.2.2.1 hL
          rw [u1]
          simp only [Option.bind_some]
          rw [if_pos trivial]
          unfold f_X5_readClause_J59
          obtain ⟨c6, e6, S6, F6⟩ := SC_sign u3
          rw [if_pos rfl, e6]
          simp only [Option.bind_some]
          rw [cmpC hB]
          by_cases f : okC (pC B L (pS B L j)) = true
          · rw [if_pos f, if_pos f]
            have ep : pCmp B L 6 (.inr (j, cs)) = pCmp B L 6 (.inr (pS B L j, cs)) := by unfold pCmp; simp only [pp]
            rw [ep]
            refine then_C (q1 := pS B L q1) hL hB (by omega) (by omega) (FC_t F123 (FC_t u2 F6)) ?_
            have hU := units_C (B := B) (kk := kk) hL 6 38 0 (by omega) rfl (by omega)
            refine condA_C (n := 38) hL hU (by omega) ?_
            have O0 : OC B L kk (pS B L q1) cs0 c6 (some (true, c6)) (.inr (pS B L j, cs)) := OC_r rfl (FC_r _) S6 (by omega) (by omega)
            exact cmp_C (x := 0) (by omega) rfl hL hB (by omega) O0 (g_X5_readCondition 37).1 (g_X5_readCondition 37).2.1 (g_X5_readCondition 37).2.2.1 (g_X5_readCondition 37).2.2.2
          · rw [if_neg f, if_neg f]
            unfold f_X5_readClause_J115
            obtain ⟨c7, y1, y2, y3⟩ := SC_add S6 (-59) (by omega)
            rw [y1]
            rw [List.append_assoc] at y2
            refine OC_r rfl (FC_t F123 (FC_t u2 (FC_t F6 y3))) y2 (by omega) ?_
            rw [List.length_append]
            show cs.length + 1 + q ≤ _
            omega
    · rw [decide_eq_false (by rw [k58]; exact b), if_neg (by decide), if_neg b]
      exact OC_l rfl (FC_t F1 F2) (b4 (by rw [k58]; exact b)).2.1 pl2.2
  · rw [decide_eq_false (by rw [k121]; exact a), if_neg (by decide), if_neg a]
    exact OC_l rfl F1 (a4 (by rw [k121]; exact a)).2.1 pl.2
theorem lp_law (hL : L ≤ 240) {c0 : dH} : ∀ (m n nn q yv : Nat) (y : Int32) (cs : List Int32) (c : dH), L - q < m → m ≤ n → m ≤ nn → y.toInt = yv → yv ≤ q → SC B L kk q cs c → FC kk c0 c →
    ∃ (r : Int32) (c' : dH), f_X5_findFault_L20 n y c = some (r, c') ∧ FC kk c0 c' ∧ (∀ e, pLawL B L nn q cs = .inl e → r = Int32.ofNat e ∧ e ≤ L) ∧ (∀ ds, pLawL B L nn q cs = .inr ds → r = -1 ∧ ds.length ≤ 240 ∧ (c'.1 50 kk).toInt = ds.length ∧ ∀ i, (hi : i < ds.length) → c'.1 (45 + kk) i = ds[i]) := by
  intro m
  induction m with
  | zero => intro n nn q yv y cs c h1; omega
  | succ m ih =>
    intro n nn q yv y cs c h1 h2 h3 h4 h5 S F
    obtain ⟨n, rfl⟩ : ∃ z, n = z + 1 := ⟨n - 1, by omega⟩
    obtain ⟨nn, rfl⟩ : ∃ z, nn = z + 1 := ⟨nn - 1, by omega⟩
    have k240 : (240 : Int32).toInt = 240 := rfl
    have k59 : (59 : Int32).toInt = 59 := rfl
    have hB := S.1.2.2.2
    have hq := S.2.2.1
    rw [f_X5_findFault_L20, if_neg (show ¬ 240 < y by rw [i_lt, k240]; omega), pLawL]
    obtain ⟨ol, or⟩ := clause_C hL _ _ _ S
    cases hg : pCla B L q with
    | inl e =>
      obtain ⟨c2, g1, g2, g3, g4⟩ := ol e hg
      rw [g1]
      simp only [Option.bind_some]
      rw [if_neg (by decide)]
      exact ⟨_, _, rfl, FC_t F g2, fun e' h => by (cases h; exact ⟨(oNat g3).resolve_right (by omega), g4⟩), fun ds h => by cases h⟩
    | inr r =>
      obtain ⟨j, cs2⟩ := r
      obtain ⟨c2, g1, g2, g3, g4, g5⟩ := or j cs2 hg
      have pl := pS_le (B := B) g3.2.2.1 hL
      have pp := pS_pS (B := B) g3.2.2.1 hL
      rw [g1]
      simp only [Option.bind_some]
      rw [if_pos trivial]
      obtain ⟨c3, e3, S3, F3⟩ := SC_sign g3
      rw [e3]
      simp only [Option.bind_some]
      by_cases a : pC B L (pS B L j) = -1
      · rw [if_pos (show sg B L (pS B L j) = -1 by rw [i_eq, sg_pC hB, a, tm1]), if_pos a]
        refine ⟨_, _, rfl, FC_t F (FC_t g2 F3), fun e' h => by (cases h), fun ds h => ?_⟩
        cases h
        have := S3.2.2.1
        have := S3.2.2.2.2.2.2.1
        exact ⟨rfl, by omega, S3.2.2.2.2.2.1, S3.2.2.2.2.2.2.2⟩
      · rw [if_neg (show ¬ sg B L (pS B L j) = -1 by rw [i_eq, sg_pC hB, tm1]; exact a), if_neg a]
        obtain ⟨c4, v1, F4, v3, v4⟩ := SC_take S3 (x := 59) (by decide)
        rw [pp] at v1 v3 v4
        rw [v1]
        simp only [Option.bind_some]
        by_cases b : pC B L (pS B L j) = 59
        · have S4 := v3 (by rw [b, k59])
          have := S4.2.2.1
          rw [decide_eq_true (by rw [b, k59]), if_pos rfl, if_pos b]
          exact ih n nn (pS B L j + 1) (yv + 1) (y + 1) _ c4 (by omega) (by omega) (by omega) (by rw [i_add1 (by omega), h4]; omega) (by omega) S4 (FC_t F (FC_t g2 (FC_t F3 F4)))
        · have S4 := v4 (by rw [k59]; exact b)
          rw [decide_eq_false (by rw [k59]; exact b), if_neg (by decide), if_neg b]
          exact ⟨_, _, rfl, FC_t F (FC_t g2 (FC_t F3 F4)), fun e' h => by (cases h; exact ⟨(oNat S4.2.1).resolve_right (by omega), pl.2⟩), fun ds h => by cases h⟩
end LD
