/-! PURE: the reference's CONDITIONS -/
section LO
variable {B : Nat → Nat} {L dp : Nat} {env : Nat → Int32}
def encB (b : Bool) : Int32 := if b then 1 else 0
theorem encB_01 (b : Bool) : encB b = 0 ∨ encB b = 1 := by cases b <;> decide
theorem signM (hB : ∀ k, B k < 256) (j : Nat) (h : dH) : f_X12_isSign (sg B L j) h = okC (pC B L j) := cmpC hB j h
theorem xH_b (p : Prop) [Decidable p] : xH (if p then 1 else 0) = encB (decide p) := by
  by_cases q : p
  · rw [if_pos q, decide_eq_true q]; decide
  · rw [if_neg q, decide_eq_false q]; decide
theorem cmp_M {k : Nat} (hk : dp + k = 6) (hL : L ≤ 240) {q : Nat} {d : dH} (hE : EV env d) {o : Option (Int32 × dH)} {r : pR} (O : OM (fun v : Int32 => v) env (2 * k + 3) B L q dp d o r) :
    OM encB env (2 * k + 4) B L q dp d (o.bind fun rv => f_X12_compares_J12 rv.1 rv.2) (pCmp B L k r) := by
  obtain ⟨ol, or⟩ := O
  cases r with
  | inl e =>
    obtain ⟨v, d2, g1, g2, g3, g4⟩ := ol e rfl
    rw [g1]
    simp only [Option.bind_some]
    unfold f_X12_compares_J12
    rw [if_neg (by rw [g3]; exact ofN_ne (by omega))]
    exact OM_l rfl g2 g3 g4
  | inr r =>
    obtain ⟨j, cs⟩ := r
    obtain ⟨v, d2, g1, g2, g3, g4, g5⟩ := or j cs rfl
    have hB := g3.1.2.2.2.2.2.2
    have pl := pS_le (B := B) g3.2.2.1 hL
    rw [g1]
    simp only [Option.bind_some]
    unfold f_X12_compares_J12 pCmp
    rw [if_pos g3.2.2.2.1]
    obtain ⟨d3, e3, S3, G3⟩ := SM_look g3
    rw [e3]
    simp only [Option.bind_some]
    rw [signM hB]
    by_cases a : okC (pC B L (pS B L j)) = true
    · rw [if_pos a, if_pos a]
      obtain ⟨S4, G4⟩ := SM_next S3 (okC_lt a)
      obtain ⟨ol, or⟩ := sum_M (env := env) hL k 30 dp hk (by omega) _ _ S4 (EV_g (GM_t g2 (GM_t G3 G4)) hE)
      show OM encB env _ B L q dp d (((g_X12_atom 30).2.2 _).bind _) _
      cases hg : pSum B L k (pS B L j + 1) with
      | inl e =>
        obtain ⟨w, d5, u1, u2, u3, u4⟩ := ol e hg
        rw [u1]
        simp only [Option.bind_some]
        have G := GM_t g2 (GM_t G3 (GM_t G4 u2))
        repeat' split
        all_goals exact OM_l rfl G u3 u4
      | inr r =>
        obtain ⟨j2, cs2⟩ := r
        obtain ⟨w, d5, u1, u2, u3, u4, u5⟩ := or j2 cs2 hg
        rw [u1]
        simp only [Option.bind_some]
        have G := GM_t g2 (GM_t G3 (GM_t G4 u2))
        have hs : sg B L (pS B L j) = 61 ∨ sg B L (pS B L j) = 60 ∨ sg B L (pS B L j) = 62 := by
          have k1 : (61 : Int32).toInt = 61 := rfl
          have k2 : (60 : Int32).toInt = 60 := rfl
          have k3 : (62 : Int32).toInt = 62 := rfl
          rw [i_eq, i_eq, i_eq, sg_pC hB, k1, k2, k3]
          exact of_decide_eq_true a
        rw [sg_of hB]
        have key : ∀ (b : Bool), xH (xJ (-(sg B L (pS B L j))) v.toInt w.toInt) = encB b → OM encB env (2 * k + 4) B L q dp d (some (b, d5)) (.inr (j2, cs ++ cs2 ++ [-(sg B L (pS B L j))])) := fun b hb => by
          refine OM_r rfl G u3 (by omega) (xV_join (hh := 2 * k + 3) (xV_mono g5 (by omega)) u5 (fun st => ?_))
          rw [← hb]
          rcases hs with h | h | h
          · rw [h]; exact ⟨xC_join env (by decide) (by decide), xS_join (by decide) (by decide) (by decide) (by decide) (Or.inl (by decide))⟩
          · rw [h]; exact ⟨xC_join env (by decide) (by decide), xS_join (by decide) (by decide) (by decide) (by decide) (Or.inl (by decide))⟩
          · rw [h]; exact ⟨xC_join env (by decide) (by decide), xS_join (by decide) (by decide) (by decide) (by decide) (Or.inl (by decide))⟩
        rcases hs with h | h | h
        · rw [if_pos h]
          have ej : xJ (-(sg B L (pS B L j))) v.toInt w.toInt = if v.toInt = w.toInt then 1 else 0 := by
            rw [h]; unfold xJ
            rw [if_neg (by decide), if_neg (by decide), if_neg (by decide), if_neg (by decide), if_pos (by decide)]
          rw [ej] at key
          by_cases z : v = w
          · rw [if_pos z]; exact key true (by rw [xH_b, decide_eq_true (i_eq.mp z)])
          · rw [if_neg z]; exact key false (by rw [xH_b, decide_eq_false (fun y => z (i_eq.mpr y))])
        · rw [if_neg (show ¬ sg B L (pS B L j) = 61 by rw [h]; decide), if_pos h]
          have ej : xJ (-(sg B L (pS B L j))) v.toInt w.toInt = if v.toInt < w.toInt then 1 else 0 := by
            rw [h]; unfold xJ
            rw [if_neg (by decide), if_neg (by decide), if_neg (by decide), if_neg (by decide), if_neg (by decide), if_pos (by decide)]
          rw [ej] at key
          by_cases z : v < w
          · rw [if_pos z]; exact key true (by rw [xH_b, decide_eq_true (i_lt.mp z)])
          · rw [if_neg z]; exact key false (by rw [xH_b, decide_eq_false (fun y => z (i_lt.mpr y))])
        · rw [if_neg (show ¬ sg B L (pS B L j) = 61 by rw [h]; decide), if_neg (show ¬ sg B L (pS B L j) = 60 by rw [h]; decide)]
          have ej : xJ (-(sg B L (pS B L j))) v.toInt w.toInt = if w.toInt < v.toInt then 1 else 0 := by
            rw [h]; unfold xJ
            rw [if_neg (by decide), if_neg (by decide), if_neg (by decide), if_neg (by decide), if_neg (by decide), if_neg (by decide), if_pos (by decide)]
          rw [ej] at key
          by_cases z : w < v
          · rw [if_pos z]; exact key true (by rw [xH_b, decide_eq_true (i_lt.mp z)])
          · rw [if_neg z]; exact key false (by rw [xH_b, decide_eq_false (fun y => z (i_lt.mpr y))])
    · rw [if_neg a, if_neg a]
      obtain ⟨d4, f1, G4, f3, f4⟩ := SM_fail S3
      rw [f1]
      exact OM_l rfl (GM_t g2 (GM_t G3 G4)) f3 pl.2
theorem xV_not {hh : Nat} {cs : List Int32} {b : Bool} (h : xV env hh cs (encB b)) : xV env hh (cs ++ [-33]) (encB (!b)) := by
  have ex : ∀ st, xC env (-33) (encB b :: st) = some (encB (!b) :: st) := fun st => by
    unfold xC
    rw [if_neg (by decide), if_neg (by decide), if_pos rfl]
    cases b <;> rfl
  refine ⟨fun st => ?_, fun st hs => xOK_app env _ _ _ (h.2 st hs) (fun st' e => ?_)⟩
  · rw [xR_app, h.1]
    show (match xC env (-33) (encB b :: st) with | some st => some st | none => none) = _
    rw [ex]
  · rw [h.1] at e
    cases e
    refine ⟨?_, fun _ _ => trivial⟩
    unfold xS
    rw [if_neg (by decide), if_pos rfl]
    exact ⟨by decide, by decide, by show 1 ≤ st.length + 1; omega⟩
theorem unit_M {k : Nat} (hk : dp + k = 6) (hL : L ≤ 240) {U : dH → Option (Bool × dH)} {P C : Bool → Int32 → dH → Option (Bool × dH)}
    (hN : ∀ k', k = k' + 1 → RM encB env (2 * k' + 6) B L (dp + 1) (C false 0) (fun q => pCo B L (pUnit B L k') (pUnit B L k' q)) ∧ RM encB env (2 * k' + 4) B L (dp + 1) U (pUnit B L k')) : RM encB env (2 * k + 4) B L dp (f_X12_unit U P C) (pUnit B L k) := by
  intro q d S0 hE
  have hP := S0.1.2.1
  have hB := S0.1.2.2.2.2.2.2
  have k33 : (33 : Int32).toInt = 33 := rfl
  have k40 : (40 : Int32).toInt = 40 := rfl
  have k41 : (41 : Int32).toInt = 41 := rfl
  obtain ⟨d1, e1, S1, G1⟩ := SM_look S0
  have pl := pS_le (B := B) S0.2.2.1 hP
  have eU : pUnit B L k q = pUn B L k (match k with | 0 => none | k' + 1 => some (fun q => pCo B L (pUnit B L k') (pUnit B L k' q), pUnit B L k')) q := by cases k <;> rfl
  rw [eU]
  unfold f_X12_unit pUn
  rw [e1]
  simp only [Option.bind_some]
  by_cases a : pC B L (pS B L q) = 33
  · have lt : pS B L q < L := sg_lt (by rw [a]; decide)
    rw [if_pos (show sg B L (pS B L q) = 33 by rw [i_eq, sg_pC hB, a, k33]), if_pos a]
    obtain ⟨gf, gt⟩ := goesM S1 lt (by omega)
    cases k with
    | zero =>
      obtain ⟨d2, f1, G2, f3⟩ := gf (by omega)
      rw [f1]
      exact OM_l rfl (GM_t G1 G2) f3 pl.2
    | succ k =>
      obtain ⟨d2, f1, G2, S2⟩ := gt (by omega)
      rw [f1]
      simp only [Option.bind_some]
      rw [if_pos trivial]
      obtain ⟨ol, or⟩ := (hN k rfl).2 _ _ S2 (EV_g (GM_t G1 G2) hE)
      cases hg : pUnit B L k (pS B L q + 1) with
      | inl e =>
        obtain ⟨v, d3, u1, u2, u3, u4⟩ := ol e hg
        rw [u1]
        simp only [Option.bind_some]
        have G := GM_t G1 (GM_t G2 (GM_t u2 (GM_p d3 (k := 12) (by omega) (d3.1 0 12 - 1))))
        have f : (dPut d3 0 12 (d3.1 0 12 - 1)).1 0 11 = Int32.ofNat e := by rw [dPut_ne (by omega)]; exact u3
        split
        · exact OM_l rfl G f u4
        · exact OM_l rfl G f u4
      | inr r =>
        obtain ⟨j, cs⟩ := r
        obtain ⟨v, d3, u1, u2, u3, u4, u5⟩ := or j cs hg
        rw [u1]
        simp only [Option.bind_some]
        obtain ⟨S5, G5⟩ := outM u3 (by omega)
        have G := GM_t G1 (GM_t G2 (GM_t u2 G5))
        have hx := xV_mono (h2 := 2 * (k + 1) + 4) (xV_not u5) (by omega)
        cases v with
        | true =>
          rw [if_pos rfl]
          exact OM_r rfl G S5 (by omega) hx
        | false =>
          rw [if_neg (by decide)]
          exact OM_r rfl G S5 (by omega) hx
  · rw [if_neg (show ¬ sg B L (pS B L q) = 33 by rw [i_eq, sg_pC hB, k33]; exact a), if_neg a]
    by_cases b : pC B L (pS B L q) = 40
    · have lt : pS B L q < L := sg_lt (by rw [b]; decide)
      rw [if_pos (show sg B L (pS B L q) = 40 by rw [i_eq, sg_pC hB, b, k40]), if_pos b]
      obtain ⟨gf, gt⟩ := goesM S1 lt (by omega)
      cases k with
      | zero =>
        obtain ⟨d2, f1, G2, f3⟩ := gf (by omega)
        rw [f1]
        exact OM_l rfl (GM_t G1 G2) f3 pl.2
      | succ k =>
        obtain ⟨d2, f1, G2, S2⟩ := gt (by omega)
        rw [f1]
        simp only [Option.bind_some]
        rw [if_pos trivial]
        obtain ⟨ol, or⟩ := (hN k rfl).1 _ _ S2 (EV_g (GM_t G1 G2) hE)
        dsimp only at ol or
        cases hg : pCo B L (pUnit B L k) (pUnit B L k (pS B L q + 1)) with
        | inl e =>
          obtain ⟨v, d3, u1, u2, u3, u4⟩ := ol e hg
          rw [u1]
          simp only [Option.bind_some]
          rw [FM_takes (by rw [u3]; exact ofN_ne (by omega))]
          exact OM_l rfl (GM_t G1 (GM_t G2 u2)) u3 u4
        | inr r =>
          obtain ⟨j, cs⟩ := r
          obtain ⟨v, d3, u1, u2, u3, u4, u5⟩ := or j cs hg
          have pl3 := pS_le (B := B) u3.2.2.1 hP
          rw [u1]
          simp only [Option.bind_some]
          obtain ⟨d4, G4, tk, nt⟩ := SM_takes u3 (x := 41) (by decide)
          by_cases b : pC B L (pS B L j) = 41
          · obtain ⟨w1, S4⟩ := tk (by rw [b, k41])
            rw [w1]
            simp only [Option.bind_some]
            rw [if_pos trivial, if_pos b]
            obtain ⟨S5, G5⟩ := outM S4 (by omega)
            exact OM_r rfl (GM_t G1 (GM_t G2 (GM_t u2 (GM_t G4 G5)))) S5 (by omega) (xV_mono u5 (by omega))
          · obtain ⟨w1, w2⟩ := nt (by rw [k41]; exact b)
            rw [w1]
            simp only [Option.bind_some]
            rw [if_neg (by decide), if_neg b]
            exact OM_l rfl (GM_t G1 (GM_t G2 (GM_t u2 G4))) w2 pl3.2
    · rw [if_neg (show ¬ sg B L (pS B L q) = 40 by rw [i_eq, sg_pC hB, k40]; exact b), if_neg b]
      have eb : ∀ o : Option (Bool × dH), (o.bind fun rv => some (rv.1, rv.2)) = o := fun o => by cases o <;> rfl
      rw [eb]
      unfold f_X12_compares
      rw [if_neg (by decide)]
      have O := sum_M (env := env) hL k 30 dp hk (by omega) _ _ S1 (EV_g G1 hE)
      rw [pSum_pS hL S0.2.2.1] at O
      have O2 : OM (fun v : Int32 => v) env (2 * k + 3) B L q dp d ((g_X12_atom 30).2.2 d1) (pSum B L k q) := by
        obtain ⟨ol, or⟩ := O
        refine ⟨fun e he => ?_, fun j cs he => ?_⟩
        · obtain ⟨v, c3, u1, u2, u3, u4⟩ := ol e he
          exact ⟨v, c3, u1, GM_t G1 u2, u3, u4⟩
        · obtain ⟨v, c3, u1, u2, u3, u4, u5⟩ := or j cs he
          exact ⟨v, c3, u1, GM_t G1 u2, u3, by omega, u5⟩
      exact cmp_M hk hL hE O2
theorem St_one {ok : Int → Bool} {A : dH → Option (Bool × dH)} {Lp : Nat → Bool → dH → Option (Bool × dH)} {x : Int32} {op : Bool → Bool → Bool} (hx : x ≠ -1) (hok : ∀ v : Int, ok v = decide (v = x.toInt))
    (e : ∀ n y d, Lp (n + 1) y d = if d.1 0 11 = -1 then (f_X12_look d).bind (fun rv => if rv.1 = x then (A (dPut rv.2 0 10 (rv.2.1 0 10 + 1))).bind (fun r => Lp n (op y r.1) r.2) else some (y, rv.2)) else some (y, d)) : StM B L dp ok A (fun _ => op) Lp := by
  refine ⟨fun n y d j S => ?_, fun n v d h => by rw [e, if_neg h]⟩
  have hB := S.1.2.2.2.2.2.2
  obtain ⟨d1, e1, S1, G1⟩ := SM_look S
  rw [e, if_pos S.2.2.2.1, e1]
  simp only [Option.bind_some]
  rw [hok]
  have z1 : (sg B L (pS B L j) = x) ↔ pC B L (pS B L j) = x.toInt := by rw [i_eq, sg_pC hB]
  by_cases a : sg B L (pS B L j) = x
  · have lt : pS B L j < L := sg_lt (by intro y; exact hx (by rw [i_eq, ← z1.mp a, y, tm1]))
    obtain ⟨S4, G4⟩ := SM_next S1 lt
    refine ⟨_, GM_t G1 G4, fun _ => ⟨S4, ?_⟩, fun z => by (rw [decide_eq_true (z1.mp a)] at z; cases z)⟩
    rw [if_pos a]
  · refine ⟨d1, G1, fun z => by (rw [decide_eq_false (fun w => a (z1.mpr w))] at z; cases z), fun _ => ⟨S1, ?_⟩⟩
    rw [if_neg a]
theorem jnA (env : Nat → Int32) : JnM encB env okA (fun _ v w => v && w) := by
  intro s v w st h
  have hs : s = 38 := i_eq.mpr (of_decide_eq_true h)
  subst hs
  refine ⟨?_, xS_join (by decide) (by decide) (by decide) (by decide) (Or.inr ⟨encB_01 v, encB_01 w⟩)⟩
  rw [xC_join env (by decide) (by decide)]
  cases v <;> cases w <;> rfl
theorem jnO (env : Nat → Int32) : JnM encB env okO (fun _ v w => v || w) := by
  intro s v w st h
  have hs : s = 124 := i_eq.mpr (of_decide_eq_true h)
  subst hs
  refine ⟨?_, xS_join (by decide) (by decide) (by decide) (by decide) (Or.inr ⟨encB_01 v, encB_01 w⟩)⟩
  rw [xC_join env (by decide) (by decide)]
  cases v <;> cases w <;> rfl
theorem condA_M {k n hh : Nat} {x1 : Bool} {x2 : Int32} (hL : L ≤ 240) (hU : RM encB env hh B L dp (g_X12_unit n).1 (pUnit B L k)) (hU2 : RM encB env hh B L dp (g_X12_unit (n + 1)).1 (pUnit B L k)) {q : Nat} {d : dH} {r : pR} (hE : EV env d) (O : OM encB env hh B L q dp d (if x1 then f_X12_compares true x2 d else (g_X12_unit n).1 d) r) : OM encB env (hh + 2) B L q dp d ((g_X12_unit (n + 2)).2.2 x1 x2 d) (pCo B L (pUnit B L k) r) := by
  have tr : ∀ {x1 : Bool} {x2 : Int32} {q : Nat} {d : dH} {r : pR}, EV env d → OM encB env hh B L q dp d (if x1 then f_X12_compares true x2 d else (g_X12_unit n).1 d) r → OM encB env (hh + 1) B L q dp d ((g_X12_unit (n + 1)).2.1 x1 x2 d) (pTr B L (pUnit B L k) r) := fun {x1 x2 q d r} hE O => by
    have := beg_M (Lp := f_X12_part_L18 (g_X12_unit n).1 (g_X12_unit n).2.1 (g_X12_unit n).2.2) (St_one (op := fun v w => v && w) (x := 38) (by decide) (fun v => rfl) (fun n' y d => by
      rw [f_X12_part_L18]
      congr 1
      congr 1
      funext rv
      congr 1
      simp only [Option.bind_some]
      congr 1
      funext r
      cases y <;> cases hr : r.1 <;> rfl)) (jnA env) hU hL hE O
    have e : (g_X12_unit (n + 1)).2.1 x1 x2 d = ((if x1 then f_X12_compares true x2 d else (g_X12_unit n).1 d).bind fun rv => f_X12_part_L18 (g_X12_unit n).1 (g_X12_unit n).2.1 (g_X12_unit n).2.2 dFu rv.1 rv.2) := by cases x1 <;> rfl
    rw [e]
    exact this
  have hT : RM encB env (hh + 1) B L dp ((g_X12_unit (n + 1)).2.1 false 0) (fun q => pTr B L (pUnit B L k) (pUnit B L k q)) := fun q d S0 hE => tr hE (hU q d S0 hE)
  exact beg_M (Lp := f_X12_condition_L7 (g_X12_unit (n + 1)).1 (g_X12_unit (n + 1)).2.1 (g_X12_unit (n + 1)).2.2) (St_one (op := fun v w => v || w) (x := 124) (by decide) (fun v => rfl) (fun n' y d => by
      rw [f_X12_condition_L7]
      congr 1
      congr 1
      funext rv
      congr 1
      simp only [Option.bind_some]
      congr 1
      funext r
      cases y <;> cases hr : r.1 <;> rfl)) (jnO env) hT hL hE (tr hE O)
theorem units_M (hL : L ≤ 240) : ∀ (k n dp : Nat), dp + k = 6 → 3 * k + 1 ≤ n → RM encB env (2 * k + 4) B L dp (g_X12_unit n).1 (pUnit B L k) := by
  intro k
  induction k with
  | zero =>
    intro n dp hx hn
    obtain ⟨n, rfl⟩ : ∃ z, n = z + 1 := ⟨n - 1, by omega⟩
    exact unit_M (U := (g_X12_unit n).1) (P := (g_X12_unit n).2.1) (C := (g_X12_unit n).2.2) hx hL (fun k' h => by omega)
  | succ k ih =>
    intro n dp hx hn
    obtain ⟨n, rfl⟩ : ∃ z, n = z + 2 + 1 := ⟨n - 3, by omega⟩
    refine unit_M (U := (g_X12_unit (n + 2)).1) (P := (g_X12_unit (n + 2)).2.1) (C := (g_X12_unit (n + 2)).2.2) hx hL (fun k' h => ?_)
    obtain rfl : k = k' := by omega
    have hU := ih n (dp + 1) (by omega) (by omega)
    exact ⟨fun q d S0 hE => condA_M hL hU (ih (n + 1) (dp + 1) (by omega) (by omega)) hE (hU q d S0 hE), ih (n + 2) (dp + 1) (by omega) (by omega)⟩
end LO
