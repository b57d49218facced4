/-! PURE: the reference goes through a LAW -/
def xWOK (env : Nat → Int32) : List Int32 → Bool → List Int32 → Prop
  | [], _, _ => True
  | c :: cs, true, st => xWOK env cs (decide (c ≠ -59)) st
  | c :: cs, false, st => if c = -59 then st ≠ [] else if c = -63 then (match st with | a :: r => xWOK env cs (decide (a = 0)) r | [] => False) else xS c st ∧ ∀ st', xC env c st = some st' → xWOK env cs false st'
theorem xS_ne {c : Int32} {st : List Int32} (h : xS c st) : c ≠ -59 ∧ c ≠ -63 := by
  have k59 : (-59 : Int32).toInt = -59 := rfl
  have k63 : (-63 : Int32).toInt = -63 := rfl
  unfold xS at h
  by_cases q : -6 ≤ c.toInt
  · exact ⟨fun z => by rw [z, k59] at q; omega, fun z => by rw [z, k63] at q; omega⟩
  · rw [if_neg q] at h
    exact ⟨h.1, h.2.1⟩
theorem xW_run (env : Nat → Int32) : ∀ (a st st' rest : List Int32), xOK env a st → xR env a st = some st' → xW env (a ++ rest) false st = xW env rest false st' ∧ (xWOK env rest false st' → xWOK env (a ++ rest) false st) ∧ (∀ c, c ∈ a → c ≠ -59) := by
  intro a
  induction a with
  | nil =>
    intro st st' rest _ h
    cases h
    exact ⟨rfl, id, fun c h => absurd h List.not_mem_nil⟩
  | cons c a ih =>
    intro st st' rest h1 h2
    have ne := xS_ne h1.1
    have e2 : (match xC env c st with | some st => xR env a st | none => none) = some st' := h2
    cases hx : xC env c st with
    | none => rw [hx] at e2; cases e2
    | some s =>
      rw [hx] at e2
      obtain ⟨i1, i2, i3⟩ := ih s st' rest (h1.2 s hx) e2
      refine ⟨?_, fun h => ?_, fun x hm => ?_⟩
      · show (if c = -59 then _ else if c = -63 then _ else match xC env c st with | some st => xW env (a ++ rest) false st | none => none) = _
        rw [if_neg ne.1, if_neg ne.2, hx]
        exact i1
      · show (if c = -59 then _ else if c = -63 then _ else xS c st ∧ ∀ st', xC env c st = some st' → xWOK env (a ++ rest) false st')
        rw [if_neg ne.1, if_neg ne.2]
        exact ⟨h1.1, fun s2 e => by rw [hx] at e; cases e; exact i2 h⟩
      · rcases List.mem_cons.mp hm with e | e
        · rw [e]; exact ne.1
        · exact i3 x e
theorem xW_skip (env : Nat → Int32) : ∀ (a rest st : List Int32), (∀ c, c ∈ a → c ≠ -59) → xW env (a ++ -59 :: rest) true st = xW env rest false st ∧ (xWOK env rest false st → xWOK env (a ++ -59 :: rest) true st) := by
  intro a
  induction a with
  | nil =>
    intro rest st _
    exact ⟨rfl, id⟩
  | cons c a ih =>
    intro rest st h
    have ne := h c List.mem_cons_self
    obtain ⟨i1, i2⟩ := ih rest st (fun x hx => h x (List.mem_cons_of_mem _ hx))
    refine ⟨?_, fun z => ?_⟩
    · show xW env (a ++ -59 :: rest) (decide (c ≠ -59)) st = _
      rw [decide_eq_true ne]; exact i1
    · show xWOK env (a ++ -59 :: rest) (decide (c ≠ -59)) st
      rw [decide_eq_true ne]; exact i2 z
/-- a CLAUSE's codes: it holds or not, its worth -/
def CW (env : Nat → Int32) (cs : List Int32) (b : Bool) (v : Int32) : Prop := (∀ rest, xW env (cs ++ rest) false [] = if b then some v else xW env rest false []) ∧ (∀ rest, xWOK env rest false [] → xWOK env (cs ++ rest) false [])
theorem CW_sum {env : Nat → Int32} {cs : List Int32} {v : Int32} {hh : Nat} (h : xV env hh cs v) (hl : hh ≤ 64) : CW env (cs ++ [-59]) true v := by
  refine ⟨fun rest => ?_, fun rest _ => ?_⟩
  · rw [List.append_assoc, (xW_run env cs [] [v] _ (h.2 [] (by show 0 + hh ≤ 64; omega)) (h.1 [])).1]
    rfl
  · rw [List.append_assoc]
    refine (xW_run env cs [] [v] _ (h.2 [] (by show 0 + hh ≤ 64; omega)) (h.1 [])).2.1 ?_
    show (if (-59 : Int32) = -59 then [v] ≠ [] else _)
    rw [if_pos rfl]
    exact List.cons_ne_nil _ _
theorem CW_cond {env : Nat → Int32} {cs cs2 : List Int32} {v : Int32} {b : Bool} {hh h2 : Nat} (h : xV env hh cs (encB b)) (hl : hh ≤ 64) (g : xV env h2 cs2 v) (hl2 : h2 ≤ 64) : CW env (cs ++ [-63] ++ cs2 ++ [-59]) b v := by
  have as : ∀ rest, cs ++ [-63] ++ cs2 ++ [-59] ++ rest = cs ++ (-63 :: (cs2 ++ (-59 :: rest))) := fun rest => by simp only [List.append_assoc, List.cons_append, List.nil_append]
  have r1 := fun rest => xW_run env cs [] [encB b] rest (h.2 [] (by show 0 + hh ≤ 64; omega)) (h.1 [])
  have r2 := fun rest => xW_run env cs2 [] [v] rest (g.2 [] (by show 0 + h2 ≤ 64; omega)) (g.1 [])
  have w63 : ∀ r, xW env (-63 :: r) false [encB b] = xW env r (decide (encB b = 0)) [] := fun r => by
    show (if (-63 : Int32) = -59 then _ else if (-63 : Int32) = -63 then xW env r (decide (encB b = 0)) [] else _) = _
    rw [if_neg (by decide), if_pos rfl]
  have k63 : ∀ r, xWOK env r (decide (encB b = 0)) [] → xWOK env (-63 :: r) false [encB b] := fun r h => by
    show (if (-63 : Int32) = -59 then _ else if (-63 : Int32) = -63 then xWOK env r (decide (encB b = 0)) [] else _)
    rw [if_neg (by decide), if_pos rfl]
    exact h
  refine ⟨fun rest => ?_, fun rest hr => ?_⟩
  · rw [as, (r1 _).1, w63]
    cases b with
    | true =>
      show xW env _ false [] = _
      rw [(r2 _).1]
      rfl
    | false =>
      show xW env _ true [] = _
      rw [(xW_skip env cs2 rest [] (r2 []).2.2).1]
      rfl
  · rw [as]
    refine (r1 _).2.1 (k63 _ ?_)
    cases b with
    | true =>
      show xWOK env _ false []
      refine (r2 _).2.1 ?_
      show (if (-59 : Int32) = -59 then [v] ≠ [] else _)
      rw [if_pos rfl]
      exact List.cons_ne_nil _ _
    | false =>
      show xWOK env _ true []
      exact (xW_skip env cs2 rest [] (r2 []).2.2).2 hr
section LP
variable {B : Nat → Nat} {L : Nat} {env : Nat → Int32}
def GC (d d' : dH) : Prop := (∀ a k, ¬ (a = 0 ∧ (k = 10 ∨ k = 11 ∨ k = 12 ∨ k = 14 ∨ k = 17)) → d'.1 a k = d.1 a k) ∧ d'.2 = d.2
theorem GC_of {d d1 : dH} (h : GM d d1) : GC d d1 := ⟨fun a k x => h.1 a k (fun z => x ⟨z.1, by omega⟩), h.2⟩
theorem GC_t {d d1 d2 : dH} (h1 : GC d d1) (h2 : GC d1 d2) : GC d d2 := ⟨fun a k x => by rw [h2.1 a k x, h1.1 a k x], h2.2.trans h1.2⟩
theorem EV_c {d d1 : dH} (h : GC d d1) (e : EV env d) : EV env d1 := by
  obtain ⟨a, b, c, x, y, z⟩ := e
  refine ⟨?_, ?_, ?_, ?_, ?_, ?_⟩ <;> rw [h.1 _ _ (by omega)] <;> assumption
def OL (env : Nat → Int32) (B : Nat → Nat) (L q : Nat) (d : dH) (o : Option dH) (r : pR) : Prop :=
  (∀ e, r = .inl e → ∃ d', o = some d' ∧ GC d d' ∧ d'.1 0 11 = Int32.ofNat e ∧ e ≤ L) ∧
  (∀ j cs, r = .inr (j, cs) → ∃ d' b v, o = some d' ∧ GC d d' ∧ SM B L j 0 d' ∧ q < j ∧ CW env cs b v ∧ d'.1 0 17 = (if d.1 0 17 = 0 ∧ b = true then 1 else d.1 0 17) ∧ d'.1 0 14 = (if d.1 0 17 = 0 ∧ b = true then v else d.1 0 14))
theorem OL_l {q e : Nat} {d d' : dH} {o : Option dH} (h : o = some d') (F : GC d d') (he : d'.1 0 11 = Int32.ofNat e) (hl : e ≤ L) : OL env B L q d o (.inl e) :=
  ⟨fun e' z => by (cases z; exact ⟨d', h, F, he, hl⟩), fun j cs z => by cases z⟩
theorem J134_M {d0 d : dH} {q j : Nat} {cs : List Int32} {b : Bool} {v : Int32} (G0 : GM d0 d) (h13 : d0.1 0 13 = 121) (S : SM B L j 0 d) (hq : q < j) (hc : CW env cs b v) : OL env B L q d0 (f_X12_clause_J134 121 b v d) (.inr (j, cs)) := by
  refine ⟨fun e' z => by (cases z), fun j cs z => ?_⟩
  cases z
  have e17 : d.1 0 17 = d0.1 0 17 := G0.1 0 17 (by omega)
  have e14 : d.1 0 14 = d0.1 0 14 := G0.1 0 14 (by omega)
  have e13 : d.1 0 13 = 121 := by rw [G0.1 0 13 (by omega)]; exact h13
  unfold f_X12_clause_J134
  rw [if_pos S.2.2.2.1, e17]
  by_cases a : d0.1 0 17 = 0
  · rw [if_pos a, if_pos e13.symm]
    cases b with
    | true =>
      rw [if_pos rfl]
      have G1 : GC d (dPut (dPut d 0 17 1) 0 14 v) := ⟨fun a k h => by rw [dPut_ne (by omega), dPut_ne (by omega)], rfl⟩
      refine ⟨_, true, v, rfl, GC_t (GC_of G0) G1, ?_, hq, hc, ?_, ?_⟩
      · obtain ⟨s1, s2, s3, s4, s5⟩ := S
        exact ⟨PM_c (G1.1 0 9 (by omega)) (G1.1 0 8 (by omega)) (by rw [G1.2]) (fun k => G1.1 1 k (by omega)) (fun k => G1.1 2 k (by omega)) s1, by rw [dPut_ne (by omega), dPut_ne (by omega)]; exact s2, s3, by rw [dPut_ne (by omega), dPut_ne (by omega)]; exact s4, by rw [dPut_ne (by omega), dPut_ne (by omega)]; exact s5⟩
      · rw [dPut_ne (by omega), dPut_at, if_pos ⟨a, rfl⟩]
      · rw [dPut_at, if_pos ⟨a, rfl⟩]
    | false =>
      rw [if_neg (by decide)]
      exact ⟨d, false, v, rfl, GC_of G0, S, hq, hc, by rw [if_neg (fun z => by cases z.2)]; exact e17, by rw [if_neg (fun z => by cases z.2)]; exact e14⟩
  · rw [if_neg a]
    exact ⟨d, b, v, rfl, GC_of G0, S, hq, hc, by rw [if_neg (fun z => a z.1)]; exact e17, by rw [if_neg (fun z => a z.1)]; exact e14⟩
theorem J134_F {d : dH} (b : Bool) (v : Int32) (h : ¬ d.1 0 11 = -1) : f_X12_clause_J134 121 b v d = some d := by
  unfold f_X12_clause_J134
  rw [if_neg h]
theorem then_M (hL : L ≤ 240) {q hh : Nat} (hh64 : hh ≤ 64) {d : dH} (hE : EV env d) (h13 : d.1 0 13 = 121) {o : Option (Bool × dH)} {r : pR} (O : OM encB env hh B L q 0 d o r) :
    OL env B L q d (o.bind fun rv27 => (f_X12_takes 63 rv27.2).bind fun rv29 => if rv29.1 then (r_X12_sum 30 rv29.2).bind fun rv31 => f_X12_clause_J134 121 rv27.1 rv31.1 rv31.2 else some rv29.2) (pThen B L r) := by
  have k63 : (63 : Int32).toInt = 63 := rfl
  obtain ⟨ol, or⟩ := O
  cases r with
  | inl e =>
    obtain ⟨v, d2, g1, g2, g3, g4⟩ := ol e rfl
    rw [g1]
    simp only [Option.bind_some]
    rw [FM_takes (by rw [g3]; exact ofN_ne (by omega))]
    exact OL_l rfl (GC_of g2) g3 g4
  | inr r =>
    obtain ⟨j, cs⟩ := r
    obtain ⟨b, d2, g1, g2, g3, g4, g5⟩ := or j cs rfl
    have pl := pS_le (B := B) g3.2.2.1 hL
    rw [g1]
    simp only [Option.bind_some]
    obtain ⟨d3, G3, tk, nt⟩ := SM_takes g3 (x := 63) (by decide)
    unfold pThen
    by_cases a : pC B L (pS B L j) = 63
    · obtain ⟨w1, S3⟩ := tk (by rw [a, k63])
      rw [w1]
      simp only [Option.bind_some]
      rw [if_pos trivial, if_pos a]
      obtain ⟨ol, or⟩ := sum_M (env := env) hL 6 30 0 rfl (by omega) _ _ S3 (EV_g (GM_t g2 G3) hE)
      show OL env B L q d (((g_X12_atom 30).2.2 _).bind _) _
      cases hg : pSum B L 6 (pS B L j + 1) with
      | inl e =>
        obtain ⟨w, d5, u1, u2, u3, u4⟩ := ol e hg
        rw [u1]
        simp only [Option.bind_some]
        rw [J134_F _ _ (by rw [u3]; exact ofN_ne (by omega))]
        exact OL_l rfl (GC_of (GM_t g2 (GM_t G3 u2))) u3 u4
      | inr r =>
        obtain ⟨j2, cs2⟩ := r
        obtain ⟨w, d5, u1, u2, u3, u4, u5⟩ := or j2 cs2 hg
        rw [u1]
        simp only [Option.bind_some]
        exact J134_M (GM_t g2 (GM_t G3 u2)) h13 u3 (by omega) (CW_cond g5 hh64 u5 (by omega))
    · obtain ⟨w1, w2⟩ := nt (by rw [k63]; exact a)
      rw [w1]
      simp only [Option.bind_some]
      rw [if_neg (by decide), if_neg a]
      exact OL_l rfl (GC_of (GM_t g2 G3)) w2 pl.2
theorem OL_pre {q q1 : Nat} {d d1 : dH} {o : Option dH} {r : pR} (G : GM d d1) (hq : q ≤ q1) (O : OL env B L q1 d1 o r) : OL env B L q d o r := by
  obtain ⟨ol, or⟩ := O
  refine ⟨fun e he => ?_, fun j cs he => ?_⟩
  · obtain ⟨d', a1, a2, a3⟩ := ol e he
    exact ⟨d', a1, GC_t (GC_of G) a2, a3⟩
  · obtain ⟨d', b, v, a1, a2, a3, a4, a5, a6, a7⟩ := or j cs he
    rw [G.1 0 17 (by omega)] at a6 a7
    rw [G.1 0 14 (by omega)] at a7
    exact ⟨d', b, v, a1, GC_t (GC_of G) a2, a3, by omega, a5, a6, a7⟩
theorem amongY (s : Int32) : f_X12_isAmong 4 s = decide (s = 121) := by
  show ([121] : List Int32).any (fun b => b == s) = _
  simp only [List.any_cons, List.any_nil, Bool.or_false]
  by_cases q : s = 121
  · rw [q]; rfl
  · rw [decide_eq_false q]; exact beq_eq_false_iff_ne.mpr (fun z => q z.symm)
theorem clause_M (hL : L ≤ 240) {q : Nat} {d : dH} (S0 : SM B L q 0 d) (hE : EV env d) (h13 : d.1 0 13 = 121) : OL env B L q d (f_X12_clause d) (pCla B L q) := by
  have hB := S0.1.2.2.2.2.2.2
  have k121 : (121 : Int32).toInt = 121 := rfl
  have k58 : (58 : Int32).toInt = 58 := rfl
  have k33 : (33 : Int32).toInt = 33 := rfl
  have k40 : (40 : Int32).toInt = 40 := rfl
  have pl := pS_le (B := B) S0.2.2.1 hL
  obtain ⟨d1, e1, S1, G1⟩ := SM_look S0
  unfold f_X12_clause pCla
  rw [e1]
  simp only [Option.bind_some]
  rw [amongY]
  by_cases a : pC B L (pS B L q) = 121
  · have es : sg B L (pS B L q) = 121 := by rw [i_eq, sg_pC hB, a, k121]
    have lt : pS B L q < L := sg_lt (by rw [a]; decide)
    obtain ⟨S2, G2⟩ := SM_next S1 lt
    rw [decide_eq_true es, if_pos rfl, if_pos a, es]
    have pl2 := pS_le (B := B) S2.2.2.1 hL
    obtain ⟨d3, G3, tk, nt⟩ := SM_takes S2 (x := 58) (by decide)
    by_cases b : pC B L (pS B L (pS B L q + 1)) = 58
    · obtain ⟨w1, S3⟩ := tk (by rw [b, k58])
      rw [w1]
      simp only [Option.bind_some]
      rw [if_pos trivial, if_pos b]
      have lt3 := S3.2.2.1
      generalize eq1 : pS B L (pS B L q + 1) + 1 = q1 at *
      have pl3 := pS_le (B := B) lt3 hL
      obtain ⟨d4, e4, S4, G4⟩ := SM_look S3
      have G := GM_t G1 (GM_t G2 (GM_t G3 G4))
      have h13' : d4.1 0 13 = 121 := by rw [G.1 0 13 (by omega)]; exact h13
      rw [e4]
      simp only [Option.bind_some]
      have hU := units_M (B := B) (env := env) hL 6 38 0 rfl (by omega)
      have hU2 := units_M (B := B) (env := env) hL 6 39 0 rfl (by omega)
      have nest : OL env B L q d (f_X12_clause_J64 121 d4) (pThen B L (pCond B L 6 (pUnit B L 6 q1))) := by
        refine OL_pre G (q1 := pS B L q1) (by omega) ?_
        rw [← pUnit_pS hL lt3]
        exact then_M hL (by omega) (EV_g G hE) h13' (condA_M (n := 38) (x1 := false) (x2 := 0) hL hU hU2 (EV_g G hE) (hU _ _ S4 (EV_g G hE)))
      by_cases x33 : pC B L (pS B L q1) = 33
      · rw [if_pos (show sg B L (pS B L q1) = 33 by rw [i_eq, sg_pC hB, x33, k33]), if_pos (Or.inl x33)]
        exact nest
      · rw [if_neg (show ¬ sg B L (pS B L q1) = 33 by rw [i_eq, sg_pC hB, k33]; exact x33)]
        by_cases x40 : pC B L (pS B L q1) = 40
        · rw [if_pos (show sg B L (pS B L q1) = 40 by rw [i_eq, sg_pC hB, x40, k40]), if_pos (Or.inr x40)]
          exact nest
        · rw [if_neg (show ¬ sg B L (pS B L q1) = 40 by rw [i_eq, sg_pC hB, k40]; exact x40), if_neg (fun z => z.elim x33 x40)]
          have O := sum_M (env := env) hL 6 30 0 rfl (by omega) _ _ S4 (EV_g G hE)
          rw [pSum_pS hL lt3] at O
          obtain ⟨ol, or⟩ := O
          show OL env B L q d (((g_X12_atom 30).2.2 _).bind _) _
          cases hg : pSum B L 6 q1 with
          | inl e =>
            obtain ⟨w, d5, u1, u2, u3, u4⟩ := ol e hg
            rw [u1]
            simp only [Option.bind_some]
            have nf : ¬ d5.1 0 11 = -1 := by rw [u3]; exact ofN_ne (by omega)
            rw [if_neg nf, J134_F _ _ nf]
            exact OL_l rfl (GC_of (GM_t G u2)) u3 u4
          | inr r =>
            obtain ⟨j, cs⟩ := r
            obtain ⟨w, d5, u1, u2, u3, u4, u5⟩ := or j cs hg
            have pl4 := pS_le (B := B) u3.2.2.1 hL
            have pp := pS_pS (B := B) u3.2.2.1 hL
            rw [u1]
            simp only [Option.bind_some]
            rw [if_pos u3.2.2.2.1]
            obtain ⟨d6, e6, S6, G6⟩ := SM_look u3
            have G' := GM_t G (GM_t u2 G6)
            have h13'' : d6.1 0 13 = 121 := by rw [G'.1 0 13 (by omega)]; exact h13
            rw [e6]
            simp only [Option.bind_some]
            rw [signM hB]
            by_cases f : okC (pC B L (pS B L j)) = true
            · rw [if_pos f, if_pos f]
              have ep : pCmp B L 6 (.inr (j, cs)) = pCmp B L 6 (.inr (pS B L j, cs)) := by unfold pCmp; simp only [pp]
              rw [ep]
              refine OL_pre G' (q1 := pS B L q1) (by omega) ?_
              have O0 : OM (fun v : Int32 => v) env (2 * 6 + 3) B L (pS B L q1) 0 d6 (some (w, d6)) (.inr (pS B L j, cs)) := OM_r rfl (GM_r _) S6 (by omega) u5
              have O1 := cmp_M (k := 6) rfl hL (EV_g G' hE) O0
              exact then_M hL (by omega) (EV_g G' hE) h13'' (condA_M (n := 38) (x1 := true) (x2 := w) hL hU hU2 (EV_g G' hE) O1)
            · rw [if_neg f, if_neg f]
              exact J134_M G' h13 S6 (by omega) (CW_sum u5 (by omega))
    · obtain ⟨w1, w2⟩ := nt (by rw [k58]; exact b)
      rw [w1]
      simp only [Option.bind_some]
      rw [if_neg (by decide), if_neg b]
      exact OL_l rfl (GC_of (GM_t G1 (GM_t G2 G3))) w2 pl2.2
  · rw [decide_eq_false (by rw [i_eq, sg_pC hB, k121]; exact a), if_neg (by decide), if_neg a]
    obtain ⟨d2, f1, G2, f3, f4⟩ := SM_fail S1
    rw [f1]
    exact OL_l rfl (GC_of (GM_t G1 G2)) f3 pl.2
theorem lp_goLaw (hL : L ≤ 240) (bs : Nat) : ∀ (m n nn q : Nat) (cs : List Int32) (d : dH), L - q < m → m < n → m ≤ nn → SM B L q 0 d → EV env d → d.1 0 13 = 121 → (d.1 0 17 = 0 → d.1 0 14 = 0) →
    ∃ d', (f_X12_clause d).bind (f_X12_goThrough_L32 bs n) = some d' ∧ GC d d' ∧ (∀ e, pLawL B L nn q cs = .inl e → d'.1 0 11 = Int32.ofNat e ∧ e ≤ L) ∧ (∀ ds, pLawL B L nn q cs = .inr ds → d'.1 0 11 = -1 ∧ ∃ tl, ds = cs ++ tl ∧ xWOK env tl false [] ∧ d'.1 0 14 = (if d.1 0 17 = 0 then (xW env tl false []).getD 0 else d.1 0 14)) := by
  intro m
  induction m with
  | zero => intro n nn q cs d h1; omega
  | succ m ih =>
    intro n nn q cs d h1 h2 h3 S hE h13 h17
    obtain ⟨n, rfl⟩ : ∃ z, n = z + 1 := ⟨n - 1, by omega⟩
    obtain ⟨nn, rfl⟩ : ∃ z, nn = z + 1 := ⟨nn - 1, by omega⟩
    have hB := S.1.2.2.2.2.2.2
    have hq := S.2.2.1
    have k59 : (59 : Int32).toInt = 59 := rfl
    rw [pLawL]
    obtain ⟨ol, or⟩ := clause_M hL S hE h13
    cases hg : pCla B L q with
    | inl e =>
      obtain ⟨d2, g1, g2, g3, g4⟩ := ol e hg
      have nf : ¬ d2.1 0 11 = -1 := by rw [g3]; exact ofN_ne (by omega)
      rw [g1]
      simp only [Option.bind_some]
      rw [f_X12_goThrough_L32, if_neg nf]
      unfold f_X12_goThrough_J66
      rw [if_neg nf]
      exact ⟨d2, rfl, g2, fun e' h => by (cases h; exact ⟨g3, g4⟩), fun ds h => by cases h⟩
    | inr r =>
      obtain ⟨j, cs2⟩ := r
      obtain ⟨d2, b, v, g1, g2, g3, g4, g5, g6, g7⟩ := or j cs2 hg
      have pl := pS_le (B := B) g3.2.2.1 hL
      have pp := pS_pS (B := B) g3.2.2.1 hL
      rw [g1]
      simp only [Option.bind_some]
      rw [f_X12_goThrough_L32, if_pos g3.2.2.2.1]
      obtain ⟨d3, e3, S3, G3⟩ := SM_look g3
      rw [e3]
      simp only [Option.bind_some]
      by_cases b59 : pC B L (pS B L j) = 59
      · have lt : pS B L j < L := sg_lt (by rw [b59]; decide)
        obtain ⟨S4, G4⟩ := SM_next S3 lt
        rw [if_pos (show sg B L (pS B L j) = 59 by rw [i_eq, sg_pC hB, b59, k59]), if_neg (show ¬ pC B L (pS B L j) = -1 by rw [b59]; decide), if_pos b59]
        have G' := GC_t g2 (GC_of (GM_t G3 G4))
        have e17 : (dPut d3 0 10 (d3.1 0 10 + 1)).1 0 17 = d2.1 0 17 := (GM_t G3 G4).1 0 17 (by omega)
        have e14 : (dPut d3 0 10 (d3.1 0 10 + 1)).1 0 14 = d2.1 0 14 := (GM_t G3 G4).1 0 14 (by omega)
        obtain ⟨d5, t1', t2, t3, t4⟩ := ih n nn (pS B L j + 1) (cs ++ cs2) _ (by omega) (by omega) (by omega) S4 (EV_c G' hE) (by rw [G'.1 0 13 (by omega)]; exact h13) (fun z => by
          rw [e17] at z
          rw [e14, g7]
          rw [g6] at z
          by_cases y : d.1 0 17 = 0 ∧ b = true
          · rw [if_pos y] at z
            exact absurd z (by decide)
          · rw [if_neg y] at z ⊢
            exact h17 z)
        refine ⟨d5, t1', GC_t G' t2, t3, fun ds h => ?_⟩
        obtain ⟨a1, tl, a2, a3, a4⟩ := t4 ds h
        refine ⟨a1, cs2 ++ tl, by rw [a2, List.append_assoc], g5.2 tl a3, ?_⟩
        rw [a4, e17, e14, g5.1 tl]
        by_cases y : d.1 0 17 = 0
        · cases b with
          | true =>
            have g6' : d2.1 0 17 = 1 := by rw [g6, if_pos ⟨y, rfl⟩]
            have g7' : d2.1 0 14 = v := by rw [g7, if_pos ⟨y, rfl⟩]
            rw [g6', g7', if_neg (by decide), if_pos y]
            rfl
          | false =>
            have g6' : d2.1 0 17 = 0 := by rw [g6, if_neg (fun z => by cases z.2)]; exact y
            rw [g6', if_pos rfl, if_pos y]
            rfl
        · have g6' : d2.1 0 17 = d.1 0 17 := by rw [g6, if_neg (fun z => y z.1)]
          have g7' : d2.1 0 14 = d.1 0 14 := by rw [g7, if_neg (fun z => y z.1)]
          rw [g6', g7', if_neg y, if_neg y]
      · rw [if_neg (show ¬ sg B L (pS B L j) = 59 by rw [i_eq, sg_pC hB, k59]; exact b59)]
        unfold f_X12_goThrough_J66
        rw [if_pos S3.2.2.2.1]
        obtain ⟨d4, e4, S4, G4⟩ := SM_look S3
        rw [pp] at e4 S4
        rw [e4]
        simp only [Option.bind_some]
        by_cases a : pC B L (pS B L j) = -1
        · rw [if_pos (show sg B L (pS B L j) = -1 by rw [i_eq, sg_pC hB, a, tm1]), if_pos a]
          refine ⟨d4, rfl, GC_t g2 (GC_of (GM_t G3 G4)), fun e' h => by (cases h), fun ds h => ?_⟩
          cases h
          refine ⟨S4.2.2.2.1, cs2, rfl, by rw [← List.append_nil cs2]; exact g5.2 [] trivial, ?_⟩
          have w := g5.1 []
          rw [List.append_nil] at w
          rw [(GM_t G3 G4).1 0 14 (by omega), g7, w]
          by_cases y : d.1 0 17 = 0
          · cases b with
            | true => rw [if_pos ⟨y, rfl⟩, if_pos y, if_pos rfl]; rfl
            | false => rw [if_neg (fun z => by cases z.2), if_pos y, if_neg (by decide), h17 y]; rfl
          · rw [if_neg (fun z => y z.1), if_neg y]
        · rw [if_neg (show ¬ sg B L (pS B L j) = -1 by rw [i_eq, sg_pC hB, tm1]; exact a), if_neg a, if_neg b59]
          obtain ⟨d5, f1, G5, f3, f4⟩ := SM_fail S4
          rw [f1]
          exact ⟨d5, rfl, GC_t g2 (GC_of (GM_t G3 (GM_t G4 G5))), fun e' h => by (cases h; exact ⟨f3, pl.2⟩), fun ds h => by cases h⟩
end LP
