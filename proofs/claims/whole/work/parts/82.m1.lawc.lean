/-! PURE: the class reads a LAW -/
theorem sg_pC {B : Nat → Nat} {L j : Nat} (hB : ∀ k, B k < 256) : (sg B L j).toInt = pC B L j := by
  unfold pC
  by_cases q : j < L
  · rw [if_pos q, sg_in hB q]
  · rw [if_neg q, sg_out q, tm1]
theorem sg_of {B : Nat → Nat} {L j : Nat} (hB : ∀ k, B k < 256) : Int32.ofInt (pC B L j) = sg B L j := by
  rw [← sg_pC hB, Int32.ofInt_toInt]
theorem sg_lt {B : Nat → Nat} {L j : Nat} (h : pC B L j ≠ -1) : j < L := by
  unfold pC at h
  by_cases q : j < L
  · exact q
  · rw [if_neg q] at h
    exact absurd rfl h
section LC
variable {B : Nat → Nat} {L kk : Nat}
/-- the class at a point of the text, behind these codes -/
def SC (B : Nat → Nat) (L kk q : Nat) (cs : List Int32) (c : dH) : Prop :=
  PC c B L ∧ (c.1 1 2).toInt = q ∧ q ≤ L ∧ (c.1 42 1).toInt = kk ∧ kk ≤ 4 ∧ (c.1 50 kk).toInt = cs.length ∧ cs.length ≤ q ∧ ∀ i, (hi : i < cs.length) → c.1 (45 + kk) i = cs[i]
def FC (kk : Nat) (c c' : dH) : Prop := ∀ a k, ¬ (a = 1 ∧ (k = 2 ∨ k = 3)) → a ≠ 45 + kk → ¬ (a = 50 ∧ k = kk) → c'.1 a k = c.1 a k
def OC (B : Nat → Nat) (L kk q : Nat) (cs0 : List Int32) (c : dH) (o : Option (Bool × dH)) (r : pR) : Prop :=
  (∀ e, r = .inl e → ∃ c', o = some (false, c') ∧ FC kk c c' ∧ (c'.1 1 2).toInt = e ∧ e ≤ L) ∧
  (∀ j cs, r = .inr (j, cs) → ∃ c', o = some (true, c') ∧ FC kk c c' ∧ SC B L kk j (cs0 ++ cs) c' ∧ q < j ∧ cs.length + q ≤ j)
def RC (B : Nat → Nat) (L kk : Nat) (f : dH → Option (Bool × dH)) (g : Nat → pR) : Prop := ∀ q cs0 c, SC B L kk q cs0 c → OC B L kk q cs0 c (f c) (g q)
theorem FC_r (c : dH) : FC kk c c := fun _ _ _ _ _ => rfl
theorem FC_t {c c1 c2 : dH} (h1 : FC kk c c1) (h2 : FC kk c1 c2) : FC kk c c2 := fun a k x y z => by rw [h2 a k x y z, h1 a k x y z]
theorem FC_a {c c1 : dH} (h : ∀ a k, ¬ (a = 1 ∧ k = 2) → c1.1 a k = c.1 a k) : FC kk c c1 := fun a k x _ _ => h a k (fun z => x ⟨z.1, Or.inl z.2⟩)
theorem SC_m {c c1 : dH} {q q1 : Nat} {cs : List Int32} (S : SC B L kk q cs c) (h : ∀ a k, ¬ (a = 1 ∧ (k = 2 ∨ k = 3)) → c1.1 a k = c.1 a k) (e : (c1.1 1 2).toInt = q1) (h1 : q ≤ q1) (h2 : q1 ≤ L) : SC B L kk q1 cs c1 := by
  obtain ⟨a1, a2, a3, a4, a5, a6, a7, a8⟩ := S
  exact ⟨PC_c (h 1 1 (by omega)) (fun k => h 2 k (by omega)) a1, e, h2, by rw [h 42 1 (by omega)]; exact a4, a5, by rw [h 50 kk (by omega)]; exact a6, by omega, fun i hi => by rw [h _ _ (by omega)]; exact a8 i hi⟩
theorem SC_sign {c : dH} {q : Nat} {cs : List Int32} (S : SC B L kk q cs c) : ∃ c1, f_X9_sign c = some (sg B L (pS B L q), c1) ∧ SC B L kk (pS B L q) cs c1 ∧ FC kk c c1 := by
  obtain ⟨c1, e1, e2, e3⟩ := C_sign S.1 S.2.1 S.2.2.1
  have pl := pS_le (B := B) S.2.2.1 S.1.2.1
  exact ⟨c1, e1, SC_m S (fun a k h => e3 a k (fun z => h ⟨z.1, Or.inl z.2⟩)) e2 pl.1 pl.2, FC_a e3⟩
theorem SC_next {c : dH} {q : Nat} {cs : List Int32} (S : SC B L kk q cs c) (h : q < L) : SC B L kk (q + 1) cs (dPut c 1 2 (c.1 1 2 + 1)) ∧ FC kk c (dPut c 1 2 (c.1 1 2 + 1)) := by
  have hP := S.1.2.1
  have := S.2.1
  exact ⟨SC_m S (fun a k h => dPut_ne (by omega)) (by rw [dPut_at, i_add1 (by omega)]; omega) (by omega) (by omega), FC_a (fun a k h => dPut_ne h)⟩
theorem SC_take {c : dH} {q : Nat} {cs : List Int32} (S : SC B L kk q cs c) {x : Int32} (hx : x ≠ -1) : ∃ c1, f_X9_take x c = some (decide (pC B L (pS B L q) = x.toInt), c1) ∧ FC kk c c1 ∧ (pC B L (pS B L q) = x.toInt → SC B L kk (pS B L q + 1) cs c1) ∧ (¬ pC B L (pS B L q) = x.toInt → SC B L kk (pS B L q) cs c1) := by
  obtain ⟨c1, e1, e2, e3⟩ := C_take S.1 S.2.1 S.2.2.1 x
  have pl := pS_le (B := B) S.2.2.1 S.1.2.1
  have hB := S.1.2.2.2
  have ee : (sg B L (pS B L q) = x) ↔ pC B L (pS B L q) = x.toInt := by rw [i_eq, sg_pC hB]
  have hf : ∀ a k, ¬ (a = 1 ∧ (k = 2 ∨ k = 3)) → c1.1 a k = c.1 a k := fun a k h => e3 a k (fun z => h ⟨z.1, Or.inl z.2⟩)
  refine ⟨c1, by rw [e1]; simp only [ee], FC_a e3, fun z => ?_, fun z => ?_⟩
  · rw [if_pos (ee.mpr z)] at e2
    have : pS B L q < L := sg_lt (by rw [z]; intro y; exact hx (by rw [i_eq, y, tm1]))
    exact SC_m S hf e2 (by omega) (by omega)
  · rw [if_neg (fun y => z (ee.mp y))] at e2
    exact SC_m S hf e2 (by omega) (by omega)
theorem SC_add {c : dH} {q : Nat} {cs : List Int32} (S : SC B L kk q cs c) (x : Int32) (h : cs.length < q) : ∃ c1, f_X5_add x c = some c1 ∧ SC B L kk q (cs ++ [x]) c1 ∧ FC kk c c1 := by
  obtain ⟨a1, a2, a3, a4, a5, a6, a7, a8⟩ := S
  have hP := a1.2.1
  have k240 : (240 : Int32).toInt = 240 := rfl
  have i5 : dIn (c.1 42 1) 5 := dIn_of a4 (by omega)
  have dk : dI (c.1 42 1) = kk := dI_of a4
  have i6 : dIn (c.1 50 kk) 240 := dIn_of a6 (by omega)
  unfold f_X5_add
  rw [if_pos i5]
  simp only [Option.bind_some]
  rw [dk, if_pos (show c.1 50 kk < 240 by rw [i_lt, a6, k240]; omega), if_pos i5, if_pos i6, dI_of a6, dPut_ne (by omega), if_pos i5, dk]
  refine ⟨_, rfl, ⟨PC_c ?_ (fun k => ?_) a1, ?_, a3, ?_, a5, ?_, ?_, fun i hi => ?_⟩, fun a k h1 h2 h3 => ?_⟩
  · rw [dPut_ne (by omega), dPut_ne (by omega)]
  · rw [dPut_ne (by omega), dPut_ne (by omega)]
  · rw [dPut_ne (by omega), dPut_ne (by omega)]; exact a2
  · rw [dPut_ne (by omega), dPut_ne (by omega)]; exact a4
  · rw [dPut_at, i_add1 (by omega), a6, List.length_append]; rfl
  · rw [List.length_append]; show cs.length + 1 ≤ q; omega
  · rw [dPut_ne (by omega)]
    rw [List.length_append] at hi
    have hi' : i < cs.length + 1 := hi
    by_cases z : i = cs.length
    · subst z
      rw [dPut_at, List.getElem_append_right (Nat.le_refl _)]
      simp
    · rw [dPut_ne (by omega), List.getElem_append_left (by omega)]
      exact a8 i (by omega)
  · rw [dPut_ne h3, dPut_ne (by omega)]
theorem OC_l {q : Nat} {cs0 : List Int32} {c c' : dH} {o : Option (Bool × dH)} {e : Nat} (h : o = some (false, c')) (F : FC kk c c') (he : (c'.1 1 2).toInt = e) (hl : e ≤ L) : OC B L kk q cs0 c o (.inl e) :=
  ⟨fun e' z => by cases z; exact ⟨c', h, F, he, hl⟩, fun j cs z => by cases z⟩
theorem OC_r {q j : Nat} {cs0 cs : List Int32} {c c' : dH} {o : Option (Bool × dH)} (h : o = some (true, c')) (F : FC kk c c') (S : SC B L kk j (cs0 ++ cs) c') (h1 : q < j) (h2 : cs.length + q ≤ j) : OC B L kk q cs0 c o (.inr (j, cs)) :=
  ⟨fun e' z => by (cases z), fun j cs z => by (cases z; exact ⟨c', h, F, S, h1, h2⟩)⟩
/-- one round of a chain's loop -/
def StC (B : Nat → Nat) (L kk : Nat) (ok : Int → Bool) (A : dH → Option (Bool × dH)) (Lp : Nat → Int32 → dH → Option (Bool × dH)) : Prop :=
  ∀ (n : Nat) (y : Int32) (c : dH) (j : Nat) (cs : List Int32), y.toInt < 240 → SC B L kk j cs c → ∃ c1, FC kk c c1 ∧
    (ok (pC B L (pS B L j)) = true → SC B L kk (pS B L j + 1) cs c1 ∧ Lp (n + 1) y c = (A c1).bind fun rv => if rv.1 then (f_X5_add (-(sg B L (pS B L j))) rv.2).bind fun h => Lp n (y + 1) h else some (false, rv.2)) ∧
    (ok (pC B L (pS B L j)) = false → SC B L kk (pS B L j) cs c1 ∧ Lp (n + 1) y c = some (true, c1))
theorem ch_C {ok : Int → Bool} {A : dH → Option (Bool × dH)} {gA : Nat → pR} {Lp : Nat → Int32 → dH → Option (Bool × dH)} (St : StC B L kk ok A Lp) (hA : RC B L kk A gA) {q : Nat} {cs0 : List Int32} {c0 : dH} :
    ∀ (m n nn j yv : Nat) (y : Int32) (cs : List Int32) (c : dH), L - j ≤ m → m < n → m < nn → y.toInt = yv → yv < j → SC B L kk j (cs0 ++ cs) c → FC kk c0 c → q < j → cs.length + q ≤ j → cs0.length ≤ q → OC B L kk q cs0 c0 (Lp n y c) (pCh B L ok gA nn j cs) := by
  intro m
  induction m with
  | zero =>
    intro n nn j yv y cs c h1 h2 h3 h4 h5 S F h6 h7 h8
    obtain ⟨n, rfl⟩ : ∃ z, n = z + 1 := ⟨n - 1, by omega⟩
    obtain ⟨nn, rfl⟩ : ∃ z, nn = z + 1 := ⟨nn - 1, by omega⟩
    have hP := S.1.2.1
    have hj := S.2.2.1
    obtain ⟨c1, F1, t, f⟩ := St n y c j _ (by omega) S
    have pl := pS_le (B := B) hj hP
    rw [pCh]
    by_cases k : ok (pC B L (pS B L j)) = true
    · obtain ⟨S1, -⟩ := t k
      have := S1.2.2.1
      omega
    · rw [if_neg k]
      obtain ⟨S1, e1⟩ := f (Bool.eq_false_iff.mpr k)
      exact OC_r e1 (FC_t F F1) S1 (by omega) (by omega)
  | succ m ih =>
    intro n nn j yv y cs c h1 h2 h3 h4 h5 S F h6 h7 h8
    obtain ⟨n, rfl⟩ : ∃ z, n = z + 1 := ⟨n - 1, by omega⟩
    obtain ⟨nn, rfl⟩ : ∃ z, nn = z + 1 := ⟨nn - 1, by omega⟩
    have hP := S.1.2.1
    have hB := S.1.2.2.2
    have hj := S.2.2.1
    obtain ⟨c1, F1, t, f⟩ := St n y c j _ (by omega) S
    have pl := pS_le (B := B) hj hP
    rw [pCh]
    by_cases k : ok (pC B L (pS B L j)) = true
    · obtain ⟨S1, e1⟩ := t k
      have := S1.2.2.1
      have hlen : (cs0 ++ cs).length = cs0.length + cs.length := List.length_append
      rw [if_pos k, e1]
      obtain ⟨ol, or⟩ := hA _ _ _ S1
      cases hg : gA (pS B L j + 1) with
      | inl e =>
        obtain ⟨c2, g1, g2, g3, g4⟩ := ol e hg
        rw [g1]
        exact OC_l rfl (FC_t F (FC_t F1 g2)) g3 g4
      | inr r =>
        obtain ⟨j2, cs2⟩ := r
        obtain ⟨c2, g1, g2, g3, g4, g5⟩ := or j2 cs2 hg
        have hl2 : (cs0 ++ cs ++ cs2).length = cs0.length + cs.length + cs2.length := by rw [List.length_append, hlen]
        obtain ⟨c3, u1, u2, u3⟩ := SC_add g3 (-(sg B L (pS B L j))) (by omega)
        have j2L := g3.2.2.1
        have ec : cs0 ++ cs ++ cs2 ++ [-(sg B L (pS B L j))] = cs0 ++ (cs ++ cs2 ++ [-Int32.ofInt (pC B L (pS B L j))]) := by
          rw [sg_of hB]; simp only [List.append_assoc]
        rw [ec] at u2
        rw [g1]
        simp only [Option.bind_some]
        rw [if_pos trivial, u1]
        simp only [Option.bind_some]
        refine ih n nn j2 (yv + 1) (y + 1) _ c3 (by omega) (by omega) (by omega) (by rw [i_add1 (by omega), h4]; omega) (by omega) u2 (FC_t F (FC_t F1 (FC_t g2 u3))) (by omega) ?_ h8
        rw [List.length_append, List.length_append]
        show cs.length + cs2.length + 1 + q ≤ j2
        omega
    · rw [if_neg k]
      obtain ⟨S1, e1⟩ := f (Bool.eq_false_iff.mpr k)
      exact OC_r e1 (FC_t F F1) S1 (by omega) (by omega)
theorem beg_C {ok : Int → Bool} {A : dH → Option (Bool × dH)} {gA : Nat → pR} {Lp : Nat → Int32 → dH → Option (Bool × dH)} (St : StC B L kk ok A Lp) (hA : RC B L kk A gA) {q : Nat} {cs0 : List Int32} {c : dH} (hq : cs0.length ≤ q) (hL : L ≤ 240) {o : Option (Bool × dH)} {r : pR} (O : OC B L kk q cs0 c o r) :
    OC B L kk q cs0 c (o.bind fun rv => if rv.1 then Lp dFu 0 rv.2 else some (false, rv.2)) (pBeg B L ok gA r) := by
  obtain ⟨ol, or⟩ := O
  cases r with
  | inl e =>
    obtain ⟨c2, g1, g2, g3, g4⟩ := ol e rfl
    rw [g1]
    exact OC_l rfl g2 g3 g4
  | inr r =>
    obtain ⟨j2, cs2⟩ := r
    obtain ⟨c2, g1, g2, g3, g4, g5⟩ := or j2 cs2 rfl
    rw [g1]
    simp only [Option.bind_some]
    rw [if_pos trivial]
    exact ch_C St hA (L - j2) dFu 241 j2 0 0 cs2 c2 (Nat.le_refl _) (fuel_lt (by omega)) (by omega) rfl (by omega) g3 g2 g4 g5 hq
theorem St_sign {ok : Int → Bool} {A : dH → Option (Bool × dH)} {Lp : Nat → Int32 → dH → Option (Bool × dH)} {x1 x2 : Int32} (hx1 : x1 ≠ -1) (hx2 : x2 ≠ -1) (hok : ∀ v : Int, ok v = decide (v = x1.toInt ∨ v = x2.toInt))
    (e : ∀ n y c, Lp (n + 1) y c = if y < 240 then (f_X9_sign c).bind fun rv => if rv.1 = x1 then (A (dPut rv.2 1 2 (rv.2.1 1 2 + 1))).bind (fun r => if r.1 then (f_X5_add (-rv.1) r.2).bind fun h => Lp n (y + 1) h else some (false, r.2)) else if rv.1 = x2 then (A (dPut rv.2 1 2 (rv.2.1 1 2 + 1))).bind (fun r => if r.1 then (f_X5_add (-rv.1) r.2).bind fun h => Lp n (y + 1) h else some (false, r.2)) else some (true, rv.2) else some (true, c)) : StC B L kk ok A Lp := by
  intro n y c j cs hy S
  have k240 : (240 : Int32).toInt = 240 := rfl
  have hB := S.1.2.2.2
  obtain ⟨c1, e1, S1, F1⟩ := SC_sign S
  rw [e, if_pos (show y < 240 by rw [i_lt, k240]; omega), e1]
  simp only [Option.bind_some]
  rw [hok]
  have z1 : (sg B L (pS B L j) = x1) ↔ pC B L (pS B L j) = x1.toInt := by rw [i_eq, sg_pC hB]
  have z2 : (sg B L (pS B L j) = x2) ↔ pC B L (pS B L j) = x2.toInt := by rw [i_eq, sg_pC hB]
  by_cases k : pC B L (pS B L j) = x1.toInt ∨ pC B L (pS B L j) = x2.toInt
  · have lt : pS B L j < L := sg_lt (by
      intro y
      rcases k with k | k
      · exact hx1 (by rw [i_eq, ← k, y, tm1])
      · exact hx2 (by rw [i_eq, ← k, y, tm1]))
    obtain ⟨S2, F2⟩ := SC_next S1 lt
    refine ⟨_, FC_t F1 F2, fun _ => ⟨S2, ?_⟩, fun z => by rw [decide_eq_true k] at z; cases z⟩
    by_cases a : sg B L (pS B L j) = x1
    · rw [if_pos a]
    · rw [if_neg a, if_pos (z2.mpr (k.resolve_left (fun w => a (z1.mpr w))))]
  · refine ⟨c1, F1, fun z => by (rw [decide_eq_false k] at z; cases z), fun _ => ⟨S1, ?_⟩⟩
    rw [if_neg (fun w => k (Or.inl (z1.mp w))), if_neg (fun w => k (Or.inr (z2.mp w)))]
theorem St_take {ok : Int → Bool} {A : dH → Option (Bool × dH)} {Lp : Nat → Int32 → dH → Option (Bool × dH)} {x : Int32} (hx : x ≠ -1) (hok : ∀ v : Int, ok v = decide (v = x.toInt))
    (e : ∀ n y c, Lp (n + 1) y c = if y < 240 then (f_X9_take x c).bind fun rv => if rv.1 then (A rv.2).bind (fun r => if r.1 then (f_X5_add (-x) r.2).bind fun h => Lp n (y + 1) h else some (false, r.2)) else some (true, rv.2) else some (true, c)) : StC B L kk ok A Lp := by
  intro n y c j cs hy S
  have k240 : (240 : Int32).toInt = 240 := rfl
  have hB := S.1.2.2.2
  obtain ⟨c1, e1, F1, S1, S2⟩ := SC_take S hx
  rw [e, if_pos (show y < 240 by rw [i_lt, k240]; omega), e1]
  simp only [Option.bind_some]
  rw [hok]
  by_cases k : pC B L (pS B L j) = x.toInt
  · have ex : sg B L (pS B L j) = x := by rw [i_eq, sg_pC hB, k]
    refine ⟨c1, F1, fun _ => ⟨S1 k, ?_⟩, fun z => by rw [decide_eq_true k] at z; cases z⟩
    rw [decide_eq_true k, if_pos rfl, ex]
  · refine ⟨c1, F1, fun z => by (rw [decide_eq_false k] at z; cases z), fun _ => ⟨S2 k, ?_⟩⟩
    rw [decide_eq_false k, if_neg (by decide)]
theorem letC (s : Int32) : f_X11_placeIn 2 s = match pLet s.toInt with | some k => Int32.ofNat k | none => -1 := by
  show sfindF s [107, 118, 111, 104, 110, 116] 0 = _
  have k1 : (107 : Int32).toInt = 107 := rfl
  have k2 : (118 : Int32).toInt = 118 := rfl
  have k3 : (111 : Int32).toInt = 111 := rfl
  have k4 : (104 : Int32).toInt = 104 := rfl
  have k5 : (110 : Int32).toInt = 110 := rfl
  have k6 : (116 : Int32).toInt = 116 := rfl
  have cv : ∀ x : Int32, (x = s) ↔ s.toInt = x.toInt := fun x => by rw [i_eq]; exact eq_comm
  unfold pLet
  simp only [sfindF, cv, k1, k2, k3, k4, k5, k6]
  by_cases h1 : s.toInt = 107
  · rw [if_pos h1, if_pos h1]
  rw [if_neg h1, if_neg h1]
  by_cases h2 : s.toInt = 118
  · rw [if_pos h2, if_pos h2]
  rw [if_neg h2, if_neg h2]
  by_cases h3 : s.toInt = 111
  · rw [if_pos h3, if_pos h3]
  rw [if_neg h3, if_neg h3]
  by_cases h4 : s.toInt = 104
  · rw [if_pos h4, if_pos h4]
  rw [if_neg h4, if_neg h4]
  by_cases h5 : s.toInt = 110
  · rw [if_pos h5, if_pos h5]
  rw [if_neg h5, if_neg h5]
  by_cases h6 : s.toInt = 116
  · rw [if_pos h6, if_pos h6]
  rw [if_neg h6, if_neg h6]
theorem atom_C {k : Nat} {x : Int32} (hx : x.toInt + k = 6) {S T A : Int32 → dH → Option (Bool × dH)} (hS : ∀ k', k = k' + 1 → RC B L kk (S (x + 1)) (pSum B L k')) : RC B L kk (f_X5_readAtom S T A x) (pAtm B L k) := by
  intro q cs0 c S0
  have hP := S0.1.2.1
  have hB := S0.1.2.2.2
  have k6 : (6 : Int32).toInt = 6 := rfl
  have k91 : (91 : Int32).toInt = 91 := rfl
  have k93 : (93 : Int32).toInt = 93 := rfl
  obtain ⟨c1, e1, S1, F1⟩ := SC_sign S0
  have pl := pS_le (B := B) S0.2.2.1 hP
  have pp : pS B L (pS B L q) = pS B L q := pS_pS S0.2.2.1 hP
  have hln := S0.2.2.2.2.2.2.1
  unfold f_X5_readAtom pAtm pAt
  rw [e1]
  simp only [Option.bind_some]
  by_cases a : pC B L (pS B L q) = 91
  · rw [if_pos (show sg B L (pS B L q) = 91 by rw [i_eq, sg_pC hB, a, k91]), if_pos a]
    cases k with
    | zero =>
      rw [if_neg (show ¬ x < 6 by rw [i_lt, k6]; omega)]
      exact OC_l rfl F1 S1.2.1 pl.2
    | succ k =>
      rw [if_pos (show x < 6 by rw [i_lt, k6]; omega)]
      obtain ⟨c2, g1, F2, g3, g4⟩ := SC_take S1 (x := 91) (by decide)
      rw [pp] at g1 g3 g4
      have S2 := g3 (by rw [a, k91])
      rw [g1]
      simp only [Option.bind_some]
      rw [decide_eq_true (by rw [a, k91]), if_pos rfl]
      obtain ⟨ol, or⟩ := hS k rfl _ _ _ S2
      cases hg : pSum B L k (pS B L q + 1) with
      | inl e =>
        obtain ⟨c3, u1, u2, u3, u4⟩ := ol e hg
        rw [u1]
        exact OC_l rfl (FC_t F1 (FC_t F2 u2)) u3 u4
      | inr r =>
        obtain ⟨j, cs⟩ := r
        obtain ⟨c3, u1, u2, u3, u4, u5⟩ := or j cs hg
        have pl3 := pS_le (B := B) u3.2.2.1 hP
        rw [u1]
        simp only [Option.bind_some]
        rw [if_pos trivial]
        obtain ⟨c4, v1, F4, v3, v4⟩ := SC_take u3 (x := 93) (by decide)
        rw [v1]
        simp only [Option.bind_some]
        by_cases b : pC B L (pS B L j) = 93
        · rw [decide_eq_true (by rw [b, k93]), if_pos rfl, if_pos b]
          exact OC_r rfl (FC_t F1 (FC_t F2 (FC_t u2 F4))) (v3 (by rw [b, k93])) (by omega) (by omega)
        · rw [decide_eq_false (by rw [k93]; exact b), if_neg (by decide), if_neg b]
          exact OC_l rfl (FC_t F1 (FC_t F2 (FC_t u2 F4))) (v4 (by rw [k93]; exact b)).2.1 pl3.2
  · rw [if_neg (show ¬ sg B L (pS B L q) = 91 by rw [i_eq, sg_pC hB, k91]; exact a), if_neg a, letC, sg_pC hB]
    cases hl : pLet (pC B L (pS B L q)) with
    | some t =>
      have ht : t ≤ 5 := by
        unfold pLet at hl
        repeat' split at hl
        all_goals (first | (cases hl; omega) | cases hl)
      have lt : pS B L q < L := sg_lt (by intro y; rw [y] at hl; cases hl)
      dsimp only
      rw [if_neg (by intro z; rw [i_eq, i_ofNat (by omega), tm1] at z; omega)]
      obtain ⟨S2, F2⟩ := SC_next S1 lt
      obtain ⟨c3, u1, u2, u3⟩ := SC_add S2 (-1 - Int32.ofNat t) (by omega)
      rw [u1]
      exact OC_r rfl (FC_t F1 (FC_t F2 u3)) u2 (by omega) (by show 1 + q ≤ _; omega)
    | none =>
      dsimp only
      rw [if_pos rfl]
      obtain ⟨c2, F2, g1, g2⟩ := C_num (md := 4) (by omega) 0 9999 S1.1 S1.2.1 S1.2.2.1
      have FF2 : FC kk c1 c2 := fun a k h _ _ => F2 a k h
      have t0 : (0 : Int32).toInt = 0 := rfl
      have t9 : (9999 : Int32).toInt = 9999 := rfl
      have eN : rN B L 4 (0 : Int32).toInt (9999 : Int32).toInt (pS B L q) = if pDig B L (pS B L q) then (match pNum B L 4 (pS B L q) 0 with | .inl e => .inl e | .inr (j, v) => .inr (j, v)) else .inl (pS B L q) := by
        unfold rN
        rw [pp]
        by_cases d : pDig B L (pS B L q) = true
        · rw [if_pos d, if_pos d]
          cases hn : pNum B L 4 (pS B L q) 0 with
          | inl e => rfl
          | inr r =>
            obtain ⟨j, v⟩ := r
            have := (pNum_sp B L 4 (pS B L q) 0 pl.2).2 j v hn
            dsimp only
            rw [if_neg (by rw [t0, t9]; omega)]
        · rw [if_neg d, if_neg d]
      rw [eN] at g1 g2
      by_cases d : pDig B L (pS B L q) = true
      · rw [if_pos d] at g1 g2 ⊢
        cases hn : pNum B L 4 (pS B L q) 0 with
        | inl e =>
          rw [hn] at g1
          obtain ⟨w1, w2, w3⟩ := g1 e rfl
          rw [show (4 : Int32) = Int32.ofNat 4 from rfl, w1]
          exact OC_l rfl (FC_t F1 FF2) w2 w3
        | inr r =>
          obtain ⟨j, v⟩ := r
          rw [hn] at g2
          obtain ⟨w1, w2, w3, w4, w5, w6, w7⟩ := g2 j v rfl
          rw [show (4 : Int32) = Int32.ofNat 4 from rfl, w1]
          simp only [Option.bind_some]
          rw [if_pos trivial]
          have S2 : SC B L kk j cs0 c2 := SC_m S1 F2 w2 (by omega) w4
          obtain ⟨c3, u1, u2, u3⟩ := SC_add S2 (c2.1 1 3) (by omega)
          rw [u1]
          rw [(oNat w3).resolve_right (by rw [t9] at w7; omega)] at u2
          exact OC_r rfl (FC_t F1 (FC_t FF2 u3)) u2 (by omega) (by show 1 + q ≤ _; omega)
      · rw [if_neg d] at g1 ⊢
        obtain ⟨w1, w2, w3⟩ := g1 _ rfl
        rw [show (4 : Int32) = Int32.ofNat 4 from rfl, w1]
        exact OC_l rfl (FC_t F1 FF2) w2 w3
theorem pSum_e (k : Nat) : pSum B L k = fun q => pSm B L (pTm B L (pAtm B L k)) q := by
  cases k <;> rfl
theorem sumA_C {k n : Nat} {x : Int32} (hL : L ≤ 240) (hA : RC B L kk ((g_X5_readSum n).2.2 x) (pAtm B L k)) : RC B L kk ((g_X5_readSum (n + 2)).1 x) (pSum B L k) := by
  rw [pSum_e]
  have hT : RC B L kk ((g_X5_readSum (n + 1)).2.1 x) (pTm B L (pAtm B L k)) := fun q cs0 c S0 =>
    beg_C (Lp := fun n y c => f_X5_readTerm_L12 _ _ _ n x y c) (St_sign (x1 := 42) (x2 := 47) (by decide) (by decide) (fun v => rfl) (fun n y c => by rw [f_X5_readTerm_L12]; rfl)) hA S0.2.2.2.2.2.2.1 hL (hA q cs0 c S0)
  intro q cs0 c S0
  exact beg_C (Lp := fun n y c => f_X5_readSum_L12 _ _ _ n x y c) (St_sign (x1 := 43) (x2 := 45) (by decide) (by decide) (fun v => rfl) (fun n y c => by rw [f_X5_readSum_L12]; rfl)) hT S0.2.2.2.2.2.2.1 hL (hT q cs0 c S0)
theorem sum_C (hL : L ≤ 240) : ∀ (k n : Nat) (x : Int32), k ≤ 6 → x.toInt + k = 6 → 3 * k + 3 ≤ n → RC B L kk ((g_X5_readSum n).1 x) (pSum B L k) := by
  intro k
  induction k with
  | zero =>
    intro n x h6 hx hn
    obtain ⟨n, rfl⟩ : ∃ z, n = z + 1 + 2 := ⟨n - 3, by omega⟩
    exact sumA_C hL (atom_C (T := (g_X5_readSum n).2.1) (A := (g_X5_readSum n).2.2) hx (fun k' h => by omega))
  | succ k ih =>
    intro n x h6 hx hn
    obtain ⟨n, rfl⟩ : ∃ z, n = z + 1 + 2 := ⟨n - 3, by omega⟩
    exact sumA_C hL (atom_C (T := (g_X5_readSum n).2.1) (A := (g_X5_readSum n).2.2) hx (fun k' h => by
      obtain rfl : k = k' := by omega
      exact ih n (x + 1) (by omega) (by rw [i_add1 (by omega)]; omega) (by omega)))
end LC
