/-! PURE: the reference reads a LAW and says what it is worth -/
theorem i_ofInt {z : Int} (h : -2147483648 ≤ z ∧ z < 2147483648) : (Int32.ofInt z).toInt = z := by
  rw [Int32.toInt_ofInt]
  have e : ((Int32.size : Nat) : Int) = 4294967296 := rfl
  exact Int.bmod_eq_of_le (by omega) (by omega)
theorem xH_i (z : Int) : (xH z).toInt = max (-1000000) (min 1000000 z) := by
  unfold xH
  exact i_ofInt (by omega)
theorem l_to32 {x : Int64} (h : -2147483648 ≤ x.toInt ∧ x.toInt < 2147483648) : x.toInt32.toInt = x.toInt := by
  rw [Int64.toInt_toInt32]
  exact Int.bmod_eq_of_le (by omega) (by omega)
theorem wiM (x : Int64) (h : dH) : f_X12_within x h = xH x.toInt := by
  have k1 : (-1000000 : Int64).toInt = -1000000 := by decide
  have k2 : (1000000 : Int64).toInt = 1000000 := by decide
  unfold f_X12_within jmaxL jminL
  rw [i_eq, xH_i]
  by_cases a : x < 1000000
  · rw [if_pos a]
    rw [Int64.lt_iff_toInt_lt, k2] at a
    by_cases b : x < -1000000
    · rw [if_pos b]
      rw [Int64.lt_iff_toInt_lt, k1] at b
      rw [l_to32 (by rw [k1]; omega), k1]
      omega
    · rw [if_neg b]
      rw [Int64.lt_iff_toInt_lt, k1] at b
      rw [l_to32 (by omega)]
      omega
  · rw [if_neg a]
    rw [Int64.lt_iff_toInt_lt, k2] at a
    rw [if_neg (by rw [Int64.lt_iff_toInt_lt, k1, k2]; omega), l_to32 (by rw [k2]; omega), k2]
    omega
theorem heC (x : Int64) (h : dH) : f_X11_held (-1000000) 1000000 x h = xH x.toInt := by
  have k1 : (-1000000 : Int32).toInt = -1000000 := by decide
  have k2 : (1000000 : Int32).toInt = 1000000 := by decide
  unfold f_X11_held
  rw [i_eq, xH_i]
  by_cases a : lg_cmp x ((-1000000 : Int32).toInt64) < 0
  · rw [if_pos a]
    rw [l_cmp_lt, l_ofI, k1] at a
    rw [k1]
    omega
  · rw [if_neg a]
    rw [l_cmp_lt, l_ofI, k1] at a
    by_cases b : 0 < lg_cmp x ((1000000 : Int32).toInt64)
    · rw [if_pos b]
      rw [l_cmp_gt, l_ofI, k2] at b
      rw [k2]
      omega
    · rw [if_neg b]
      rw [l_cmp_gt, l_ofI, k2] at b
      rw [l_to32 (by omega)]
      omega
theorem l_add (a b : Int32) : (a.toInt64 + b.toInt64).toInt = a.toInt + b.toInt := by
  have := i_rng a
  have := i_rng b
  rw [Int64.toInt_add, l_ofI, l_ofI]
  exact Int.bmod_eq_of_le (by omega) (by omega)
theorem l_sub (a b : Int32) : (a.toInt64 - b.toInt64).toInt = a.toInt - b.toInt := by
  have := i_rng a
  have := i_rng b
  rw [Int64.toInt_sub, l_ofI, l_ofI]
  exact Int.bmod_eq_of_le (by omega) (by omega)
theorem l_mul (a b : Int32) : (a.toInt64 * b.toInt64).toInt = a.toInt * b.toInt := by
  have := i_rng a
  have := i_rng b
  have h : (a.toInt * b.toInt).natAbs ≤ 2147483648 * 2147483648 := by
    rw [Int.natAbs_mul]
    exact Nat.mul_le_mul (by omega) (by omega)
  rw [Int64.toInt_mul, l_ofI, l_ofI]
  exact Int.bmod_eq_of_le (by omega) (by omega)
theorem l_div (a b : Int32) : (a.toInt64 / b.toInt64).toInt = Int.tdiv a.toInt b.toInt := by
  have := i_rng a
  have := i_rng b
  have h : (Int.tdiv a.toInt b.toInt).natAbs ≤ a.toInt.natAbs := by
    rw [Int.natAbs_tdiv]
    exact Nat.div_le_self _ _
  rw [Int64.toInt_div, l_ofI, l_ofI]
  exact Int.bmod_eq_of_le (by omega) (by omega)
theorem l_zero (b : Int32) : b.toInt64 = 0 ↔ b.toInt = 0 := by
  rw [← Int64.toInt_inj, l_ofI]
  rfl
/-- may a code be run on this stack -/
def xS (c : Int32) (st : List Int32) : Prop :=
  if -6 ≤ c.toInt then st.length < 64 else c ≠ -59 ∧ c ≠ -63 ∧ (if c = -33 then 1 ≤ st.length else match st with
    | b :: a :: _ => (c = -42 ∨ c = -43 ∨ c = -45 ∨ c = -47 ∨ c = -60 ∨ c = -61 ∨ c = -62) ∨ ((a = 0 ∨ a = 1) ∧ (b = 0 ∨ b = 1))
    | _ => False)
def xOK (env : Nat → Int32) : List Int32 → List Int32 → Prop
  | [], _ => True
  | c :: cs, st => xS c st ∧ ∀ st', xC env c st = some st' → xOK env cs st'
theorem xR_app (env : Nat → Int32) : ∀ (a b st : List Int32), xR env (a ++ b) st = (xR env a st).bind (xR env b) := by
  intro a
  induction a with
  | nil => intro b st; rfl
  | cons c a ih =>
    intro b st
    show (match xC env c st with | some st => xR env (a ++ b) st | none => none) = Option.bind (match xC env c st with | some st => xR env a st | none => none) (xR env b)
    cases xC env c st with
    | none => rfl
    | some s => exact ih b s
theorem xOK_app (env : Nat → Int32) : ∀ (a b st : List Int32), xOK env a st → (∀ st', xR env a st = some st' → xOK env b st') → xOK env (a ++ b) st := by
  intro a
  induction a with
  | nil => intro b st _ h; exact h st rfl
  | cons c a ih =>
    intro b st h1 h2
    refine ⟨h1.1, fun st' e => ih b st' (h1.2 st' e) (fun s2 e2 => h2 s2 ?_)⟩
    show (match xC env c st with | some st => xR env a st | none => none) = some s2
    rw [e]
    exact e2
/-- these codes leave v -/
def xV (env : Nat → Int32) (hh : Nat) (cs : List Int32) (v : Int32) : Prop := (∀ st, xR env cs st = some (v :: st)) ∧ ∀ st : List Int32, st.length + hh ≤ 64 → xOK env cs st
theorem xV_mono {env : Nat → Int32} {hh h2 : Nat} {cs : List Int32} {v : Int32} (h : xV env hh cs v) (hl : hh ≤ h2) : xV env h2 cs v := ⟨h.1, fun st hs => h.2 st (by omega)⟩
theorem xV_one {env : Nat → Int32} {c v : Int32} (h1 : -6 ≤ c.toInt) (h2 : ∀ st, xC env c st = some (v :: st)) : xV env 1 [c] v := by
  refine ⟨fun st => ?_, fun st hs => ⟨?_, fun _ _ => trivial⟩⟩
  · show (match xC env c st with | some st => some st | none => none) = _
    rw [h2]
  · unfold xS
    rw [if_pos h1]
    omega
theorem xV_join {env : Nat → Int32} {hh : Nat} {cs cs2 : List Int32} {c v w u : Int32} (h1 : xV env (hh + 1) cs v) (h2 : xV env hh cs2 w) (h3 : ∀ st, xC env c (w :: v :: st) = some (u :: st) ∧ xS c (w :: v :: st)) : xV env (hh + 1) (cs ++ cs2 ++ [c]) u := by
  have e1 : ∀ st, xR env (cs ++ cs2) st = some (w :: v :: st) := fun st => by
    rw [xR_app, h1.1]
    exact h2.1 _
  refine ⟨fun st => ?_, fun st hs => ?_⟩
  · rw [xR_app, e1]
    show (match xC env c (w :: v :: st) with | some st => some st | none => none) = _
    rw [(h3 st).1]
  · refine xOK_app env _ _ _ (xOK_app env _ _ _ (h1.2 st hs) (fun st' e => ?_)) (fun st' e => ?_)
    · rw [h1.1] at e
      cases e
      exact h2.2 _ (by show st.length + 1 + hh ≤ 64; omega)
    · rw [e1] at e
      cases e
      exact ⟨(h3 st).2, fun _ _ => trivial⟩
section LM
variable {B : Nat → Nat} {L dp : Nat} {env : Nat → Int32}
def SM (B : Nat → Nat) (L q dp : Nat) (d : dH) : Prop := PM d B L ∧ (d.1 0 10).toInt = q ∧ q ≤ L ∧ d.1 0 11 = -1 ∧ (d.1 0 12).toInt = dp
def GM (d d' : dH) : Prop := (∀ a k, ¬ (a = 0 ∧ (k = 10 ∨ k = 11 ∨ k = 12)) → d'.1 a k = d.1 a k) ∧ d'.2 = d.2
def EV (env : Nat → Int32) (d : dH) : Prop := d.1 4 107 = env 0 ∧ d.1 4 118 = env 1 ∧ d.1 4 111 = env 2 ∧ d.1 4 104 = env 3 ∧ d.1 4 110 = env 4 ∧ d.1 4 116 = env 5
def OM {α : Type} (enc : α → Int32) (env : Nat → Int32) (hh : Nat) (B : Nat → Nat) (L q dp : Nat) (d : dH) (o : Option (α × dH)) (r : pR) : Prop :=
  (∀ e, r = .inl e → ∃ v d', o = some (v, d') ∧ GM d d' ∧ d'.1 0 11 = Int32.ofNat e ∧ e ≤ L) ∧
  (∀ j cs, r = .inr (j, cs) → ∃ v d', o = some (v, d') ∧ GM d d' ∧ SM B L j dp d' ∧ q < j ∧ xV env hh cs (enc v))
def RM {α : Type} (enc : α → Int32) (env : Nat → Int32) (hh : Nat) (B : Nat → Nat) (L dp : Nat) (f : dH → Option (α × dH)) (g : Nat → pR) : Prop := ∀ q d, SM B L q dp d → EV env d → OM enc env hh B L q dp d (f d) (g q)
theorem GM_r (d : dH) : GM d d := ⟨fun _ _ _ => rfl, rfl⟩
theorem GM_t {d d1 d2 : dH} (h1 : GM d d1) (h2 : GM d1 d2) : GM d d2 := ⟨fun a k x => by rw [h2.1 a k x, h1.1 a k x], h2.2.trans h1.2⟩
theorem GM_p (d : dH) {k : Nat} (hk : k = 10 ∨ k = 11 ∨ k = 12) (v : Int32) : GM d (dPut d 0 k v) := ⟨fun a k2 h => dPut_ne (fun z => h ⟨z.1, by omega⟩), rfl⟩
theorem EV_g {d d1 : dH} (h : GM d d1) (e : EV env d) : EV env d1 := by
  obtain ⟨a, b, c, x, y, z⟩ := e
  refine ⟨?_, ?_, ?_, ?_, ?_, ?_⟩ <;> rw [h.1 _ _ (by omega)] <;> assumption
theorem SM_m {d d1 : dH} {q q1 dp1 : Nat} (S : SM B L q dp d) (h : GM d d1) (e : (d1.1 0 10).toInt = q1) (h2 : q1 ≤ L) (h11 : d1.1 0 11 = -1) (h12 : (d1.1 0 12).toInt = dp1) : SM B L q1 dp1 d1 :=
  ⟨PM_c (h.1 0 9 (by omega)) (h.1 0 8 (by omega)) (by rw [h.2]) (fun k => h.1 1 k (by omega)) (fun k => h.1 2 k (by omega)) S.1, e, h2, h11, h12⟩
theorem SM_look {d : dH} {q : Nat} (S : SM B L q dp d) : ∃ d1, f_X12_look d = some (sg B L (pS B L q), d1) ∧ SM B L (pS B L q) dp d1 ∧ GM d d1 := by
  obtain ⟨d1, e1, e2, e3, e4⟩ := M_look S.1 S.2.1 S.2.2.1
  have pl := pS_le (B := B) S.2.2.1 S.1.2.1
  have G : GM d d1 := ⟨fun a k h => e3 a k (fun z => h ⟨z.1, Or.inl z.2⟩), e4⟩
  exact ⟨d1, e1, SM_m S G e2 pl.2 (by rw [e3 0 11 (by omega)]; exact S.2.2.2.1) (by rw [e3 0 12 (by omega)]; exact S.2.2.2.2), G⟩
theorem SM_next {d : dH} {q : Nat} (S : SM B L q dp d) (h : q < L) : SM B L (q + 1) dp (dPut d 0 10 (d.1 0 10 + 1)) ∧ GM d (dPut d 0 10 (d.1 0 10 + 1)) := by
  have hP := S.1.2.1
  have := S.2.1
  have G := GM_p d (k := 10) (by omega) (d.1 0 10 + 1)
  exact ⟨SM_m S G (by rw [dPut_at, i_add1 (by omega)]; omega) (by omega) (by rw [dPut_ne (by omega)]; exact S.2.2.2.1) (by rw [dPut_ne (by omega)]; exact S.2.2.2.2), G⟩
theorem SM_fail {d : dH} {q : Nat} (S : SM B L q dp d) : ∃ d1, f_X12_fails d = some (false, d1) ∧ GM d d1 ∧ d1.1 0 11 = Int32.ofNat q ∧ (∀ k, k ≠ 11 → d1.1 0 k = d.1 0 k) := by
  have hP := S.1.2.1
  have hq := S.2.2.1
  exact ⟨_, M_fails S.2.2.2.1, GM_p d (by omega) _, by rw [dPut_at]; exact (oNat S.2.1).resolve_right (by omega), fun k hk => dPut_ne (by omega)⟩
theorem ofN_ne {e : Nat} (h : e ≤ 240) : ¬ Int32.ofNat e = -1 := fun z => by rw [i_eq, i_ofNat (by omega), tm1] at z; omega
/-- a take: the sign, or the fault -/
theorem SM_takes {d : dH} {q : Nat} (S : SM B L q dp d) {x : Int32} (hx : x ≠ -1) : ∃ d1, GM d d1 ∧ (pC B L (pS B L q) = x.toInt → f_X12_takes x d = some (true, d1) ∧ SM B L (pS B L q + 1) dp d1) ∧ (¬ pC B L (pS B L q) = x.toInt → f_X12_takes x d = some (false, d1) ∧ d1.1 0 11 = Int32.ofNat (pS B L q)) := by
  have hB := S.1.2.2.2.2.2.2
  obtain ⟨d1, e1, S1, G1⟩ := SM_look S
  have ee : (sg B L (pS B L q) = x) ↔ pC B L (pS B L q) = x.toInt := by rw [i_eq, sg_pC hB]
  unfold f_X12_takes
  rw [if_pos S.2.2.2.1, e1]
  simp only [Option.bind_some]
  by_cases a : pC B L (pS B L q) = x.toInt
  · have lt : pS B L q < L := sg_lt (by rw [a]; intro y; exact hx (by rw [i_eq, y, tm1]))
    obtain ⟨S2, G2⟩ := SM_next S1 lt
    rw [if_pos (ee.mpr a)]
    exact ⟨_, GM_t G1 G2, fun _ => ⟨rfl, S2⟩, fun z => absurd a z⟩
  · obtain ⟨d2, f1, G2, f3, f4⟩ := SM_fail S1
    rw [if_neg (fun y => a (ee.mp y))]
    unfold f_X12_takes_J16
    rw [f1]
    exact ⟨d2, GM_t G1 G2, fun z => absurd z a, fun _ => ⟨rfl, f3⟩⟩
/-- a take behind a fault -/
theorem FM_takes {d : dH} (h : ¬ d.1 0 11 = -1) (x : Int32) : f_X12_takes x d = some (false, d) := by
  unfold f_X12_takes f_X12_takes_J16 f_X12_fails
  rw [if_neg h, if_neg h]
  rfl
theorem OM_l {α : Type} {enc : α → Int32} {hh q e : Nat} {d d' : dH} {o : Option (α × dH)} {v : α} (h : o = some (v, d')) (F : GM d d') (he : d'.1 0 11 = Int32.ofNat e) (hl : e ≤ L) : OM enc env hh B L q dp d o (.inl e) :=
  ⟨fun e' z => by (cases z; exact ⟨v, d', h, F, he, hl⟩), fun j cs z => by cases z⟩
theorem OM_r {α : Type} {enc : α → Int32} {hh q j : Nat} {cs : List Int32} {d d' : dH} {o : Option (α × dH)} {v : α} (h : o = some (v, d')) (F : GM d d') (S : SM B L j dp d') (h1 : q < j) (h2 : xV env hh cs (enc v)) : OM enc env hh B L q dp d o (.inr (j, cs)) :=
  ⟨fun e' z => by (cases z), fun j cs z => by (cases z; exact ⟨v, d', h, F, S, h1, h2⟩)⟩
/-- one round of a chain's loop -/
def StM {α : Type} (B : Nat → Nat) (L dp : Nat) (ok : Int → Bool) (A : dH → Option (α × dH)) (jn : Int32 → α → α → α) (Lp : Nat → α → dH → Option (α × dH)) : Prop :=
  (∀ (n : Nat) (v : α) (d : dH) (j : Nat), SM B L j dp d → ∃ d1, GM d d1 ∧
    (ok (pC B L (pS B L j)) = true → SM B L (pS B L j + 1) dp d1 ∧ Lp (n + 1) v d = (A d1).bind fun rv => Lp n (jn (sg B L (pS B L j)) v rv.1) rv.2) ∧
    (ok (pC B L (pS B L j)) = false → SM B L (pS B L j) dp d1 ∧ Lp (n + 1) v d = some (v, d1))) ∧
  (∀ (n : Nat) (v : α) (d : dH), ¬ d.1 0 11 = -1 → Lp (n + 1) v d = some (v, d))
def JnM {α : Type} (enc : α → Int32) (env : Nat → Int32) (ok : Int → Bool) (jn : Int32 → α → α → α) : Prop := ∀ (s : Int32) (v w : α) (st : List Int32), ok s.toInt = true → xC env (-s) (enc w :: enc v :: st) = some (enc (jn s v w) :: st) ∧ xS (-s) (enc w :: enc v :: st)
theorem ch_M {α : Type} {enc : α → Int32} {hh : Nat} {ok : Int → Bool} {A : dH → Option (α × dH)} {gA : Nat → pR} {jn : Int32 → α → α → α} {Lp : Nat → α → dH → Option (α × dH)} (St : StM B L dp ok A jn Lp) (Jn : JnM enc env ok jn) (hA : RM enc env hh B L dp A gA) {q : Nat} {d0 : dH} :
    ∀ (m n nn j : Nat) (v : α) (cs : List Int32) (d : dH), L - j ≤ m → m + 1 < n → m < nn → SM B L j dp d → GM d0 d → EV env d → q < j → xV env (hh + 1) cs (enc v) → OM enc env (hh + 1) B L q dp d0 (Lp n v d) (pCh B L ok gA nn j cs) := by
  intro m
  induction m with
  | zero =>
    intro n nn j v cs d h1 h2 h3 S F hE h6 hV
    obtain ⟨n, rfl⟩ : ∃ z, n = z + 1 := ⟨n - 1, by omega⟩
    obtain ⟨nn, rfl⟩ : ∃ z, nn = z + 1 := ⟨nn - 1, by omega⟩
    obtain ⟨d1, F1, t, f⟩ := St.1 n v d j S
    have pl := pS_le (B := B) S.2.2.1 S.1.2.1
    rw [pCh]
    by_cases k : ok (pC B L (pS B L j)) = true
    · obtain ⟨S1, -⟩ := t k
      have := S1.2.2.1
      omega
    · rw [if_neg k]
      obtain ⟨S1, e1⟩ := f (Bool.eq_false_iff.mpr k)
      exact OM_r e1 (GM_t F F1) S1 (by omega) hV
  | succ m ih =>
    intro n nn j v cs d h1 h2 h3 S F hE h6 hV
    obtain ⟨n, rfl⟩ : ∃ z, n = z + 1 := ⟨n - 1, by omega⟩
    obtain ⟨nn, rfl⟩ : ∃ z, nn = z + 1 := ⟨nn - 1, by omega⟩
    have hP := S.1.2.1
    have hB := S.1.2.2.2.2.2.2
    obtain ⟨d1, F1, t, f⟩ := St.1 n v d j S
    have pl := pS_le (B := B) S.2.2.1 S.1.2.1
    rw [pCh]
    by_cases k : ok (pC B L (pS B L j)) = true
    · obtain ⟨S1, e1⟩ := t k
      have := S1.2.2.1
      rw [if_pos k, e1]
      obtain ⟨ol, or⟩ := hA _ _ S1 (EV_g F1 hE)
      cases hg : gA (pS B L j + 1) with
      | inl e =>
        obtain ⟨w, d2, g1, g2, g3, g4⟩ := ol e hg
        rw [g1]
        simp only [Option.bind_some]
        obtain ⟨n, rfl⟩ : ∃ z, n = z + 1 := ⟨n - 1, by omega⟩
        rw [St.2 n _ d2 (by rw [g3]; exact ofN_ne (by omega))]
        exact OM_l rfl (GM_t F (GM_t F1 g2)) g3 g4
      | inr r =>
        obtain ⟨j2, cs2⟩ := r
        obtain ⟨w, d2, g1, g2, g3, g4, g5⟩ := or j2 cs2 hg
        have j2L := g3.2.2.1
        rw [g1]
        simp only [Option.bind_some]
        refine ih n nn j2 _ _ d2 (by omega) (by omega) (by omega) g3 (GM_t F (GM_t F1 g2)) (EV_g (GM_t F1 g2) hE) (by omega) ?_
        rw [sg_of hB]
        exact xV_join hV g5 (fun st => Jn _ _ _ st (by rw [sg_pC hB]; exact k))
    · rw [if_neg k]
      obtain ⟨S1, e1⟩ := f (Bool.eq_false_iff.mpr k)
      exact OM_r e1 (GM_t F F1) S1 (by omega) hV
theorem beg_M {α : Type} {enc : α → Int32} {hh : Nat} {ok : Int → Bool} {A : dH → Option (α × dH)} {gA : Nat → pR} {jn : Int32 → α → α → α} {Lp : Nat → α → dH → Option (α × dH)} (St : StM B L dp ok A jn Lp) (Jn : JnM enc env ok jn) (hA : RM enc env hh B L dp A gA) {q : Nat} {d : dH} (hL : L ≤ 240) (hE : EV env d) {o : Option (α × dH)} {r : pR} (O : OM enc env hh B L q dp d o r) :
    OM enc env (hh + 1) B L q dp d (o.bind fun rv => Lp dFu rv.1 rv.2) (pBeg B L ok gA r) := by
  obtain ⟨ol, or⟩ := O
  cases r with
  | inl e =>
    obtain ⟨v, d2, g1, g2, g3, g4⟩ := ol e rfl
    rw [g1]
    simp only [Option.bind_some]
    obtain ⟨n, en⟩ : ∃ z, dFu = z + 1 := ⟨19999, rfl⟩
    rw [en, St.2 n _ d2 (by rw [g3]; exact ofN_ne (by omega))]
    exact OM_l rfl g2 g3 g4
  | inr r =>
    obtain ⟨j2, cs2⟩ := r
    obtain ⟨v, d2, g1, g2, g3, g4, g5⟩ := or j2 cs2 rfl
    rw [g1]
    simp only [Option.bind_some]
    exact ch_M St Jn hA (L - j2) dFu 241 j2 v cs2 d2 (Nat.le_refl _) (fuel_lt (by omega)) (by omega) g3 g2 (EV_g g2 hE) g4 (xV_mono g5 (by omega))
end LM
