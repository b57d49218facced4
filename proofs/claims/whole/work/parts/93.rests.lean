/-! PURE: RESTS and ODDS -/
section RS
variable {K : Int} {n w : Nat} {hC hM hC' hM' : dH} {x y : Int32}
theorem RelK_fC (R : RelK K hC hM) (f : fC hC hC') : RelK K hC' hM := RelK_e R f.e (eM_rf _)
theorem RelK_fM (R : RelK K hC hM) (f : fM hM hM') : RelK K hC hM' := RelK_e R (eC_rf _) f.e
theorem C_hasF (R : RelK K hC hM) (f : fC hC hC') {a am b bm : Int32} (ha : Pl hC a) (hb : Pl hC b) (ba : bt 0 3 am) (bb : bt 0 3 bm) : ∃ c : dH, f_X11_has a am b bm hC' = some (gV hC hM a am b bm, c) ∧ fC hC c := by
  have e32 : hC'.1 3 2 = hC.1 3 2 := f.1 3 2 (by omega) (by omega)
  obtain ⟨c, e, g⟩ := C_has (RelK_fC R f) (Pl_c e32 ha) (Pl_c e32 hb) ba bb
  rw [gV_c R ha f (fM_rf _) hb] at e
  exact ⟨c, e, fC_tr f g⟩
theorem M_g0F (R : RelK K hC hM) (f : fM hM hM') {a am b bm : Int32} (ha : Pl hC a) (hb : Pl hC b) (ba : bt 0 3 am) (bb : bt 0 3 bm) : ∃ d : dH, f_X12_gameOf a b am bm 0 hM' = some (gV hC hM a am b bm, d) ∧ fM hM d := by
  obtain ⟨d, e, g⟩ := M_g0 (RelK_fM R f) ha hb ba bb
  rw [gV_c R ha (fC_rf _) f hb] at e
  exact ⟨d, e, fM_tr f g⟩
theorem M_g1F (R : RelK K hC hM) (f : fM hM hM') {a am b bm : Int32} (ha : Pl hC a) (hb : Pl hC b) (ba : bt 0 3 am) (bb : bt 0 3 bm) (hne : a ≠ b) : ∃ d : dH, f_X12_gameOf a b am bm 1 hM' = some (gV hC hM b bm a am, d) ∧ fM hM d := by
  obtain ⟨d, e, g⟩ := M_g1 (RelK_fM R f) ha hb ba bb hne
  rw [gV_c R hb (fC_rf _) f ha] at e
  exact ⟨d, e, fM_tr f g⟩
def nbK (g : Nat → Int32) (v : Int32) : Nat → Nat → Bool
  | 0, _ => true
  | m + 1, k => if v < g k then false else nbK g v m (k + 1)
theorem bt3 {k : Nat} (hx : x.toInt = k) (hk : k < 4) : bt 0 3 x ∧ x = Int32.ofNat k := ⟨⟨by omega, by omega⟩, by rw [i_eq, hx, i_ofNat (by omega)]⟩
theorem lp_nb (R : RelK K hC hM) {a b bm v : Int32} (ha : Pl hC a) (hb : Pl hC b) (bb : bt 0 3 bm) : ∀ (m n k : Nat) (y : Int32) (c : dH), m < n → y.toInt = k → k + m = 4 → fC hC c → ∃ c' : dH, f_X11_hasNoBetter_L14 n a b bm v y c = some (nbK (fun k => gV hC hM a (Int32.ofNat k) b bm) v m k, c') ∧ fC hC c' := by
  intro m
  have k3 : (3 : Int32).toInt = 3 := rfl
  induction m with
  | zero =>
    intro n k y c hn hy hk f
    obtain ⟨n, rfl⟩ : ∃ z, n = z + 1 := ⟨n - 1, by omega⟩
    rw [f_X11_hasNoBetter_L14, if_pos (by rw [i_lt, k3]; omega)]
    exact ⟨c, rfl, f⟩
  | succ m ih =>
    intro n k y c hn hy hk f
    obtain ⟨n, rfl⟩ : ∃ z, n = z + 1 := ⟨n - 1, by omega⟩
    obtain ⟨q1, q2⟩ := bt3 hy (by omega)
    obtain ⟨c1, e1, f1⟩ := C_hasF R f ha hb q1 bb
    rw [f_X11_hasNoBetter_L14, if_neg (by rw [i_lt, k3]; omega), e1, Option.bind_some]
    show ∃ c', (if v < gV hC hM a y b bm then _ else _) = some (if v < gV hC hM a (Int32.ofNat k) b bm then _ else _, c') ∧ _
    rw [← q2]
    by_cases z : v < gV hC hM a y b bm
    · rw [if_pos z, if_pos z]
      exact ⟨c1, rfl, f1⟩
    · rw [if_neg z, if_neg z]
      exact ih n (k + 1) (y + 1) c1 (by omega) (y_suc hy (by omega)) (by omega) f1
def nB (hC hM : dH) (a am b bm : Int32) : Bool := nbK (fun k => gV hC hM a (Int32.ofNat k) b bm) (gV hC hM a am b bm) 4 0
theorem C_nb (R : RelK K hC hM) {a am b bm : Int32} (ha : Pl hC a) (hb : Pl hC b) (ba : bt 0 3 am) (bb : bt 0 3 bm) {c : dH} (f : fC hC c) : ∃ c' : dH, f_X11_hasNoBetter a am b bm c = some (nB hC hM a am b bm, c') ∧ fC hC c' := by
  obtain ⟨c1, e1, f1⟩ := C_hasF R f ha hb ba bb
  unfold f_X11_hasNoBetter
  rw [e1, Option.bind_some]
  exact lp_nb R ha hb bb 4 dFu 0 0 c1 (fuel_lt (by omega)) rfl rfl f1
theorem lp_m48 (R : RelK K hC hM) {a am b bm i many : Int32} (ha : Pl hC a) (hb : Pl hC b) (ba : bt 0 3 am) (bb : bt 0 3 bm) (hne : a ≠ b) {k27 : Int32 → Int32 → Int32 → Int32 → Int32 → dH → Option (Int32 × dH)} {k36 : Int32 → Int32 → Int32 → Int32 → Int32 → Int32 → dH → Option (Int32 × dH)} : ∀ (m n k : Nat) (is : Bool) (y : Int32) (d : dH), m < n → y.toInt = k → k + m = 4 → fM hM d → ∃ d' : dH, f_X12_rests_L48 k27 k36 n a b i many am bm is y d = (if (is && (nbK (fun k => gV hC hM a (Int32.ofNat k) b bm) (gV hC hM a am b bm) m k && nbK (fun k => gV hC hM b (Int32.ofNat k) a am) (gV hC hM b bm a am) m k)) = true then (if many = i then some (10 * am + bm, d') else k36 a b i (many + 1) am (bm + 1) d') else k36 a b i many am (bm + 1) d') ∧ fM hM d' := by
  intro m
  have k4 : (4 : Int32).toInt = 4 := rfl
  induction m with
  | zero =>
    intro n k is y d hn hy hk f
    obtain ⟨n, rfl⟩ : ∃ z, n = z + 1 := ⟨n - 1, by omega⟩
    rw [f_X12_rests_L48, if_neg (by rw [i_lt, k4]; omega)]
    unfold f_X12_rests_J148
    refine ⟨d, ?_, f⟩
    cases is <;> rfl
  | succ m ih =>
    intro n k is y d hn hy hk f
    obtain ⟨n, rfl⟩ : ∃ z, n = z + 1 := ⟨n - 1, by omega⟩
    obtain ⟨q1, q2⟩ := bt3 hy (by omega)
    rw [f_X12_rests_L48, if_pos (by rw [i_lt, k4]; omega)]
    unfold f_X12_rests_J113 f_X12_rests_J114
    have nx := fun is d f => ih n (k + 1) is (y + 1) d (by omega) (y_suc hy (by omega)) (by omega) f
    cases is with
    | false =>
      rw [if_neg (by decide)]
      obtain ⟨d', e, f'⟩ := nx false d f
      exact ⟨d', e, f'⟩
    | true =>
      rw [if_pos rfl]
      obtain ⟨d1, e1, f1⟩ := M_g0F R f ha hb q1 bb
      obtain ⟨d2, e2, f2⟩ := M_g0F R f1 ha hb ba bb
      obtain ⟨d3, e3, f3⟩ := M_g1F R f2 ha hb ba q1 hne
      obtain ⟨d4, e4, f4⟩ := M_g1F R f3 ha hb ba bb hne
      rw [e1, Option.bind_some, e2, Option.bind_some, e3, Option.bind_some, e4, Option.bind_some]
      have u1 : nbK (fun k => gV hC hM a (Int32.ofNat k) b bm) (gV hC hM a am b bm) (m + 1) k = if gV hC hM a am b bm < gV hC hM a y b bm then false else nbK (fun k => gV hC hM a (Int32.ofNat k) b bm) (gV hC hM a am b bm) m (k + 1) := by rw [q2]; rfl
      have u2 : nbK (fun k => gV hC hM b (Int32.ofNat k) a am) (gV hC hM b bm a am) (m + 1) k = if gV hC hM b bm a am < gV hC hM b y a am then false else nbK (fun k => gV hC hM b (Int32.ofNat k) a am) (gV hC hM b bm a am) m (k + 1) := by rw [q2]; rfl
      rw [u1, u2]
      dsimp only
      by_cases z1 : gV hC hM a am b bm < gV hC hM a y b bm
      · rw [if_pos z1, if_pos z1]
        obtain ⟨d', e, f'⟩ := nx false d2 f2
        refine ⟨d', ?_, f'⟩
        rw [e]
        simp only [Bool.false_and, Bool.and_false]
      · rw [if_neg z1, if_neg z1]
        by_cases z2 : gV hC hM b bm a am < gV hC hM b y a am
        · rw [if_pos z2, if_pos z2]
          obtain ⟨d', e, f'⟩ := nx false d4 f4
          refine ⟨d', ?_, f'⟩
          rw [e]
          simp only [Bool.false_and, Bool.and_false]
        · rw [if_neg z2, if_neg z2]
          exact nx true d4 f4
theorem lp_r2 (R : RelK K hC hM) {a am b i : Int32} (ha : Pl hC a) (hb : Pl hC b) (ba : bt 0 3 am) (hne : a ≠ b) {k22 k27 : Int32 → Int32 → Int32 → Int32 → Int32 → dH → Option (Int32 × dH)} (hk : ∀ num c d, fC hC c → fM hM d → ∃ (r : Int32) (c' d' : dH), k22 a b i num (am + 1) c = some (r, c') ∧ k27 a b i num (am + 1) d = some (r, d') ∧ fC hC c' ∧ fM hM d') :
    ∀ (m n n2 k : Nat) (num y : Int32) (c d : dH), m < n → m < n2 → y.toInt = k → k + m = 4 → fC hC c → fM hM d → ∃ (r : Int32) (c' d' : dH), f_X11_rests_L31 k22 n a b i num am y c = some (r, c') ∧ f_X12_rests_L36 k27 n2 a b i num am y d = some (r, d') ∧ fC hC c' ∧ fM hM d' := by
  intro m
  have k4 : (4 : Int32).toInt = 4 := rfl
  have k3 : (3 : Int32).toInt = 3 := rfl
  induction m with
  | zero =>
    intro n n2 k num y c d hn hn2 hy hk4 f g
    obtain ⟨n, rfl⟩ : ∃ z, n = z + 1 := ⟨n - 1, by omega⟩
    obtain ⟨n2, rfl⟩ : ∃ z, n2 = z + 1 := ⟨n2 - 1, by omega⟩
    rw [f_X11_rests_L31, f_X12_rests_L36, if_pos (by rw [i_lt, k3]; omega), if_neg (by rw [i_lt, k4]; omega)]
    exact hk num c d f g
  | succ m ih =>
    intro n n2 k num y c d hn hn2 hy hk4 f g
    obtain ⟨n, rfl⟩ : ∃ z, n = z + 1 := ⟨n - 1, by omega⟩
    obtain ⟨n2, rfl⟩ : ∃ z, n2 = z + 1 := ⟨n2 - 1, by omega⟩
    obtain ⟨q1, q2⟩ := bt3 hy (by omega)
    rw [f_X11_rests_L31, f_X12_rests_L36, if_neg (by rw [i_lt, k3]; omega), if_pos (by rw [i_lt, k4]; omega)]
    obtain ⟨d1, e1, g1⟩ := lp_m48 R (many := num) (i := i) (k27 := k27) (k36 := f_X12_rests_L36 k27 n2) ha hb ba q1 hne 4 dFu 0 true 0 d (fuel_lt (by omega)) rfl rfl g
    obtain ⟨c1, e2, f1⟩ := C_nb R ha hb ba q1 f
    obtain ⟨c2, e3, f2⟩ := C_nb R hb ha q1 ba f1
    have nx := fun num c d f g => ih n n2 (k + 1) num (y + 1) c d (by omega) (by omega) (y_suc hy (by omega)) (by omega) f g
    rw [e1, e2, Option.bind_some]
    unfold f_X11_rests_J81
    have sp : (true && (nbK (fun k => gV hC hM a (Int32.ofNat k) b y) (gV hC hM a am b y) 4 0 && nbK (fun k => gV hC hM b (Int32.ofNat k) a am) (gV hC hM b y a am) 4 0)) = (nB hC hM a am b y && nB hC hM b y a am) := rfl
    rw [sp]
    dsimp only
    by_cases z1 : nB hC hM a am b y = true
    · rw [if_pos z1, e3, Option.bind_some]
      dsimp only
      by_cases z2 : nB hC hM b y a am = true
      · rw [if_pos z2, z1, z2, if_pos (show (true && true) = true from rfl)]
        by_cases z3 : num = i
        · rw [if_pos z3, if_pos z3]
          exact ⟨_, _, _, rfl, rfl, f2, g1⟩
        · rw [if_neg z3, if_neg z3]
          exact nx _ c2 d1 f2 g1
      · rw [if_neg z2, Bool.eq_false_iff.mpr z2, Bool.and_false, if_neg (by decide)]
        exact nx _ c2 d1 f2 g1
    · rw [if_neg z1, Bool.eq_false_iff.mpr z1, Bool.false_and, if_neg (by decide)]
      exact nx _ c1 d1 f1 g1
theorem lp_r1 (R : RelK K hC hM) {a b i : Int32} (ha : Pl hC a) (hb : Pl hC b) (hne : a ≠ b) :
    ∀ (m n n2 k : Nat) (num x : Int32) (c d : dH), m < n → m < n2 → x.toInt = k → k + m = 4 → fC hC c → fM hM d → ∃ (r : Int32) (c' d' : dH), f_X11_rests_L22 n a b i num x c = some (r, c') ∧ f_X12_rests_L27 n2 a b i num x d = some (r, d') ∧ fC hC c' ∧ fM hM d' := by
  intro m
  have k4 : (4 : Int32).toInt = 4 := rfl
  have k3 : (3 : Int32).toInt = 3 := rfl
  induction m with
  | zero =>
    intro n n2 k num x c d hn hn2 hy hk4 f g
    obtain ⟨n, rfl⟩ : ∃ z, n = z + 1 := ⟨n - 1, by omega⟩
    obtain ⟨n2, rfl⟩ : ∃ z, n2 = z + 1 := ⟨n2 - 1, by omega⟩
    rw [f_X11_rests_L22, f_X12_rests_L27, if_pos (show (3 : Int32) < x by rw [i_lt, k3]; omega), if_neg (show ¬ x < 4 by rw [i_lt, k4]; omega)]
    by_cases z : i = -1
    · rw [if_pos z, if_pos z]
      exact ⟨_, _, _, rfl, rfl, f, g⟩
    · rw [if_neg z, if_neg z]
      exact ⟨_, _, _, rfl, rfl, f, g⟩
  | succ m ih =>
    intro n n2 k num x c d hn hn2 hy hk4 f g
    obtain ⟨n, rfl⟩ : ∃ z, n = z + 1 := ⟨n - 1, by omega⟩
    obtain ⟨n2, rfl⟩ : ∃ z, n2 = z + 1 := ⟨n2 - 1, by omega⟩
    obtain ⟨q1, q2⟩ := bt3 hy (by omega)
    rw [f_X11_rests_L22, f_X12_rests_L27, if_neg (by rw [i_lt, k3]; omega), if_pos (by rw [i_lt, k4]; omega)]
    exact lp_r2 R ha hb q1 hne (fun num c d f g => ih n n2 (k + 1) num (x + 1) c d (by omega) (by omega) (y_suc hy (by omega)) (by omega) f g) 4 dFu dFu 0 num 0 c d (fuel_lt (by omega)) (fuel_lt (by omega)) rfl rfl f g
theorem ok_rests : st_rests Rel := by
  intro n hC hM hn R a b i
  have R1 : RelK (60 * n) hC (dPut hM 0 0 0) := R.t0
  unfold aC_rests aM_rests f_X11_rests f_X12_rests
  rw [Option.bind_some]
  generalize dPut hM 0 0 0 = h1 at R1 ⊢
  have C := R1.ct
  rw [← areTwo_eq C]
  by_cases g : f_X11_areTwo a b hC = true
  · obtain ⟨ha, hb, hne⟩ := areTwo_t C g
    rw [if_pos g, if_pos g]
    by_cases q : i < -1
    · rw [if_pos q, if_pos q]
      exact ag rfl rfl (Rel_mono R1)
    · rw [if_neg q, if_neg q]
      obtain ⟨r, c, d, e1, e2, f1, f2⟩ := lp_r1 R1 (i := i) ha hb hne 4 dFu dFu 0 0 0 hC h1 (fuel_lt (by omega)) (fuel_lt (by omega)) rfl rfl (fC_rf _) (fM_rf _)
      rw [e1, e2]
      exact ag rfl rfl (Rel_mono (RelK_e R1 f1.e f2.e))
  · rw [if_neg g, if_neg g]
    exact ag rfl rfl (Rel_mono R1)
/-! a row told -/
theorem dig10 {v : Int32} (hv : 0 ≤ v.toInt) : (v / 10).toInt = v.toInt / 10 ∧ (v - v / 10 * 10).toInt = v.toInt % 10 := by
  have k10 : (10 : Int32).toInt = 10 := rfl
  have r := i_rng v
  have e : (v / 10).toInt = v.toInt / 10 := by
    rw [Int32.toInt_div_of_ne_right v 10 (by decide), k10, Int.tdiv_eq_ediv_of_nonneg hv]
  have e2 : (v / 10 * 10).toInt = v.toInt / 10 * 10 := by rw [i_mul (by rw [e, k10]; omega), e, k10]
  refine ⟨e, ?_⟩
  rw [i_sub (by rw [e2]; omega), e2]
  omega
/-- the row is read: what stands, slot by slot -/
theorem lp_row (C : Ct hC hM) {nn : Int32} : ∀ (m n n2 : Nat) (v us y : Int32) (c d : dH), m < n → m < n2 → y.toInt = (m : Int) - 1 → m ≤ 7 → 0 ≤ v.toInt → (∀ a k, a ≠ 84 → a ≠ 85 → c.1 a k = hC.1 a k) → c.2 = hC.2 → (∀ a k, a ≠ 22 → d.1 a k = hM.1 a k) → d.2 = hM.2 → ∃ (b : Bool) (c' d' : dH), f_X6_read_L27 n nn v us y c = some (b, c') ∧ f_X12_laysRow_L35 n2 v us y d = some (b, d') ∧ (∀ a k, a ≠ 84 → a ≠ 85 → c'.1 a k = hC.1 a k) ∧ (∀ a k, a ≠ 22 → d'.1 a k = hM.1 a k) ∧ d'.2 = hM.2 ∧ (b = true → c'.1 84 3 = nn ∧ (∀ k, k < m → c'.1 85 k = d'.1 22 k ∧ Pl hC (d'.1 22 k))) ∧ (∀ k, m ≤ k → c'.1 85 k = c.1 85 k ∧ d'.1 22 k = d.1 22 k) := by
  intro m
  induction m with
  | zero =>
    intro n n2 v us y c d hn hn2 hy hm hv fc fc2 fd fd2
    obtain ⟨n, rfl⟩ : ∃ z, n = z + 1 := ⟨n - 1, by omega⟩
    obtain ⟨n2, rfl⟩ : ∃ z, n2 = z + 1 := ⟨n2 - 1, by omega⟩
    rw [f_X6_read_L27, f_X12_laysRow_L35, if_pos (by rw [i_lt, t0]; omega), if_pos (by rw [i_lt, t0]; omega), Option.bind_some]
    have fin : ∀ b : Bool, ∃ (b' : Bool) (c' d' : dH), some (b, dPut c 84 3 nn) = some (b', c') ∧ some (b, d) = some (b', d') ∧ (∀ a k, a ≠ 84 → a ≠ 85 → c'.1 a k = hC.1 a k) ∧ (∀ a k, a ≠ 22 → d'.1 a k = hM.1 a k) ∧ d'.2 = hM.2 ∧ (b' = true → c'.1 84 3 = nn ∧ (∀ k, k < 0 → c'.1 85 k = d'.1 22 k ∧ Pl hC (d'.1 22 k))) ∧ (∀ k, 0 ≤ k → c'.1 85 k = c.1 85 k ∧ d'.1 22 k = d.1 22 k) := fun b => ⟨b, _, _, rfl, rfl, fun a k h1 h2 => by rw [dPut_ne (by omega)]; exact fc a k h1 h2, fd, fd2, fun _ => ⟨dPut_at, fun k hk => by omega⟩, fun k _ => ⟨dPut_ne (by omega), rfl⟩⟩
    by_cases z : v = 0
    · rw [if_pos z, if_pos z]
      exact fin true
    · rw [if_neg z, if_neg z]
      exact fin false
  | succ m ih =>
    intro n n2 v us y c d hn hn2 hy hm hv fc fc2 fd fd2
    obtain ⟨n, rfl⟩ : ∃ z, n = z + 1 := ⟨n - 1, by omega⟩
    obtain ⟨n2, rfl⟩ : ∃ z, n2 = z + 1 := ⟨n2 - 1, by omega⟩
    obtain ⟨g1, g2⟩ := dig10 hv
    have dy : dI y = m := dI_of (by omega)
    have hy7 : dIn y 7 := ⟨by omega, by omega⟩
    rw [f_X6_read_L27, f_X12_laysRow_L35, if_neg (by rw [i_lt, t0]; omega), if_neg (by rw [i_lt, t0]; omega)]
    simp only [Option.bind_some]
    generalize ep : v - v / 10 * 10 = p at g2
    have ePc : f_X1_isPlace 3 p c = decide (0 ≤ p.toInt ∧ p.toInt < (hC.1 3 2).toInt) := by rw [C_isPlace, fc 3 2 (by omega) (by omega)]
    have ePd : f_X12_isPlace p d = decide (0 ≤ p.toInt ∧ p.toInt < (hC.1 3 2).toInt) := by rw [M_isPlace, fd 0 24 (by omega), C.np]
    rw [ePc, ePd, has_isIn us p d c]
    have no : ∃ (b : Bool) (c' d' : dH), some (false, c) = some (b, c') ∧ some (false, d) = some (b, d') ∧ (∀ a k, a ≠ 84 → a ≠ 85 → c'.1 a k = hC.1 a k) ∧ (∀ a k, a ≠ 22 → d'.1 a k = hM.1 a k) ∧ d'.2 = hM.2 ∧ (b = true → c'.1 84 3 = nn ∧ (∀ k, k < m + 1 → c'.1 85 k = d'.1 22 k ∧ Pl hC (d'.1 22 k))) ∧ (∀ k, m + 1 ≤ k → c'.1 85 k = c.1 85 k ∧ d'.1 22 k = d.1 22 k) := ⟨false, c, d, rfl, rfl, fc, fd, fd2, (fun z => by cases z), fun _ _ => ⟨rfl, rfl⟩⟩
    by_cases hp : 0 ≤ p.toInt ∧ p.toInt < (hC.1 3 2).toInt
    · rw [if_pos (decide_eq_true hp), if_pos (decide_eq_true hp)]
      by_cases hu : f_X11_isIn us p c = true
      · rw [if_pos hu, if_pos hu]
        exact no
      · rw [if_neg hu, if_neg hu]
        simp only [if_pos hy7, Option.bind_some, dy]
        obtain ⟨b, c', d', e1, e2, h1, h2, h3, h4, h5⟩ := ih n n2 (v / 10) (us ||| 1 <<< (p &&& 31)) (y + -1) (dPut c 85 m p) (dPut d 22 m p) (by omega) (by omega) (by rw [i_add (by rw [tm1]; omega), tm1]; omega) (by omega) (by omega) (fun a k q1 q2 => by rw [dPut_ne (by omega)]; exact fc a k q1 q2) fc2 (fun a k q1 => by rw [dPut_ne (by omega)]; exact fd a k q1) fd2
        refine ⟨b, c', d', e1, e2, h1, h2, h3, fun hb => ⟨(h4 hb).1, fun k hk => ?_⟩, fun k hk => ?_⟩
        · by_cases q : k = m
          · rw [q, (h5 m (by omega)).1, (h5 m (by omega)).2, dPut_at, dPut_at]
            exact ⟨rfl, hp⟩
          · exact (h4 hb).2 k (by omega)
        · rw [(h5 k (by omega)).1, (h5 k (by omega)).2, dPut_ne (by omega), dPut_ne (by omega)]
          exact ⟨rfl, rfl⟩
    · rw [if_neg (by rw [decide_eq_true_iff]; exact hp), if_neg (by rw [decide_eq_true_iff]; exact hp)]
      exact no
/-- the row, both sides -/
theorem R_row (C : Ct hC hM) (x y : Int32) : ∃ (b : Bool) (c d : dH), f_X6_read x y hC = some (b, c) ∧ f_X12_laysRow x y hM = some (b, d) ∧ (∀ a k, a ≠ 84 → a ≠ 85 → c.1 a k = hC.1 a k) ∧ (∀ a k, a ≠ 22 → d.1 a k = hM.1 a k) ∧ d.2 = hM.2 ∧ (b = true → 0 < (hC.1 3 2).toInt ∧ 1 ≤ y.toInt ∧ y.toInt ≤ 7 ∧ c.1 84 3 = y ∧ (∀ k : Nat, (k : Int) < y.toInt → c.1 85 k = d.1 22 k ∧ Pl hC (d.1 22 k))) := by
  have k1 : (1 : Int64).toInt = 1 := rfl
  have k7 : (7 : Int64).toInt = 7 := rfl
  have k7' : (7 : Int32).toInt = 7 := rfl
  unfold f_X6_read f_X12_laysRow
  rw [C.np, M_isIn, k1, k7]
  have no : ∃ (b : Bool) (c d : dH), some (false, hC) = some (b, c) ∧ some (false, hM) = some (b, d) ∧ (∀ a k, a ≠ 84 → a ≠ 85 → c.1 a k = hC.1 a k) ∧ (∀ a k, a ≠ 22 → d.1 a k = hM.1 a k) ∧ d.2 = hM.2 ∧ (b = true → 0 < (hC.1 3 2).toInt ∧ 1 ≤ y.toInt ∧ y.toInt ≤ 7 ∧ c.1 84 3 = y ∧ (∀ k : Nat, (k : Int) < y.toInt → c.1 85 k = d.1 22 k ∧ Pl hC (d.1 22 k))) := ⟨false, hC, hM, rfl, rfl, fun _ _ _ _ => rfl, fun _ _ _ => rfl, rfl, fun z => by cases z⟩
  by_cases ok : 0 ≤ x.toInt ∧ 1 ≤ y.toInt ∧ y.toInt ≤ 7
  · rw [if_neg (show ¬ x < 0 by rw [i_lt, t0]; omega), if_neg (show ¬ y < 1 by rw [i_lt, t1]; omega), if_neg (show ¬ 7 < y by rw [i_lt, k7']; omega), if_pos (show decide (1 ≤ y.toInt ∧ y.toInt ≤ 7) = true from decide_eq_true (by omega)), if_neg (show ¬ x < 0 by rw [i_lt, t0]; omega)]
    have dy := dI_c (x := y) (by omega)
    have ey : (y - 1).toInt = (dI y : Int) - 1 := by rw [i_sub (by rw [t1]; omega), t1]; omega
    obtain ⟨b, c, d, e1, e2, h1, h2, h3, h4, h5⟩ := lp_row C (nn := y) (dI y) dFu dFu x 0 (y - 1) hC hM (fuel_lt (by omega)) (fuel_lt (by omega)) ey (by omega) ok.1 (fun _ _ _ _ => rfl) rfl (fun _ _ _ => rfl) rfl
    by_cases hp : hC.1 3 2 = 0
    · -- no CITY: no digit is a PLACE
      rw [if_pos hp]
      have e : f_X6_read_L27 dFu y x 0 (y - 1) hC = some (false, hC) := by
        obtain ⟨g1, g2⟩ := dig10 ok.1
        rw [show dFu = 19999 + 1 from rfl, f_X6_read_L27, if_neg (by rw [i_lt, t0, ey]; omega), Option.bind_some, C_isPlace, if_neg (by rw [decide_eq_true_iff, hp, t0]; omega)]
      rw [e]
      exact no
    · rw [if_neg hp, e1, e2]
      refine ⟨b, c, d, rfl, rfl, h1, h2, h3, fun hb => ⟨?_, ok.2.1, ok.2.2, (h4 hb).1, fun k hk => (h4 hb).2 k (by omega)⟩⟩
      rw [i_eq, t0] at hp
      have := C.ge
      omega
  · have eC : (if x < 0 then some (false, hC) else if y < 1 then some (false, hC) else if 7 < y then some (false, hC) else f_X6_read_L27 dFu y x 0 (y - 1) hC) = some (false, hC) := by
      by_cases a : x < 0
      · rw [if_pos a]
      · rw [if_neg a]
        by_cases b : y < 1
        · rw [if_pos b]
        · rw [if_neg b, if_pos]
          rw [i_lt, t0] at a
          rw [i_lt, t1] at b
          rw [i_lt, k7']
          omega
    have eM : (if hC.1 3 2 = 0 then some (false, hM) else if decide (1 ≤ y.toInt ∧ y.toInt ≤ 7) = true then if x < 0 then some (false, hM) else f_X12_laysRow_L35 dFu x 0 (y - 1) hM else some (false, hM)) = some (false, hM) := by
      by_cases a : hC.1 3 2 = 0
      · rw [if_pos a]
      · rw [if_neg a]
        by_cases b : 1 ≤ y.toInt ∧ y.toInt ≤ 7
        · rw [if_pos (decide_eq_true b), if_pos]
          rw [i_lt, t0]
          omega
        · rw [if_neg (by rw [decide_eq_true_iff]; exact b)]
    rw [eC, eM]
    exact no
end RS
