/-! PURE: class and reference side by side -/
/-- the byte that an int of a byte row is -/
def bOf (x : Int32) : Nat := (x.toInt % 256).toNat
/-- the STEPS that a CITY's rows tell: HOME first -/
def tX (sp : Nat → Nat → Int32) (i w : Nat) : Int32 := if i = 0 then 0 else sp (i - 1) w
def cSp (h : dH) : Nat → Nat → Int32 := fun p k => if p < 7 then h.1 (6 + p) k else 0
def cWy (h : dH) : Nat → Nat → Int32 := fun p k => if p < 8 then h.1 (14 + p) k else 0
def bt (a b : Int) (x : Int32) : Prop := a ≤ x.toInt ∧ x.toInt ≤ b
def rTape (l : Int32) (b : Nat → Int32) (l' : Int32) (t : Nat → Int32) : Prop :=
  l = l' ∧ bt 0 240 l ∧ ∀ k : Nat, (k : Int) < l.toInt → bt 1 255 (b k) ∧ (t k).toInt = if (b k).toInt < 128 then (b k).toInt else (b k).toInt - 256
def cityW (np : Int32) (r : Nat → Int32) (sp : Nat → Nat → Int32) : Prop :=
  (np.toInt = 0 ∧ (r 0).toInt = 0 ∨ bt 2 7 np) ∧ bt 0 60 (r 0) ∧ bt 0 60 (r 1) ∧ bt 0 9 (r 2) ∧ (∀ p : Nat, (p : Int) < np.toInt → bt 0 9 (sp p 0) ∧ bt 0 9 (sp p 1) ∧ bt 0 3 (sp p 2) ∧ bt 0 9 (sp p 3) ∧ bt 0 30 (sp p 4))
def rCity (np : Int32) (r : Nat → Int32) (sp wy : Nat → Nat → Int32) (np' : Int32) (r' tl : Nat → Int32) : Prop :=
  np = np' ∧ cityW np r sp ∧ (∀ k : Nat, k < 3 → r k = r' k) ∧ (∀ p : Nat, (p : Int) < np.toInt → ∀ k : Nat, k < 5 → sp p k = tl (5 * p + k)) ∧
  (∀ i j : Nat, (i : Int) ≤ np.toInt → (j : Int) ≤ np.toInt → wy i j = jabs (tX sp i 0 - tX sp j 0) + jabs (tX sp i 1 - tX sp j 1))
/-- a stand: the class's cells, the reference's row -/
def sR (c m : Nat → Int32) : Prop :=
  m 23 - 1 = c 0 ∧ c 1 = m 21 ∧ c 2 = m 22 ∧ c 3 = m 24 ∧ c 4 = m 25 ∧ c 5 = m 26 ∧ c 6 = m 27 ∧ ∀ p : Nat, p < 7 → c (7 + p) = m (3 * p + 2) ∧ c (14 + p) = m (3 * p) ∧ c (21 + p) = m (3 * p + 1)
/-- behind at most K ACTS -/
def sW (np : Int32) (r : Nat → Int32) (K : Int) (c : Nat → Int32) : Prop :=
  (-1 ≤ (c 0).toInt ∧ (c 0).toInt < np.toInt ∨ (c 0).toInt = -1) ∧ (0 ≤ (c 1).toInt ∧ (c 1).toInt ≤ (r 1).toInt) ∧ (0 ≤ (c 2).toInt ∧ (c 2).toInt ≤ (r 0).toInt) ∧ bt 0 (9 * K) (c 3) ∧ bt 0 (9 * K) (c 4) ∧ bt 0 999 (c 6) ∧
  (∀ p : Nat, p < 7 → (0 ≤ (c (7 + p)).toInt ∧ (c (7 + p)).toInt ≤ (c 1).toInt) ∧ bt 0 (30 * K) (c (14 + p)) ∧ bt 0 30 (c (21 + p)) ∧ (np.toInt ≤ p → c (7 + p) = 0 ∧ c (14 + p) = 0))
/-- the LOG of a reference's row, against a diary -/
def gR (d : Nat → Int32) (c m : Nat → Int32) : Prop :=
  (m 28).toInt = min 60 (c 6).toInt ∧ ∀ i w : Nat, (i : Int) < (m 28).toInt → w < 3 → m (29 + 3 * ((m 28).toInt.toNat - 1 - i) + w) = d ((((c 6).toInt.toNat - 1 - i) % 100) * 3 + w)
/-- what was kept of ACTS: slots and rows, the oldest first -/
def uSlot (number next i : Nat) : Nat := (next + 40 - number + i) % 40
def uC (rows : Nat → Int32) (j : Nat) : Nat → Int32 := fun k => rows (28 * j + k)
def uM (rows : Nat → Int32) (i : Nat) : Nat → Int32 := fun k => rows (209 * i + k)
def rUndo (np : Int32) (r : Nat → Int32) (K : Int) (d : Nat → Int32) (number next : Int32) (rows : Nat → Int32) (now : Nat → Int32) (acts : Int32) (rowsM : Nat → Int32) : Prop :=
  number = acts ∧ bt 0 40 number ∧ bt 0 39 next ∧
  (∀ i : Nat, (i : Int) < number.toInt → sR (uC rows (uSlot (dI number) (dI next) i)) (uM rowsM i) ∧ sW np r K (uC rows (uSlot (dI number) (dI next) i)) ∧ gR d (uC rows (uSlot (dI number) (dI next) i)) (uM rowsM i)) ∧
  (∀ i : Nat, (i : Int) < number.toInt → ∀ e : Int32, e = (if i + 1 = dI number then now 6 else uC rows (uSlot (dI number) (dI next) (i + 1)) 6) → (uC rows (uSlot (dI number) (dI next) i) 6).toInt ≤ e.toInt ∧ e.toInt ≤ (uC rows (uSlot (dI number) (dI next) i) 6).toInt + 1)
def rImage (np : Int32) (r : Nat → Int32) (K : Int) (has has' : Int32) (c d m : Nat → Int32) : Prop :=
  has = has' ∧ (has = 0 ∨ has = 1) ∧ (has = 1 → 0 < np.toInt ∧ sR c m ∧ sW np r K c ∧ gR d c m)
def tOf (tx : Nat → Int32) (j : Nat) : Nat → Nat := fun k => bOf (tx (240 * j + k))
def rLaws (kept holding : Int32) (codes : Nat → Nat → Int32) (sizes : Nat → Int32) (many law : Int32) (tx ln : Nat → Int32) : Prop :=
  kept = many ∧ holding = law ∧ bt 0 4 kept ∧ (-1 ≤ holding.toInt ∧ holding.toInt < kept.toInt ∨ holding.toInt = -1) ∧
  (∀ j : Nat, (j : Int) < kept.toInt → bt 0 240 (ln j) ∧ (∀ k : Nat, (k : Int) < (ln j).toInt → bt (-128) 127 (tx (240 * j + k))) ∧ ∃ cs : List Int32, pLaw (tOf tx j) (dI (ln j)) = .inr cs ∧ cs.length ≤ 240 ∧ (sizes j).toInt = cs.length ∧ ∀ i : Nat, (hi : i < cs.length) → codes j i = cs[i])
/-- what a LAW is worth, by the reference's texts -/
def wS (tx ln : Nat → Int32) (j : Nat) (env : Nat → Int32) : Int32 := match pLaw (tOf tx j) (dI (ln j)) with
  | .inr cs => xWorth env cs
  | .inl _ => 0
def mKey (j : Nat) (env : Nat → Int32) : Int := (((((((j : Int) + 1) * 4 + (env 0).toInt) * 20 + (env 1).toInt) * 40 + (env 2).toInt) * 200 + (env 3).toInt) * 200 + (env 4).toInt) * 200 + (env 5).toInt
def eOK (env : Nat → Int32) : Prop := bt 0 3 (env 0) ∧ bt 0 19 (env 1) ∧ bt 0 39 (env 2) ∧ bt 0 199 (env 3) ∧ bt 0 199 (env 4) ∧ bt 0 199 (env 5)
def rMemo (many : Int32) (tx ln : Nat → Int32) (keys : Nat → Int64) (vals : Nat → Int32) : Prop :=
  ∀ (s : Nat), s < 8191 → (keys s).toInt = 0 ∨ ∃ (j : Nat) (env : Nat → Int32), (j : Int) < many.toInt ∧ eOK env ∧ (keys s).toInt = mKey j env ∧ vals s = wS tx ln j env
def rDays (kept plans : Int32) (whats digits : Nat → Nat → Int32) (sizes plan long : Nat → Int32) : Prop :=
  kept = plans ∧ bt 0 4 kept ∧ ∀ j : Nat, (j : Int) < kept.toInt → sizes j = long j ∧ bt 1 16 (sizes j) ∧ ∀ i : Nat, (i : Int) < (sizes j).toInt → whats j i = plan (2 * (16 * j + i)) ∧ digits j i = plan (2 * (16 * j + i) + 1) ∧ bt 0 3 (whats j i) ∧ bt (-1) 9 (digits j i)
def rPuts (np : Int32) (puts notes : Int32) (a b c a' b' c' : Nat → Int32) : Prop :=
  puts = notes ∧ bt 0 10 puts ∧ ∀ i : Nat, (i : Int) < puts.toInt → a i = a' i ∧ b i = b' i ∧ c i = c' i ∧ (0 ≤ (a i).toInt ∧ (a i).toInt < np.toInt) ∧ (c i = 0 ∨ c i = 1) ∧ bt 0 60 (b i)
def dXt (h : dH) : Prop := ∀ a k : Nat, 1000 ≤ a → h.1 a k = (dH0 1).1 a k
def cCo (h : dH) : Nat → Nat → Int32 := fun j i => if j < 4 then h.1 (45 + j) i else 0
def cWh (h : dH) : Nat → Nat → Int32 := fun j i => if j < 4 then h.1 (54 + j) i else 0
def cDg (h : dH) : Nat → Nat → Int32 := fun j i => if j < 4 then h.1 (60 + j) i else 0
/-- behind at most K ACTS -/
def RelK (K : Int) (hC hM : dH) : Prop :=
  rTape (hC.1 1 1) (hC.1 2) (hM.1 0 6) (hM.1 1) ∧
  rCity (hC.1 3 2) (hC.1 4) (cSp hC) (cWy hC) (hM.1 0 24) (hM.1 5) (hM.1 7) ∧
  rLaws (hC.1 42 1) (hC.1 42 2) (cCo hC) (hC.1 50) (hM.1 0 7) (hM.1 0 30) (hM.1 2) (hM.1 3) ∧
  rMemo (hM.1 0 7) (hM.1 2) (hM.1 3) (hM.2.1 13) (hM.1 14) ∧
  rDays (hC.1 52 0) (hM.1 0 26) (cWh hC) (cDg hC) (hC.1 65) (hM.1 9) (hM.1 10) ∧
  (sR (hC.1 67) (hM.1 11) ∧ sW (hC.1 3 2) (hC.1 4) K (hC.1 67) ∧ gR (hC.1 73) (hC.1 67) (hM.1 11)) ∧
  rUndo (hC.1 3 2) (hC.1 4) K (hC.1 73) (hC.1 70 0) (hC.1 70 2) (hC.1 71) (hC.1 67) (hM.1 0 35) (hM.1 15) ∧
  rImage (hC.1 3 2) (hC.1 4) K (hC.1 0 15) (hM.1 0 54) (hC.1 74) (hC.1 76) (hM.1 23) ∧
  rPuts (hC.1 3 2) (hC.1 77 0) (hM.1 0 47) (hC.1 78) (hC.1 79) (hC.1 80) (hM.1 17) (hM.1 18) (hM.1 21) ∧
  (hC.1 0 16 = hM.1 0 31 ∧ bt 0 9 (hC.1 0 16)) ∧ dXt hC
def Rel (n : Nat) (hC hM : dH) : Prop := RelK (60 * n) hC hM
