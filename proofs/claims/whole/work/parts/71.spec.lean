/-! PURE: what a LAW's text says: the row of codes in which signs stand behind what they join (a number itself, a letter -1 .. -6, a sign its byte, negative) -/
abbrev pR : Type := Nat ⊕ (Nat × List Int32)
def pSk (B : Nat → Nat) (L : Nat) : Nat → Nat → Nat
  | 0, i => i
  | n + 1, i => if i < L ∧ B i = 32 then pSk B L n (i + 1) else i
def pS (B : Nat → Nat) (L i : Nat) : Nat := pSk B L 256 i
/-- the sign at a point: -1 behind the end -/
def pC (B : Nat → Nat) (L i : Nat) : Int := if i < L then (B i : Int) else -1
def pDig (B : Nat → Nat) (L i : Nat) : Bool := decide (i < L ∧ 48 ≤ B i ∧ B i ≤ 57)
/-- a number of at most m digits more, v so far: from the point -/
def pNum (B : Nat → Nat) (L : Nat) : Nat → Nat → Nat → Nat ⊕ (Nat × Nat)
  | 0, i, v => if pDig B L i then .inl i else .inr (i, v)
  | m + 1, i, v => if pDig B L i then pNum B L m (i + 1) (10 * v + (B i - 48)) else .inr (i, v)
def pLet (c : Int) : Option Nat :=
  if c = 107 then some 0 else if c = 118 then some 1 else if c = 111 then some 2 else if c = 104 then some 3 else if c = 110 then some 4 else if c = 116 then some 5 else none
def pAt (B : Nat → Nat) (L : Nat) (S : Option (Nat → pR)) (q : Nat) : pR :=
  let i := pS B L q
  let c := pC B L i
  if c = 91 then
    match S with
    | none => .inl i
    | some S => match S (i + 1) with
      | .inl e => .inl e
      | .inr (j, cs) => if pC B L (pS B L j) = 93 then .inr (pS B L j + 1, cs) else .inl (pS B L j)
  else match pLet c with
    | some k => .inr (i + 1, [-1 - Int32.ofNat k])
    | none => if pDig B L i then
        match pNum B L 4 i 0 with
        | .inl e => .inl e
        | .inr (j, v) => .inr (j, [Int32.ofNat v])
      else .inl i
/-- a chain: more of A, joined by signs that are told by ok -/
def pCh (B : Nat → Nat) (L : Nat) (ok : Int → Bool) (A : Nat → pR) : Nat → Nat → List Int32 → pR
  | 0, j, cs => .inr (pS B L j, cs)
  | n + 1, j, cs =>
    if ok (pC B L (pS B L j)) then
      match A (pS B L j + 1) with
      | .inl e => .inl e
      | .inr (j2, cs2) => pCh B L ok A n j2 (cs ++ cs2 ++ [-Int32.ofInt (pC B L (pS B L j))])
    else .inr (pS B L j, cs)
def pBeg (B : Nat → Nat) (L : Nat) (ok : Int → Bool) (A : Nat → pR) (r : pR) : pR := match r with
  | .inl e => .inl e
  | .inr (j, cs) => pCh B L ok A 241 j cs
def okT (c : Int) : Bool := decide (c = 42 ∨ c = 47)
def okS (c : Int) : Bool := decide (c = 43 ∨ c = 45)
def okA (c : Int) : Bool := decide (c = 38)
def okO (c : Int) : Bool := decide (c = 124)
def okC (c : Int) : Bool := decide (c = 61 ∨ c = 60 ∨ c = 62)
def pTm (B : Nat → Nat) (L : Nat) (A : Nat → pR) (q : Nat) : pR := pBeg B L okT A (A q)
def pSm (B : Nat → Nat) (L : Nat) (T : Nat → pR) (q : Nat) : pR := pBeg B L okS T (T q)
/-- a SUM that may hold k nestings more -/
def pSum (B : Nat → Nat) (L : Nat) : Nat → Nat → pR
  | 0, q => pSm B L (pTm B L (pAt B L none)) q
  | k + 1, q => pSm B L (pTm B L (pAt B L (some (pSum B L k)))) q
def pAtm (B : Nat → Nat) (L k : Nat) : Nat → pR := pAt B L (match k with | 0 => none | k + 1 => some (pSum B L k))
/-- behind its first SUM -/
def pCmp (B : Nat → Nat) (L k : Nat) (r : pR) : pR := match r with
  | .inl e => .inl e
  | .inr (j, cs) =>
    if okC (pC B L (pS B L j)) then
      match pSum B L k (pS B L j + 1) with
      | .inl e => .inl e
      | .inr (j2, cs2) => .inr (j2, cs ++ cs2 ++ [-Int32.ofInt (pC B L (pS B L j))])
    else .inl (pS B L j)
/-- a UNIT: N is, one nesting further in, the CONDITION and the UNIT -/
def pUn (B : Nat → Nat) (L k : Nat) (N : Option ((Nat → pR) × (Nat → pR))) (q : Nat) : pR :=
  let i := pS B L q
  let c := pC B L i
  if c = 33 then
    match N with
    | none => .inl i
    | some N => match N.2 (i + 1) with
      | .inl e => .inl e
      | .inr (j, cs) => .inr (j, cs ++ [-33])
  else if c = 40 then
    match N with
    | none => .inl i
    | some N => match N.1 (i + 1) with
      | .inl e => .inl e
      | .inr (j, cs) => if pC B L (pS B L j) = 41 then .inr (pS B L j + 1, cs) else .inl (pS B L j)
  else pCmp B L k (pSum B L k q)
def pTr (B : Nat → Nat) (L : Nat) (U : Nat → pR) (r : pR) : pR := pBeg B L okA U r
def pCo (B : Nat → Nat) (L : Nat) (U : Nat → pR) (r : pR) : pR := pBeg B L okO (fun q => pTr B L U (U q)) (pTr B L U r)
def pUnit (B : Nat → Nat) (L : Nat) : Nat → Nat → pR
  | 0, q => pUn B L 0 none q
  | k + 1, q => pUn B L (k + 1) (some (fun q => pCo B L (pUnit B L k) (pUnit B L k q), pUnit B L k)) q
def pCond (B : Nat → Nat) (L k : Nat) (r : pR) : pR := pCo B L (pUnit B L k) r
/-- behind a CONDITION: ? and a SUM -/
def pThen (B : Nat → Nat) (L : Nat) (r : pR) : pR := match r with
  | .inl e => .inl e
  | .inr (j, cs) => if pC B L (pS B L j) = 63 then
      match pSum B L 6 (pS B L j + 1) with
      | .inl e => .inl e
      | .inr (j2, cs2) => .inr (j2, cs ++ [-63] ++ cs2 ++ [-59])
    else .inl (pS B L j)
def pCla (B : Nat → Nat) (L q : Nat) : pR :=
  let i := pS B L q
  if pC B L i = 121 then
    let i2 := pS B L (i + 1)
    if pC B L i2 = 58 then
      let i3 := pS B L (i2 + 1)
      if pC B L i3 = 33 ∨ pC B L i3 = 40 then pThen B L (pCond B L 6 (pUnit B L 6 (i2 + 1)))
      else match pSum B L 6 (i2 + 1) with
        | .inl e => .inl e
        | .inr (j, cs) => if okC (pC B L (pS B L j)) then pThen B L (pCond B L 6 (pCmp B L 6 (.inr (j, cs)))) else .inr (pS B L j, cs ++ [-59])
    else .inl i2
  else .inl i
def pLawL (B : Nat → Nat) (L : Nat) : Nat → Nat → List Int32 → Nat ⊕ List Int32
  | 0, j, _ => .inl j
  | n + 1, q, cs => match pCla B L q with
    | .inl e => .inl e
    | .inr (j, cs2) => if pC B L (pS B L j) = -1 then .inr (cs ++ cs2) else if pC B L (pS B L j) = 59 then pLawL B L n (pS B L j + 1) (cs ++ cs2) else .inl (pS B L j)
/-- the LAW that a text tells, or where it is wrong -/
def pLaw (B : Nat → Nat) (L : Nat) : Nat ⊕ List Int32 := pLawL B L 241 0 []
/-! what a row of codes is worth -/
def xJ (c : Int32) (a b : Int) : Int :=
  if c = -43 then a + b else if c = -45 then a - b else if c = -42 then a * b else if c = -47 then (if b = 0 then 0 else Int.tdiv a b) else if c = -61 then (if a = b then 1 else 0) else if c = -60 then (if a < b then 1 else 0) else if c = -62 then (if b < a then 1 else 0) else if c = -38 then (if a = 1 ∧ b = 1 then 1 else 0) else (if a = 1 ∨ b = 1 then 1 else 0)
def xH (v : Int) : Int32 := Int32.ofInt (max (-1000000) (min 1000000 v))
/-- one code on a stack, its top first -/
def xC (env : Nat → Int32) (c : Int32) : List Int32 → Option (List Int32)
  | st => if (0 : Int) ≤ c.toInt then some (c :: st) else if -6 ≤ c.toInt then some (env (-1 - c.toInt).toNat :: st) else
    if c = -33 then (match st with | a :: r => some ((1 - a) :: r) | _ => none) else match st with
      | b :: a :: r => some (xH (xJ c a.toInt b.toInt) :: r)
      | _ => none
def xR (env : Nat → Int32) : List Int32 → List Int32 → Option (List Int32)
  | [], st => some st
  | c :: cs, st => match xC env c st with
    | some st => xR env cs st
    | none => none
/-- a whole row: what it is worth; skips: behind a CONDITION that doesn't hold -/
def xW (env : Nat → Int32) : List Int32 → Bool → List Int32 → Option Int32
  | [], _, _ => some 0
  | c :: cs, true, st => xW env cs (decide (c ≠ -59)) st
  | c :: cs, false, st => if c = -59 then (match st with | a :: _ => some a | _ => none) else if c = -63 then (match st with | a :: r => xW env cs (decide (a = 0)) r | _ => none) else match xC env c st with
    | some st => xW env cs false st
    | none => none
def xWorth (env : Nat → Int32) (cs : List Int32) : Int32 := (xW env cs false []).getD 0
