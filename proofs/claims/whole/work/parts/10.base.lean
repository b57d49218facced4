/-! THE LOGIC: a world of cells at places 0, 1, 2 ..; B: from a point of a method's code it returns; T: a method's contract -/
abbrev dH : Type := (Nat → Nat → Int32) × (Nat → Nat → Int64) × Nat
abbrev dS : Type := Nat ⊕ (Nat × Nat)
abbrev dX : Type := List dS × (Nat → Nat → Nat → Option Nat)
abbrev dG : Type := va_G × (Nat → ClassId) × (Nat → Nat)
def dv (G : dG) : Value → Value
  | .ref k => .ref (G.2.2 k)
  | v => v
theorem dv_cat (G : dG) (v : Value) : (dv G v).category = v.category := by cases v <;> rfl
def dTy (ci k : Nat) : FieldType := match ci with
  | 0 => tyX0 k
  | 1 => tyX1 k
  | 2 => tyX2 k
  | 3 => tyX3 k
  | 4 => tyX4 k
  | 5 => tyX5 k
  | 6 => tyX6 k
  | 7 => tyX7 k
  | 8 => tyX8 k
  | 9 => tyX9 k
  | 10 => tyX10 k
  | 11 => tyX11 k
  | _ => tyX12 k
def dN (ci : Nat) : Nat := match vwCl[ci]? with
  | some q => q.2.2
  | none => 0
def dFv (X : dX) (G : dG) (h : dH) (a ci k : Nat) : Value := match dTy ci k with
  | .int => .int (h.1 a k)
  | .boolean => .int (h.1 a k)
  | .long => .long (h.2.1 a k)
  | .object _ => va_rf ((X.2 h.2.2 a k).map G.2.2)
  | .array _ => va_rf ((X.2 h.2.2 a k).map G.2.2)
  | _ => .null
def dEl (X : dX) (G : dG) (h : dH) (a : Nat) : dS → va_E
  | .inl ci => .inr (ci, (List.range (dN ci)).map (dFv X G h a ci))
  | .inr (0, n) => .inl (G.2.1 0, n, .inl (h.1 a))
  | .inr (1, n) => .inl (G.2.1 1, n, .inl (h.1 a))
  | .inr (2, n) => .inl (G.2.1 2, n, .inl (h.1 a))
  | .inr (3, n) => .inl (G.2.1 3, n, .inr (.inl (h.2.1 a)))
  | .inr (_, n) => .inl (G.2.1 4, n, .inr (.inr (.inr (.inr (fun i => (X.2 h.2.2 a i).map G.2.2)))))
def dTys (G : dG) : List (ClassId × FieldType) := [(G.2.1 0, .int), (G.2.1 1, .byte), (G.2.1 2, .boolean), (G.2.1 3, .long), (G.2.1 4, .array .int)]
def dW (X : dX) (G : dG) (h : dH) : va_W := X.1.mapIdx (fun a s => (G.2.2 a, dEl X G h a s))
theorem dW_get {X : dX} {G : dG} {h : dH} {a : Nat} {s : dS} (hs : X.1[a]? = some s) : (dW X G h)[a]? = some (G.2.2 a, dEl X G h a s) := by
  unfold dW
  rw [List.getElem?_mapIdx, hs]
  rfl
theorem dW_len {X : dX} {G : dG} {h : dH} : (dW X G h).length = X.1.length := by simp [dW]
def dPut (h : dH) (a k : Nat) (v : Int32) : dH := (fun b j => if b = a ∧ j = k then v else h.1 b j, h.2.1, h.2.2)
def dPutL (h : dH) (a k : Nat) (v : Int64) : dH := (h.1, fun b j => if b = a ∧ j = k then v else h.2.1 b j, h.2.2)
def dPutT (h : dH) (t : Nat) : dH := (h.1, h.2.1, t)
/-- a stretch of one int row copied onto another -/
def dCpy (h : dH) (a b sp dp n : Nat) : dH := (fun c j => if c = b then va_cpy (h.1 a) (h.1 b) sp dp n j else h.1 c j, h.2.1, h.2.2)
theorem dPut_row_ne (h : dH) {a b : Nat} (k : Nat) (v : Int32) (e : b ≠ a) : (dPut h a k v).1 b = h.1 b := by
  funext j
  simp [dPut, e]
theorem dPut_row (h : dH) (a k : Nat) (v : Int32) : (dPut h a k v).1 a = upd (h.1 a) k v := by
  funext j
  simp [dPut, upd]
theorem dPutL_row_ne (h : dH) {a b : Nat} (k : Nat) (v : Int64) (e : b ≠ a) : (dPutL h a k v).2.1 b = h.2.1 b := by
  funext j
  simp [dPutL, e]
theorem dPutL_row (h : dH) (a k : Nat) (v : Int64) : (dPutL h a k v).2.1 a = vp_updL (h.2.1 a) k v := by
  funext j
  simp [dPutL, vp_updL]
/-- what a cell's entry hangs on: its own rows, and where the one that moves points -/
theorem dEl_eq {X : dX} {G : dG} {h h2 : dH} {a : Nat} (s : dS) (e1 : h.1 a = h2.1 a) (e2 : h.2.1 a = h2.2.1 a) (e3 : h.2.2 = h2.2.2) : dEl X G h a s = dEl X G h2 a s := by
  have ef : ∀ ci k, dFv X G h a ci k = dFv X G h2 a ci k := by
    intro ci k
    unfold dFv
    rw [e1, e2, e3]
  cases s with
  | inl ci =>
    show Sum.inr (ci, _) = Sum.inr (ci, _)
    rw [List.map_congr_left fun k _ => ef ci k]
  | inr q =>
    obtain ⟨t, n⟩ := q
    match t with
    | 0 => show Sum.inl (_, n, Sum.inl (h.1 a)) = _; rw [e1]; rfl
    | 1 => show Sum.inl (_, n, Sum.inl (h.1 a)) = _; rw [e1]; rfl
    | 2 => show Sum.inl (_, n, Sum.inl (h.1 a)) = _; rw [e1]; rfl
    | 3 => show Sum.inl (_, n, Sum.inr (Sum.inl (h.2.1 a))) = _; rw [e2]; rfl
    | t + 4 => show Sum.inl (_, n, _) = _; rw [e3]; rfl
/-- a world of which one cell alone has changed -/
theorem dW_set {X : dX} {G : dG} {h h2 : dH} {a : Nat} {s : dS} {el : va_E} (hs : X.1[a]? = some s) (hel : dEl X G h2 a s = el) (hne : ∀ b, b ≠ a → h.1 b = h2.1 b ∧ h.2.1 b = h2.2.1 b) (e3 : h.2.2 = h2.2.2) : (dW X G h).set a (G.2.2 a, el) = dW X G h2 := by
  apply List.ext_getElem?
  intro i
  rw [List.getElem?_set]
  by_cases e : a = i
  · subst e
    have hl : a < (dW X G h).length := by rw [dW_len]; exact (List.getElem?_eq_some_iff.mp hs).1
    rw [if_pos rfl, if_pos hl, dW_get hs, hel]
  · rw [if_neg e]
    unfold dW
    rw [List.getElem?_mapIdx, List.getElem?_mapIdx]
    cases X.1[i]? with
    | none => rfl
    | some q =>
      obtain ⟨g1, g2⟩ := hne i (fun z => e z.symm)
      show some (G.2.2 i, dEl X G h i q) = some (G.2.2 i, dEl X G h2 i q)
      rw [dEl_eq q g1 g2 e3]
theorem dW_put {X : dX} {G : dG} {h : dH} {a ci k : Nat} {v : Int32} (hs : X.1[a]? = some (.inl ci)) (hk : k < dN ci) (ht : dTy ci k = .int ∨ dTy ci k = .boolean) :
    (dW X G h).set a (G.2.2 a, .inr (ci, ((List.range (dN ci)).map (dFv X G h a ci)).set k (.int v))) = dW X G (dPut h a k v) := by
  refine dW_set hs ?_ (fun b hb => ⟨(dPut_row_ne h k v hb).symm, rfl⟩) rfl
  show Sum.inr (ci, _) = Sum.inr (ci, _)
  congr 2
  apply List.ext_getElem?
  intro i
  rw [List.getElem?_set, List.getElem?_map]
  by_cases e : k = i
  · subst e
    rw [if_pos rfl, if_pos (by simpa using hk), List.getElem?_range hk]
    show some (dFv X G (dPut h a k v) a ci k) = some (.int v)
    unfold dFv
    rcases ht with q | q <;> rw [q] <;> simp [dPut]
  · rw [if_neg e, List.getElem?_map]
    by_cases hi : i < dN ci
    · rw [List.getElem?_range hi]
      show some (dFv X G (dPut h a k v) a ci i) = some (dFv X G h a ci i)
      unfold dFv
      have e2 : (dPut h a k v).1 a i = h.1 a i := by simp [dPut, Ne.symm e]
      rw [e2]
      rfl
    · rw [List.getElem?_eq_none (by simpa using Nat.not_lt.mp hi)]
      rfl
theorem dW_putL {X : dX} {G : dG} {h : dH} {a ci k : Nat} {v : Int64} (hs : X.1[a]? = some (.inl ci)) (hk : k < dN ci) (ht : dTy ci k = .long) :
    (dW X G h).set a (G.2.2 a, .inr (ci, ((List.range (dN ci)).map (dFv X G h a ci)).set k (.long v))) = dW X G (dPutL h a k v) := by
  refine dW_set hs ?_ (fun b hb => ⟨rfl, (dPutL_row_ne h k v hb).symm⟩) rfl
  show Sum.inr (ci, _) = Sum.inr (ci, _)
  congr 2
  apply List.ext_getElem?
  intro i
  rw [List.getElem?_set, List.getElem?_map]
  by_cases e : k = i
  · subst e
    rw [if_pos rfl, if_pos (by simpa using hk), List.getElem?_range hk]
    show some (dFv X G (dPutL h a k v) a ci k) = some (.long v)
    unfold dFv
    rw [ht]
    simp [dPutL]
  · rw [if_neg e, List.getElem?_map]
    by_cases hi : i < dN ci
    · rw [List.getElem?_range hi]
      show some (dFv X G (dPutL h a k v) a ci i) = some (dFv X G h a ci i)
      unfold dFv
      have e2 : (dPutL h a k v).2.1 a i = h.2.1 a i := by simp [dPutL, Ne.symm e]
      rw [e2]
      rfl
    · rw [List.getElem?_eq_none (by simpa using Nat.not_lt.mp hi)]
      rfl
/-- locals: a list, unset places null -/
def dL (G : dG) : Nat → List Value → List (Nat × Value)
  | _, [] => []
  | i, .null :: t => dL G (i + 1) t
  | i, v :: t => (i, dv G v) :: dL G (i + 1) t
theorem dL_mem (G : dG) {q : Nat × Value} : ∀ (l : List Value) (k : Nat), q ∈ dL G k l ↔ ∃ (j : Nat) (v : Value), l[j]? = some v ∧ v ≠ .null ∧ q = (k + j, dv G v)
  | [], k => by simp [dL]
  | v :: t, k => by
    have ih := dL_mem G (q := q) t (k + 1)
    have key : (∃ (j : Nat) (w : Value), (v :: t)[j]? = some w ∧ w ≠ .null ∧ q = (k + j, dv G w)) ↔ (v ≠ .null ∧ q = (k, dv G v)) ∨ ∃ (j : Nat) (w : Value), t[j]? = some w ∧ w ≠ .null ∧ q = (k + 1 + j, dv G w) := by
      constructor
      · rintro ⟨j, w, h1, h2, h3⟩
        cases j with
        | zero => simp at h1; subst h1; exact Or.inl ⟨h2, h3⟩
        | succ j => exact Or.inr ⟨j, w, by simpa using h1, h2, by rw [h3]; congr 1; omega⟩
      · rintro (⟨h1, h2⟩ | ⟨j, w, h1, h2, h3⟩)
        · exact ⟨0, v, rfl, h1, h2⟩
        · exact ⟨j + 1, w, by simpa using h1, h2, by rw [h3]; congr 1; omega⟩
    rw [key, ← ih]
    cases v <;> simp [dL]
def dget : List Value → Nat → Option Value
  | [], _ => none
  | v :: _, 0 => some v
  | _ :: t, k + 1 => dget t k
theorem dget_eq : ∀ (l : List Value) (k : Nat), dget l k = l[k]?
  | [], k => by simp [dget]
  | v :: t, 0 => rfl
  | v :: t, k + 1 => by simpa [dget] using dget_eq t k
def dset : List Value → Nat → Value → List Value
  | [], _, _ => []
  | _ :: t, 0, v => v :: t
  | w :: t, k + 1, v => w :: dset t k v
theorem dset_eq : ∀ (l : List Value) (k : Nat) (v : Value), dset l k v = l.set k v
  | [], k, v => by simp [dset]
  | w :: t, 0, v => rfl
  | w :: t, k + 1, v => by simpa [dset] using dset_eq t k v
/-- the list has no value of two words at k (so that a store behind it takes nothing apart) -/
def dno2 (l : List Value) (i : Nat) : Bool := match i with
  | 0 => true
  | k + 1 => match dget l k with
    | some (.long _) => false
    | some (.double _) => false
    | _ => true
