/-! rules of the heap -/
theorem dCl_all : ∀ (ci : Nat) (q : vw_C), vwCl[ci]? = some q → (∀ w ∈ u_ws q.1 q.2.1 q.2.2, w ∈ dWs) ∧ (∀ k, k < q.2.2 → parseFieldDescriptor (q.2.1 k).2.2.1 = some (dTy ci k)) ∧ (∀ a, a < q.2.2 → ∀ b, b < q.2.2 → a ≠ b → (q.2.1 a).2.1 ≠ (q.2.1 b).2.1) := by
  have good : ∀ {C : String} {Tb : u_T} {N : Nat}, (∀ w ∈ u_ws C Tb N, w ∈ lw_tbl) → (u_ws C Tb N).all goodWord = true → ∀ w ∈ u_ws C Tb N, w ∈ dWs := fun h1 h2 w hw => dWs_of (h1 w hw) (List.all_eq_true.mp h2 w hw)
  intro ci q hq
  match ci, hq with
  | 0, hq => cases hq; exact ⟨good inX0 (by decide +kernel), tyX0_ok, nmX0⟩
  | 1, hq => cases hq; exact ⟨good inX1 (by decide +kernel), tyX1_ok, nmX1⟩
  | 2, hq => cases hq; exact ⟨good inX2 (by decide +kernel), tyX2_ok, nmX2⟩
  | 3, hq => cases hq; exact ⟨good inX3 (by decide +kernel), tyX3_ok, nmX3⟩
  | 4, hq => cases hq; exact ⟨good inX4 (by decide +kernel), tyX4_ok, nmX4⟩
  | 5, hq => cases hq; exact ⟨good inX5 (by decide +kernel), tyX5_ok, nmX5⟩
  | 6, hq => cases hq; exact ⟨good inX6 (by decide +kernel), tyX6_ok, nmX6⟩
  | 7, hq => cases hq; exact ⟨good inX7 (by decide +kernel), tyX7_ok, nmX7⟩
  | 8, hq => cases hq; exact ⟨good inX8 (by decide +kernel), tyX8_ok, nmX8⟩
  | 9, hq => cases hq; exact ⟨good inX9 (by decide +kernel), tyX9_ok, nmX9⟩
  | 10, hq => cases hq; exact ⟨good inX10 (by decide +kernel), tyX10_ok, nmX10⟩
  | 11, hq => cases hq; exact ⟨good inX11 (by decide +kernel), tyX11_ok, nmX11⟩
  | 12, hq => cases hq; exact ⟨good inX12 (by decide +kernel), tyX12_ok, nmX12⟩
  | n + 13, hq => simp [vwCl] at hq
theorem dN_eq {ci : Nat} {q : vw_C} (h : vwCl[ci]? = some q) : dN ci = q.2.2 := by unfold dN; rw [h]
/-- entry idx of own's table is field k of class ci -/
def dFl (own : String) (idx ci k : Nat) : Prop := ∃ q : vw_C, vwCl[ci]? = some q ∧ k < q.2.2 ∧ Cond.fieldLink own idx (q.2.1 k).1 (q.2.1 k).2.1 (q.2.1 k).2.2.1 ∈ dWs
/-- .. and it isn't final -/
def dFw (ci k : Nat) : Prop := ∀ q : vw_C, vwCl[ci]? = some q → (q.2.1 k).2.2.2 = false
abbrev dI (i : Int32) : Nat := i.toInt.toNat
abbrev dIn (i : Int32) (n : Nat) : Prop := 0 ≤ i.toInt ∧ i.toInt < (n : Int)
theorem dIn_vp {i : Int32} {n : Nat} (h : dIn i n) : vp_in i n := by
  rintro (q | q)
  · have := Int32.lt_iff_toInt_lt.mp q
    simp at this
    omega
  · have e : i.toNatClampNeg = i.toInt.toNat := rfl
    rw [e] at q
    have := h.1
    have := h.2
    omega
theorem dEx_put {h : dH} {a k : Nat} {v : Int32} (hE : dEx h) (ha : a < 1000) : dEx (dPut h a k v) := fun j q hq i => by
  show (if 1000 + j = a ∧ i = k then v else h.1 (1000 + j) i) = _
  rw [if_neg (by omega)]
  exact hE j q hq i
theorem dlt {X : dX} {a : Nat} {s : dS} (h : X.1[a]? = some s) : a < X.1.length := (List.getElem?_eq_some_iff.mp h).1
section BM
variable {α : Type} {X : dX} {D : Nat} {own : String} {cc : ByteArray} {nL : Nat} {rt : Option FieldType} {φ : α → Option Value × dH} {pc : Nat} {ls st : List Value} {h : dH} {o : Option α}
theorem B_getf {idx ci k a : Nat} {v : Value} (hd : decode cc pc = .ok (.getfield idx, 3)) (hf : dFl own idx ci k) (hs : X.1[a]? = some (.inl ci)) (hv : ∀ G : dG, dFv X G h a ci k = dv G v) (K : B X D own cc nL rt φ (pc + 3) ls (v :: st) h o) : B X D own cc nL rt φ pc ls (.ref a :: st) h o := by
  intro x hx p l e s m args below meth c G A H locs lsA F S L
  obtain ⟨q, h1, h2, h3⟩ := hf
  refine va_get (D := G.1) (ci := ci) (C := q.1) (T := q.2.1) (N := q.2.2) F.1 F.2.1 F.2.2.2.2.1 (dCl_all ci q h1).1 F.2.2.2.1 S.1 S.2.1 a (dW_get hs) h1 k h2 (F.2.2.2.2.1 _ h3) (fun _ z => z) (v := dv G v) ?_ hd (K x hx p l e s m args below meth c G A H locs lsA F S L)
  rw [List.getElem?_map, List.getElem?_range (by rw [dN_eq h1]; exact h2), ← hv G]
  rfl
theorem B_getI {idx ci k a : Nat} (hd : decode cc pc = .ok (.getfield idx, 3)) (hf : dFl own idx ci k) (hs : X.1[a]? = some (.inl ci)) (ht : dTy ci k = .int) (K : B X D own cc nL rt φ (pc + 3) ls (.int (h.1 a k) :: st) h o) : B X D own cc nL rt φ pc ls (.ref a :: st) h o :=
  B_getf hd hf hs (fun G => by unfold dFv; rw [ht]; rfl) K
theorem B_getZ {idx ci k a : Nat} (hd : decode cc pc = .ok (.getfield idx, 3)) (hf : dFl own idx ci k) (hs : X.1[a]? = some (.inl ci)) (ht : dTy ci k = .boolean) (K : B X D own cc nL rt φ (pc + 3) ls (.int (h.1 a k) :: st) h o) : B X D own cc nL rt φ pc ls (.ref a :: st) h o :=
  B_getf hd hf hs (fun G => by unfold dFv; rw [ht]; rfl) K
theorem B_getJ {idx ci k a : Nat} (hd : decode cc pc = .ok (.getfield idx, 3)) (hf : dFl own idx ci k) (hs : X.1[a]? = some (.inl ci)) (ht : dTy ci k = .long) (K : B X D own cc nL rt φ (pc + 3) ls (.long (h.2.1 a k) :: st) h o) : B X D own cc nL rt φ pc ls (.ref a :: st) h o :=
  B_getf hd hf hs (fun G => by unfold dFv; rw [ht]; rfl) K
theorem B_getR {idx ci k a b : Nat} (hd : decode cc pc = .ok (.getfield idx, 3)) (hf : dFl own idx ci k) (hs : X.1[a]? = some (.inl ci)) (ht : (dTy ci k).isReference = true) (hr : X.2 h.2.2 a k = some b) (K : B X D own cc nL rt φ (pc + 3) ls (.ref b :: st) h o) : B X D own cc nL rt φ pc ls (.ref a :: st) h o :=
  B_getf hd hf hs (fun G => by
    unfold dFv
    rw [hr]
    revert ht
    cases dTy ci k <;> intro ht <;> first | rfl | (exact absurd ht (by decide))) K
theorem B_putV {idx ci k a : Nat} {v : Value} {h2 : dH} (hd : decode cc pc = .ok (.putfield idx, 3)) (hf : dFl own idx ci k) (hw : dFw ci k) (hs : X.1[a]? = some (.inl ci)) (hn : ∀ G : dG, narrow (dTy ci k) (dv G v) = dv G v) (hfit : ∀ G : dG, fits (dTy ci k) (dv G v) = true)
    (he : ∀ G : dG, (dW X G h).set a (G.2.2 a, .inr (ci, ((List.range (dN ci)).map (dFv X G h a ci)).set k (dv G v))) = dW X G h2) (hex : dEx h → a < 1000 → dEx h2) (K : B X D own cc nL rt φ (pc + 3) ls st h2 o) : B X D own cc nL rt φ pc ls (v :: .ref a :: st) h o := by
  intro x hx p l e s m args below meth c G A H locs lsA F S L
  obtain ⟨q, h1, h2, h3⟩ := hf
  obtain ⟨S1, S2, S3, S4, S5, S6, S7, S8, S9⟩ := S
  obtain ⟨c1, c2, c3⟩ := dCl_all ci q h1
  refine va_put (D := G.1) (ci := ci) (C := q.1) (T := q.2.1) (N := q.2.2) F.1 F.2.1 F.2.2.2.2.1 c1 (dTy ci) c2 c3 F.2.2.2.1 S1 S2 (dD S3 S4) S5 a (dW_get hs) h1 k h2 (F.2.2.2.2.1 _ h3) (fun _ z => z) (hw q h1) (c2 k h2) (hn G) (hfit G) (by simp; rw [dN_eq h1]; exact h2) hd (fun H1 locs1 P1 _ Q1 => ?_)
  rw [he G] at P1
  exact K x hx p l e s m args below meth c G A H1 locs1 lsA F ⟨S1, P1, S3, S4, Q1, S6, S7, S8, hex S9 (Nat.lt_of_lt_of_le (dlt hs) S8)⟩ L
theorem B_putI {idx ci k a : Nat} {v : Int32} (hd : decode cc pc = .ok (.putfield idx, 3)) (hf : dFl own idx ci k) (hw : dFw ci k) (hs : X.1[a]? = some (.inl ci)) (ht : dTy ci k = .int) (K : B X D own cc nL rt φ (pc + 3) ls st (dPut h a k v) o) : B X D own cc nL rt φ pc ls (.int v :: .ref a :: st) h o := by
  obtain ⟨q, h1, h2, h3⟩ := hf
  exact B_putV hd ⟨q, h1, h2, h3⟩ hw hs (fun G => by rw [ht]; rfl) (fun G => by rw [ht]; rfl) (fun G => dW_put hs (by rw [dN_eq h1]; exact h2) (Or.inl ht)) dEx_put K
theorem B_putZ {idx ci k a : Nat} {v : Int32} (hd : decode cc pc = .ok (.putfield idx, 3)) (hf : dFl own idx ci k) (hw : dFw ci k) (hs : X.1[a]? = some (.inl ci)) (ht : dTy ci k = .boolean) (hv : v = 0 ∨ v = 1) (K : B X D own cc nL rt φ (pc + 3) ls st (dPut h a k v) o) : B X D own cc nL rt φ pc ls (.int v :: .ref a :: st) h o := by
  obtain ⟨q, h1, h2, h3⟩ := hf
  refine B_putV hd ⟨q, h1, h2, h3⟩ hw hs (fun G => ?_) (fun G => ?_) (fun G => dW_put hs (by rw [dN_eq h1]; exact h2) (Or.inr ht)) dEx_put K
  · rw [ht]; rcases hv with rfl | rfl <;> rfl
  · rw [ht]; rcases hv with rfl | rfl <;> rfl
theorem B_putJ {idx ci k a : Nat} {v : Int64} (hd : decode cc pc = .ok (.putfield idx, 3)) (hf : dFl own idx ci k) (hw : dFw ci k) (hs : X.1[a]? = some (.inl ci)) (ht : dTy ci k = .long) (K : B X D own cc nL rt φ (pc + 3) ls st (dPutL h a k v) o) : B X D own cc nL rt φ pc ls (.long v :: .ref a :: st) h o := by
  obtain ⟨q, h1, h2, h3⟩ := hf
  exact B_putV hd ⟨q, h1, h2, h3⟩ hw hs (fun G => by rw [ht]; rfl) (fun G => by rw [ht]; rfl) (fun G => dW_putL hs (by rw [dN_eq h1]; exact h2) ht) (fun z _ => z) K
/-- the one reference that moves -/
theorem B_putR {idx ci k a b t : Nat} (hd : decode cc pc = .ok (.putfield idx, 3)) (hf : dFl own idx ci k) (hw : dFw ci k) (hs : X.1[a]? = some (.inl ci)) (ht : (dTy ci k).isReference = true) (hr : X.2 t a k = some b) (ho : ∀ c j, ¬ (c = a ∧ j = k) → X.2 t c j = X.2 h.2.2 c j) (K : B X D own cc nL rt φ (pc + 3) ls st (dPutT h t) o) : B X D own cc nL rt φ pc ls (.ref b :: .ref a :: st) h o := by
  obtain ⟨q, h1, h2, h3⟩ := hf
  have hk : k < dN ci := by rw [dN_eq h1]; exact h2
  have oth : ∀ (G : dG) (c : Nat) (cj j : Nat), ¬ (c = a ∧ j = k) → dFv X G h c cj j = dFv X G (dPutT h t) c cj j := by
    intro G c cj j hc
    unfold dFv
    show _ = match dTy cj j with
      | .int => Value.int (h.1 c j)
      | .boolean => .int (h.1 c j)
      | .long => .long (h.2.1 c j)
      | .object _ => va_rf ((X.2 t c j).map G.2.2)
      | .array _ => va_rf ((X.2 t c j).map G.2.2)
      | _ => .null
    rw [ho c j hc]
    cases dTy cj j <;> rfl
  have self : ∀ G : dG, dFv X G (dPutT h t) a ci k = .ref (G.2.2 b) := by
    intro G
    unfold dFv
    show (match dTy ci k with
      | .int => Value.int (h.1 a k)
      | .boolean => .int (h.1 a k)
      | .long => .long (h.2.1 a k)
      | .object _ => va_rf ((X.2 t a k).map G.2.2)
      | .array _ => va_rf ((X.2 t a k).map G.2.2)
      | _ => .null) = _
    rw [hr]
    revert ht
    cases dTy ci k <;> intro ht <;> first | rfl | (exact absurd ht (by decide))
  refine B_putV (v := .ref b) (h2 := dPutT h t) hd ⟨q, h1, h2, h3⟩ hw hs (fun G => ?_) (fun G => ?_) (fun G => ?_) (fun z _ => z) K
  · revert ht
    cases dTy ci k <;> intro ht <;> first | rfl | (exact absurd ht (by decide))
  · revert ht
    cases dTy ci k <;> intro ht <;> first | rfl | (exact absurd ht (by decide))
  · apply List.ext_getElem?
    intro i
    rw [List.getElem?_set]
    by_cases e : a = i
    · subst e
      have hl : a < (dW X G h).length := by rw [dW_len]; exact dlt hs
      rw [if_pos rfl, if_pos hl, dW_get hs]
      refine congrArg some (congrArg (Prod.mk (G.2.2 a)) (congrArg Sum.inr (congrArg (Prod.mk ci) ?_)))
      apply List.ext_getElem?
      intro j
      rw [List.getElem?_set, List.getElem?_map, List.getElem?_map]
      by_cases e2 : k = j
      · subst e2
        rw [if_pos rfl, if_pos (by simpa using hk), List.getElem?_range hk]
        exact congrArg some (self G).symm
      · rw [if_neg e2]
        by_cases hj : j < dN ci
        · rw [List.getElem?_range hj]
          exact congrArg some (oth G a ci j (fun z => e2 z.2.symm))
        · rw [List.getElem?_eq_none (by simpa using Nat.not_lt.mp hj)]
          rfl
    · rw [if_neg e]
      unfold dW
      rw [List.getElem?_mapIdx, List.getElem?_mapIdx]
      cases X.1[i]? with
      | none => rfl
      | some z =>
        show some (G.2.2 i, dEl X G h i z) = some (G.2.2 i, dEl X G (dPutT h t) i z)
        have hi : ∀ j, X.2 h.2.2 i j = X.2 t i j := fun j => (ho i j (fun w => e w.1.symm)).symm
        congr 2
        cases z with
        | inl cj =>
          show (Sum.inr (cj, _) : va_E) = Sum.inr (cj, _)
          rw [List.map_congr_left fun j _ => oth G i cj j (fun w => e w.1.symm)]
        | inr z =>
          obtain ⟨t0, n⟩ := z
          match t0 with
          | 0 => rfl
          | 1 => rfl
          | 2 => rfl
          | 3 => rfl
          | t0 + 4 =>
            show (Sum.inl (_, n, Sum.inr (Sum.inr (Sum.inr (Sum.inr _)))) : va_E) = Sum.inl (_, n, Sum.inr (Sum.inr (Sum.inr (Sum.inr (fun j => (X.2 t i j).map G.2.2)))))
            congr 7
            funext j
            rw [hi j]
end BM
