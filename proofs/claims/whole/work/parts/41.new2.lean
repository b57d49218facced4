/-! constructors: what makes cells, sets references, calls constructors -/
def dGr (Y : dX) (gr : List (Nat × Nat)) : Prop := ∀ q ∈ gr, ∀ t k, Y.2 t q.1 k = if k < q.2 then some (q.1 + 1 + k) else none
def dChk (Y : dX) (gr : List (Nat × Nat)) (n : Nat) (L : List (Nat × Nat)) (t : Nat) : Bool := L.all (fun q => Y.2 t q.1 q.2 != some n) && gr.all (fun q => decide (n ≤ q.1) || decide (q.1 + q.2 < n))
theorem dXP_ref {Y : dX} {gr : List (Nat × Nat)} {n : Nat} {L : List (Nat × Nat)} (t a k : Nat) : (dXP Y gr n L).2 t a k = if L.contains (a, k) || (dgr gr a && decide (a < n)) then Y.2 t a k else none := rfl
theorem dChk_ne {Y : dX} {gr : List (Nat × Nat)} {n : Nat} {L : List (Nat × Nat)} {t : Nat} (hg : dGr Y gr) (hc : dChk Y gr n L t = true) (a k : Nat) : (dXP Y gr n L).2 t a k ≠ some n := by
  simp only [dChk, Bool.and_eq_true, List.all_eq_true] at hc
  rw [dXP_ref]
  split
  · rename_i hh
    simp only [Bool.or_eq_true, Bool.and_eq_true, decide_eq_true_eq] at hh
    rcases hh with hh | ⟨h1, h2⟩
    · have := hc.1 (a, k) (List.contains_iff_mem.mp hh)
      simpa using this
    · unfold dgr at h1
      obtain ⟨q, hq, he⟩ := List.any_eq_true.mp h1
      have he : q.1 = a := by simpa using he
      subst he
      rw [hg q hq]
      have := hc.2 q hq
      simp only [Bool.or_eq_true, decide_eq_true_eq] at this
      split
      · intro e
        cases e
        omega
      · intro e; cases e
  · intro e; cases e
theorem dXP_put {Y : dX} {gr : List (Nat × Nat)} {n : Nat} {L : List (Nat × Nat)} {G : dG} {h : dH} {a ci k b : Nat} (hs : (dXP Y gr n L).1[a]? = some (.inl ci)) (hk : k < dN ci) (ht : (dTy ci k).isReference = true) (hr : Y.2 h.2.2 a k = some b) :
    (dW (dXP Y gr n L) G h).set a (G.2.2 a, .inr (ci, ((List.range (dN ci)).map (dFv (dXP Y gr n L) G h a ci)).set k (.ref (G.2.2 b)))) = dW (dXP Y gr n ((a, k) :: L)) G h := by
  have oth : ∀ t c j, ¬ (c = a ∧ j = k) → (dXP Y gr n ((a, k) :: L)).2 t c j = (dXP Y gr n L).2 t c j := by
    intro t c j hc
    rw [dXP_ref, dXP_ref, List.contains_cons]
    have e : ((c, j) == (a, k)) = false := by
      simp only [beq_eq_false_iff_ne, ne_eq, Prod.mk.injEq]
      exact hc
    rw [e, Bool.false_or]
  have self : (dXP Y gr n ((a, k) :: L)).2 h.2.2 a k = some b := by
    rw [dXP_ref, List.contains_cons]
    simp [hr]
  have fo : ∀ c cj j, ¬ (c = a ∧ j = k) → dFv (dXP Y gr n L) G h c cj j = dFv (dXP Y gr n ((a, k) :: L)) G h c cj j := by
    intro c cj j hc
    unfold dFv
    rw [oth _ c j hc]
  have fs : dFv (dXP Y gr n ((a, k) :: L)) G h a ci k = .ref (G.2.2 b) := by
    unfold dFv
    rw [self]
    revert ht
    cases dTy ci k <;> intro ht <;> first | rfl | (exact absurd ht (by decide))
  apply List.ext_getElem?
  intro i
  rw [List.getElem?_set]
  by_cases e : a = i
  · subst e
    have hl : a < (dW (dXP Y gr n L) G h).length := by rw [dW_len]; exact dlt hs
    rw [if_pos rfl, if_pos hl, dW_get (X := dXP Y gr n ((a, k) :: L)) hs]
    refine congrArg some (congrArg (Prod.mk (G.2.2 a)) (congrArg Sum.inr (congrArg (Prod.mk ci) ?_)))
    apply List.ext_getElem?
    intro j
    rw [List.getElem?_set, List.getElem?_map, List.getElem?_map]
    by_cases e2 : k = j
    · subst e2
      rw [if_pos rfl, if_pos (by simpa using hk), List.getElem?_range hk]
      exact congrArg some fs.symm
    · rw [if_neg e2]
      by_cases hj : j < dN ci
      · rw [List.getElem?_range hj]
        exact congrArg some (fo a ci j (fun z => e2 z.2.symm))
      · rw [List.getElem?_eq_none (by simpa using Nat.not_lt.mp hj)]
        rfl
  · rw [if_neg e]
    unfold dW
    rw [List.getElem?_mapIdx, List.getElem?_mapIdx]
    show Option.map _ ((dXP Y gr n L).1[i]?) = Option.map _ ((dXP Y gr n L).1[i]?)
    cases (dXP Y gr n L).1[i]? with
    | none => rfl
    | some z =>
      show some (G.2.2 i, dEl (dXP Y gr n L) G h i z) = some (G.2.2 i, dEl (dXP Y gr n ((a, k) :: L)) G h i z)
      congr 2
      cases z with
      | inl cj =>
        show (Sum.inr (cj, _) : va_E) = Sum.inr (cj, _)
        rw [List.map_congr_left fun j _ => fo i cj j (fun w => e w.1.symm)]
      | inr z =>
        obtain ⟨t0, m⟩ := z
        match t0 with
        | 0 => rfl
        | 1 => rfl
        | 2 => rfl
        | 3 => rfl
        | t0 + 4 =>
          show (Sum.inl (_, m, Sum.inr (Sum.inr (Sum.inr (Sum.inr _)))) : va_E) = Sum.inl (_, m, Sum.inr (Sum.inr (Sum.inr (Sum.inr (fun j => ((dXP Y gr n ((a, k) :: L)).2 h.2.2 i j).map G.2.2)))))
          congr 7
          funext j
          rw [oth _ i j (fun w => e w.1.symm)]
/-- places m more, laid at addresses of their own -/
theorem dXP_grow {Y : dX} {gr : List (Nat × Nat)} {n m : Nat} {L : List (Nat × Nat)} {G G1 : dG} {h : dH} (hn : n + m ≤ Y.1.length) (hG : G1.1 = G.1 ∧ G1.2.1 = G.2.1 ∧ ∀ k, ¬ (n ≤ k ∧ k < n + m) → G1.2.2 k = G.2.2 k) (hne : ∀ a k b, n ≤ b → b < n + m → (dXP Y gr n L).2 h.2.2 a k ≠ some b) :
    dW (dXP Y gr (n + m) L) G1 h = dW (dXP Y gr n L) G h ++ (List.range m).map (fun i => (G1.2.2 (n + i), dEl (dXP Y gr (n + m) L) G1 h (n + i) (Y.1.getD (n + i) (.inl 0)))) := by
  obtain ⟨g1, g2, g3⟩ := hG
  have hl : (dW (dXP Y gr n L) G h).length = n := by rw [dW_len]; show (Y.1.take n).length = n; rw [List.length_take]; omega
  apply List.ext_getElem?
  intro i
  rcases Nat.lt_or_ge i n with hi | hi
  · rw [List.getElem?_append_left (by rw [hl]; exact hi)]
    unfold dW
    rw [List.getElem?_mapIdx, List.getElem?_mapIdx]
    have e1 : (dXP Y gr (n + m) L).1[i]? = (dXP Y gr n L).1[i]? := by
      show (Y.1.take (n + m))[i]? = (Y.1.take n)[i]?
      rw [List.getElem?_take_of_lt (by omega), List.getElem?_take_of_lt hi]
    rw [e1]
    cases (dXP Y gr n L).1[i]? with
    | none => rfl
    | some z =>
      show some (G1.2.2 i, dEl (dXP Y gr (n + m) L) G1 h i z) = some (G.2.2 i, dEl (dXP Y gr n L) G h i z)
      rw [g3 i (by omega)]
      have er : ∀ k, ((dXP Y gr (n + m) L).2 h.2.2 i k).map G1.2.2 = ((dXP Y gr n L).2 h.2.2 i k).map G.2.2 := by
        intro k
        have e2 : (dXP Y gr (n + m) L).2 h.2.2 i k = (dXP Y gr n L).2 h.2.2 i k := by
          rw [dXP_ref, dXP_ref, decide_eq_true (show i < n + m by omega), decide_eq_true hi]
        rw [e2]
        cases hq : (dXP Y gr n L).2 h.2.2 i k with
        | none => rfl
        | some b =>
          have hb : ¬ (n ≤ b ∧ b < n + m) := fun z => hne i k b z.1 z.2 hq
          show some (G1.2.2 b) = some (G.2.2 b)
          rw [g3 b hb]
      have ef : ∀ ci k, dFv (dXP Y gr (n + m) L) G1 h i ci k = dFv (dXP Y gr n L) G h i ci k := by
        intro ci k
        unfold dFv
        rw [er k]
      congr 2
      cases z with
      | inl cj =>
        show (Sum.inr (cj, _) : va_E) = Sum.inr (cj, _)
        rw [List.map_congr_left fun j _ => ef cj j]
      | inr z =>
        obtain ⟨t0, w⟩ := z
        match t0 with
        | 0 => show (Sum.inl (G1.2.1 0, _) : va_E) = Sum.inl (G.2.1 0, _); rw [g2]
        | 1 => show (Sum.inl (G1.2.1 1, _) : va_E) = Sum.inl (G.2.1 1, _); rw [g2]
        | 2 => show (Sum.inl (G1.2.1 2, _) : va_E) = Sum.inl (G.2.1 2, _); rw [g2]
        | 3 => show (Sum.inl (G1.2.1 3, _) : va_E) = Sum.inl (G.2.1 3, _); rw [g2]
        | t0 + 4 =>
          show (Sum.inl (G1.2.1 4, w, Sum.inr (Sum.inr (Sum.inr (Sum.inr (fun j => ((dXP Y gr (n + m) L).2 h.2.2 i j).map G1.2.2))))) : va_E) = Sum.inl (G.2.1 4, w, Sum.inr (Sum.inr (Sum.inr (Sum.inr (fun j => ((dXP Y gr n L).2 h.2.2 i j).map G.2.2)))))
          rw [g2]
          congr 7
          funext j
          exact er j
  · rw [List.getElem?_append_right (by rw [hl]; exact hi), hl]
    unfold dW
    rw [List.getElem?_mapIdx, List.getElem?_map]
    show Option.map _ ((Y.1.take (n + m))[i]?) = _
    rcases Nat.lt_or_ge i (n + m) with hi2 | hi2
    · have hlt : i < Y.1.length := by omega
      rw [List.getElem?_take_of_lt hi2, List.getElem?_range (by omega), List.getElem?_eq_getElem hlt]
      show some (G1.2.2 i, _) = some (G1.2.2 (n + (i - n)), _)
      have e3 : n + (i - n) = i := by omega
      rw [e3, List.getD_eq_getElem?_getD, List.getElem?_eq_getElem hlt]
      rfl
    · rw [List.getElem?_eq_none (by rw [List.length_take]; omega), List.getElem?_eq_none (by simpa using by omega)]
      rfl
/-- the same, one place -/
theorem dXP_one {Y : dX} {gr : List (Nat × Nat)} {n : Nat} {L : List (Nat × Nat)} {G : dG} {h : dH} {s : dS} {q : Nat} (hY : Y.1[n]? = some s) (hne : ∀ a k, (dXP Y gr n L).2 h.2.2 a k ≠ some n) :
    dW (dXP Y gr (n + 1) L) (G.1, G.2.1, fun k => if k = n then q else G.2.2 k) h = dW (dXP Y gr n L) G h ++ [(q, dEl (dXP Y gr (n + 1) L) (G.1, G.2.1, fun k => if k = n then q else G.2.2 k) h n s)] := by
  have hn := (List.getElem?_eq_some_iff.mp hY).1
  rw [dXP_grow (m := 1) (G := G) (G1 := (G.1, G.2.1, fun k => if k = n then q else G.2.2 k)) (by omega) ⟨rfl, rfl, fun k hk => if_neg (by omega)⟩ (fun a k b h1 h2 => by rw [show b = n by omega]; exact hne a k)]
  congr 1
  show [((if n + 0 = n then q else _), _)] = _
  simp only [Nat.add_zero, if_pos]
  rw [List.getD_eq_getElem?_getD, hY]
  rfl
theorem dInj_one {Y : dX} {gr : List (Nat × Nat)} {n : Nat} {L : List (Nat × Nat)} {G : dG} {q : Nat} {s : dS} (hY : Y.1[n]? = some s) (hI : dInj (dXP Y gr n L) G) (hq : ∀ k, k < n → G.2.2 k ≠ q) : dInj (dXP Y gr (n + 1) L) (G.1, G.2.1, fun k => if k = n then q else G.2.2 k) := by
  have hn := (List.getElem?_eq_some_iff.mp hY).1
  have hl : (dXP Y gr n L).1.length = n := by show (Y.1.take n).length = n; rw [List.length_take]; omega
  have hl1 : (dXP Y gr (n + 1) L).1.length = n + 1 := by show (Y.1.take (n + 1)).length = n + 1; rw [List.length_take]; omega
  intro i j hi hj e
  rw [hl1] at hi hj
  have e : (if i = n then q else G.2.2 i) = (if j = n then q else G.2.2 j) := e
  by_cases h1 : i = n
  · by_cases h2 : j = n
    · omega
    · rw [if_pos h1, if_neg h2] at e
      exact absurd e.symm (hq j (by omega))
  · by_cases h2 : j = n
    · rw [if_neg h1, if_pos h2] at e
      exact absurd e (hq i (by omega))
    · rw [if_neg h1, if_neg h2] at e
      exact hI i j (by rw [hl]; omega) (by rw [hl]; omega) e
section BO
variable {C S D : Nat} {own : String} {cc : ByteArray} {nL : Nat} {pc : Nat} {ls st : List Value} {Y : dX} {gr L : List (Nat × Nat)} {n : Nat} {h : dH} {c0 s0 : Nat} {X' : dX} {h' : dH}
/-- a final reference is set -/
theorem N_putF {idx ci k a b : Nat} (hd : decode cc pc = .ok (.putfield idx, 3)) (hf : dFl own idx ci k) (hw : ∀ q : vw_C, vwCl[ci]? = some q → (q.2.1 k).2.2.2 = true ∧ (q.2.1 k).1 = own) (hs : (dXP Y gr n L).1[a]? = some (.inl ci)) (ht : (dTy ci k).isReference = true) (hr : Y.2 h.2.2 a k = some b) (K : BA C S D own cc nL (pc + 3) ls st (dXP Y gr n ((a, k) :: L)) h c0 s0 X' h') : BA C S D own cc nL pc ls (.ref b :: .ref a :: st) (dXP Y gr n L) h c0 s0 X' h' := by
  intro p l e s m args below meth c G A H locs lsA F hin Q L0
  obtain ⟨q, h1, h2, h3⟩ := hf
  obtain ⟨S1, S2, S3, S4, S5, S6, S7, S8, S9⟩ := Q
  obtain ⟨c1, c2, c3⟩ := dCl_all ci q h1
  have n1 : narrow (dTy ci k) (.ref (G.2.2 b)) = .ref (G.2.2 b) := by
    revert ht
    cases dTy ci k <;> intro ht <;> first | rfl | (exact absurd ht (by decide))
  have n2 : fits (dTy ci k) (.ref (G.2.2 b)) = true := by
    revert ht
    cases dTy ci k <;> intro ht <;> first | rfl | (exact absurd ht (by decide))
  refine va_putF (D := G.1) (ci := ci) (C := q.1) (T := q.2.1) (N := q.2.2) F.1 F.2.1 F.2.2.2.2.1 c1 (dTy ci) c2 c3 F.2.2.2.1 S1 S2 (dD S3 S4) S5 a (dW_get hs) h1 k h2 (F.2.2.2.2.1 _ h3) (fun _ z => z) (hw q h1).1 hin (hw q h1).2 (c2 k h2) (v := .ref (G.2.2 b)) n1 n2 (by simp; rw [dN_eq h1]; exact h2) hd (fun H1 locs1 P1 _ Q1 => ?_)
  rw [dXP_put hs (by rw [dN_eq h1]; exact h2) ht hr] at P1
  exact K p l e s m args below meth c G A H1 locs1 lsA F hin ⟨S1, P1, S3, S4, Q1, S6, S7, S8, S9⟩ L0
/-- one that isn't final -/
theorem N_putR {idx ci k a b : Nat} (hd : decode cc pc = .ok (.putfield idx, 3)) (hf : dFl own idx ci k) (hw : dFw ci k) (hs : (dXP Y gr n L).1[a]? = some (.inl ci)) (ht : (dTy ci k).isReference = true) (hr : Y.2 h.2.2 a k = some b) (K : BA C S D own cc nL (pc + 3) ls st (dXP Y gr n ((a, k) :: L)) h c0 s0 X' h') : BA C S D own cc nL pc ls (.ref b :: .ref a :: st) (dXP Y gr n L) h c0 s0 X' h' := by
  intro p l e s m args below meth c G A H locs lsA F hin Q L0
  obtain ⟨q, h1, h2, h3⟩ := hf
  obtain ⟨S1, S2, S3, S4, S5, S6, S7, S8, S9⟩ := Q
  obtain ⟨c1, c2, c3⟩ := dCl_all ci q h1
  have n1 : narrow (dTy ci k) (.ref (G.2.2 b)) = .ref (G.2.2 b) := by
    revert ht
    cases dTy ci k <;> intro ht <;> first | rfl | (exact absurd ht (by decide))
  have n2 : fits (dTy ci k) (.ref (G.2.2 b)) = true := by
    revert ht
    cases dTy ci k <;> intro ht <;> first | rfl | (exact absurd ht (by decide))
  refine va_put (D := G.1) (ci := ci) (C := q.1) (T := q.2.1) (N := q.2.2) F.1 F.2.1 F.2.2.2.2.1 c1 (dTy ci) c2 c3 F.2.2.2.1 S1 S2 (dD S3 S4) S5 a (dW_get hs) h1 k h2 (F.2.2.2.2.1 _ h3) (fun _ z => z) (hw q h1) (c2 k h2) (v := .ref (G.2.2 b)) n1 n2 (by simp; rw [dN_eq h1]; exact h2) hd (fun H1 locs1 P1 _ Q1 => ?_)
  rw [dXP_put hs (by rw [dN_eq h1]; exact h2) ht hr] at P1
  exact K p l e s m args below meth c G A H1 locs1 lsA F hin ⟨S1, P1, S3, S4, Q1, S6, S7, S8, S9⟩ L0
theorem dXP_len {s : dS} (hY : Y.1[n]? = some s) : (dXP Y gr n L).1.length = n ∧ (dXP Y gr (n + 1) L).1.length = n + 1 := by
  have hn := (List.getElem?_eq_some_iff.mp hY).1
  exact ⟨by show (Y.1.take n).length = n; rw [List.length_take]; omega, by show (Y.1.take (n + 1)).length = n + 1; rw [List.length_take]; omega⟩
/-- behind a cell that was made: the world with one place more -/
theorem N_made {s : dS} (hY : Y.1[n]? = some s) (hn : n + 1 ≤ 1000) {p : Program} {l : Launch} {e : Env} {st1 : State} {m : MethodId} {args : Array Value} {below : List Frame} {meth : Method} {c : Code} {G : dG} {A : Nat → Prop} {H H1 : Heap} {locs : List Loc} {lsA : Array Slot} {q ln : Nat} {el : va_E} {rest : List Value} {c1 s1 : Nat}
    (hne : ∀ a k, (dXP Y gr n L).2 h.2.2 a k ≠ some n) (Q : dSt (dXP Y gr n L) G A st1 h H locs) (hA : ∀ z, st1.heap.size ≤ z → A z) (hel : dEl (dXP Y gr (n + 1) L) (G.1, G.2.1, fun k => if k = n then q else G.2.2 k) h n s = el) (P1 : va_P G.1 vwCl (dW (dXP Y gr n L) G h ++ [(q, el)]) H1) (D1 : va_D A (dW (dXP Y gr n L) G h ++ [(q, el)])) (Q1 : va_S A st1.heap H1 locs)
    (ho1 : dOk n ls = true) (ho2 : dOk n rest = true) (F : dFix p st1 m meth c args own cc nL none) (hin : meth.name = "<init>") (L0 : lv_has lsA nL (dL G 0 ls))
    (K : BA C S D own cc nL (pc + ln) ls (.ref n :: rest) (dXP Y gr (n + 1) L) h c1 s1 X' h') :
    W p l e (dRmA D C S) st1 m args below meth c H1 locs c1 s1 (MQ below (dQA (dXP Y gr n L).1.length X' G A h') args st1 C S A) (F0 m (pc + ln) lsA (.ref q :: rest.map (dv G))) := by
  obtain ⟨S1, S2, S3, S4, S5, S6, S7, S8, S9⟩ := Q
  obtain ⟨l1, l2⟩ := dXP_len (gr := gr) (L := L) hY
  have hlen : (dW (dXP Y gr n L) G h).length = n := by rw [dW_len]; exact l1
  have hx : dExt n G (G.1, G.2.1, fun k => if k = n then q else G.2.2 k) := ⟨rfl, rfl, fun k hk => if_neg (by omega)⟩
  have hlast : (dW (dXP Y gr n L) G h ++ [(q, el)])[n]? = some (q, el) := by rw [List.getElem?_append_right (by omega), hlen]; simp
  have hq : ∀ k, k < n → G.2.2 k ≠ q := by
    intro k hk e1
    have hk2 : k < (dXP Y gr n L).1.length := by omega
    obtain ⟨z, hz⟩ : ∃ z, (dXP Y gr n L).1[k]? = some z := ⟨_, List.getElem?_eq_getElem hk2⟩
    have := D1.1 k n _ _ (by rw [List.getElem?_append_left (by omega)]; exact dW_get hz) hlast e1
    omega
  have e1 := dXP_one (G := G) (q := q) hY hne
  rw [hel] at e1
  rw [← e1] at P1
  have hdv : Value.ref q :: rest.map (dv G) = (Value.ref n :: rest).map (dv (G.1, G.2.1, fun k => if k = n then q else G.2.2 k)) := by
    rw [List.map_cons, dv_exts hx rest ho2]
    show _ = Value.ref (if n = n then q else _) :: _
    rw [if_pos rfl]
  rw [hdv]
  refine W.mono (dQA.mono (n := (dXP Y gr n L).1.length) (n' := (dXP Y gr (n + 1) L).1.length) (by rw [l1]; exact hx) (by omega)) (K p l e st1 m args below meth c _ A H1 locs lsA F hin ⟨S1, P1, dInj_one hY S3 hq, fun k hk => ?_, Q1, S6.ext (fun k hk => if_neg (by omega)), S7, by omega, S9⟩ (by rw [dL_exts hx ls 0 ho1]; exact L0))
  show A (if k = n then q else G.2.2 k)
  by_cases h1 : k = n
  · rw [if_pos h1]; exact D1.2 n _ hlast
  · rw [if_neg h1]; exact S4 k (by omega)
def dNw (own : String) (idx : Nat) (q : vw_C) : Prop := Cond.classLink own idx q.1 ∈ dWs ∧ Cond.instantiable q.1 q.2.2 ∈ dWs ∧ Cond.initialized q.1 ∈ dWs
theorem N_new {idx ci : Nat} {q : vw_C} (hd : decode cc pc = .ok (.new idx, 3)) (hq : vwCl[ci]? = some q) (hw : dNw own idx q) (hY : Y.1[n]? = some (.inl ci)) (hn : n + 1 ≤ 1000) (hg : dGr Y gr) (hc : dChk Y gr n L h.2.2 = true) (hnl : (L.all (fun z => z.1 != n) && !dgr gr n) = true) (hz : ∀ k, h.1 n k = 0 ∧ h.2.1 n k = 0) (hC : c0 + 1 ≤ C) (hS : s0 + q.2.2 ≤ S) (ho1 : dOk n ls = true) (ho2 : dOk n st = true)
    (K : BA C S D own cc nL (pc + 3) ls (.ref n :: st) (dXP Y gr (n + 1) L) h (c0 + 1) (s0 + q.2.2) X' h') : BA C S D own cc nL pc ls st (dXP Y gr n L) h c0 s0 X' h' := by
  intro p l e s m args below meth c G A H locs lsA F hin Q L0
  obtain ⟨c1, c2, c3⟩ := dCl_all ci q hq
  simp only [Bool.and_eq_true, List.all_eq_true, Bool.not_eq_true'] at hnl
  have hnone : ∀ t k, (dXP Y gr (n + 1) L).2 t n k = none := by
    intro t k
    rw [dXP_ref, hnl.2, Bool.false_and, Bool.or_false]
    have : L.contains (n, k) = false := by
      rw [← Bool.not_eq_true, List.contains_iff_mem]
      intro hm
      have := hnl.1 _ hm
      simp at this
    rw [this]
    rfl
  have hfs : ∀ (G1 : dG) (j : Nat), j < q.2.2 → defaultValue (dTy ci j) = vp_V ((List.range (dN ci)).map (dFv (dXP Y gr (n + 1) L) G1 h n ci)) j := by
    intro G1 j hj
    unfold vp_V
    rw [List.getD_eq_getElem?_getD, List.getElem?_map, List.getElem?_range (by rw [dN_eq hq]; exact hj)]
    show _ = dFv _ G1 h n ci j
    unfold dFv
    rw [hnone, (hz j).1, (hz j).2]
    have hp := c2 j hj
    have hk : dTy ci j = .int ∨ dTy ci j = .boolean ∨ dTy ci j = .long ∨ (dTy ci j).isReference = true := by
      have hall : ∀ ci, ci < 13 → ∀ j, j < dN ci → dTy ci j = .int ∨ dTy ci j = .boolean ∨ dTy ci j = .long ∨ (dTy ci j).isReference = true := by decide +kernel
      exact hall ci (List.getElem?_eq_some_iff.mp hq).1 j (by rw [dN_eq hq]; exact hj)
    rcases hk with z | z | z | z
    · rw [z]; rfl
    · rw [z]; rfl
    · rw [z]; rfl
    · revert z
      cases dTy ci j <;> intro z <;> first | rfl | (exact absurd z (by decide))
  refine va_new (D := G.1) (ci := ci) (fs := (List.range (dN ci)).map (dFv (dXP Y gr (n + 1) L) G h n ci)) (C := q.1) (T := q.2.1) (N := q.2.2) F.1 F.2.1 F.2.2.2.2.1 c1 (dTy ci) c2 F.2.2.2.1 (F.2.2.2.2.1 _ hw.1) (F.2.2.2.2.1 _ hw.2.1) (F.2.2.2.2.1 _ hw.2.2) Q.1 Q.2.1 (dD Q.2.2.1 Q.2.2.2.1) Q.2.2.2.2.1 Q.2.2.2.2.2.2.1 hq (hfs G) hC hS hd (fun q0 H1 P1 D1 Q1 => ?_)
  refine N_made hY hn (dChk_ne hg hc) Q Q.2.2.2.2.2.2.1 ?_ P1 D1 Q1 ho1 ho2 F hin L0 K
  show (Sum.inr (ci, _) : va_E) = Sum.inr (ci, _)
  rw [List.map_congr_left fun k _ => ?_]
  unfold dFv
  rw [hnone]
  rfl
/-- the class of the rows of a kind is one -/
theorem dRA_eq {U : State} {c1 c2 : ClassId} {ty : FieldType} (ho : ∀ C, ty ≠ .object C) (h1 : va_RA U c1 ty) (h2 : va_RA U c2 ty) : c1 = c2 := by
  cases ty with
  | object C => exact absurd rfl (ho C)
  | _ =>
    have e1 : U.vm.findClass _ = some c1 := h1
    have e2 : U.vm.findClass _ = some c2 := h2
    exact Option.some.inj (e1.symm.trans e2)
theorem N_newaI {v : Int32} {N : Nat} (hd : decode cc pc = .ok (.newarray .int, 2)) (ha : Cond.arrayClass .int ∈ dWs) (hv : ¬ v < 0) (hN : v.toNatClampNeg = N) (hb : N * componentBytes .int ≤ 536870912) (hY : Y.1[n]? = some (.inr (0, N))) (hn : n + 1 ≤ 1000) (hg : dGr Y gr) (hc : dChk Y gr n L h.2.2 = true) (hz : h.1 n = fun _ => 0) (hC : c0 + 1 ≤ C) (hS : s0 + N ≤ S) (ho1 : dOk n ls = true) (ho2 : dOk n st = true)
    (K : BA C S D own cc nL (pc + 2) ls (.ref n :: st) (dXP Y gr (n + 1) L) h (c0 + 1) (s0 + N) X' h') : BA C S D own cc nL pc ls (.int v :: st) (dXP Y gr n L) h c0 s0 X' h' := by
  intro p l e s m args below meth c G A H locs lsA F hin Q L0
  refine va_newa (D := G.1) (atype := .int) F.1 F.2.1 (F.2.2.2.2.1 _ ha) (ty := .int) rfl Q.1 Q.2.1 (dD Q.2.2.1 Q.2.2.2.1) Q.2.2.2.2.1 Q.2.2.2.2.2.2.1 (a0 := (N, .inl (fun _ => 0))) (fun cA => rfl) hv hN hb hC hS hd (fun q0 cA H1 K1 P1 D1 Q1 => ?_)
  have ecA : cA = G.2.1 0 := by
    have r1 := (K1.2 5 (cA, .int) rfl).2
    have r2 := (Q.1.2 0 (G.2.1 0, .int) rfl).2
    exact dRA_eq (fun C e => by cases e) r1 r2
  subst ecA
  refine N_made hY hn (dChk_ne hg hc) Q Q.2.2.2.2.2.2.1 ?_ P1 D1 Q1 ho1 ho2 F hin L0 K
  show (Sum.inl (_, N, _) : va_E) = _
  rw [hz]
theorem N_newaB {v : Int32} {N : Nat} (hd : decode cc pc = .ok (.newarray .byte, 2)) (ha : Cond.arrayClass .byte ∈ dWs) (hv : ¬ v < 0) (hN : v.toNatClampNeg = N) (hb : N * componentBytes .byte ≤ 536870912) (hY : Y.1[n]? = some (.inr (1, N))) (hn : n + 1 ≤ 1000) (hg : dGr Y gr) (hc : dChk Y gr n L h.2.2 = true) (hz : h.1 n = fun _ => 0) (hC : c0 + 1 ≤ C) (hS : s0 + N ≤ S) (ho1 : dOk n ls = true) (ho2 : dOk n st = true)
    (K : BA C S D own cc nL (pc + 2) ls (.ref n :: st) (dXP Y gr (n + 1) L) h (c0 + 1) (s0 + N) X' h') : BA C S D own cc nL pc ls (.int v :: st) (dXP Y gr n L) h c0 s0 X' h' := by
  intro p l e s m args below meth c G A H locs lsA F hin Q L0
  refine va_newa (D := G.1) (atype := .byte) F.1 F.2.1 (F.2.2.2.2.1 _ ha) (ty := .byte) rfl Q.1 Q.2.1 (dD Q.2.2.1 Q.2.2.2.1) Q.2.2.2.2.1 Q.2.2.2.2.2.2.1 (a0 := (N, .inl (fun _ => 0))) (fun cA => rfl) hv hN hb hC hS hd (fun q0 cA H1 K1 P1 D1 Q1 => ?_)
  have ecA : cA = G.2.1 1 := by
    have r1 := (K1.2 5 (cA, .byte) rfl).2
    have r2 := (Q.1.2 1 (G.2.1 1, .byte) rfl).2
    exact dRA_eq (fun C e => by cases e) r1 r2
  subst ecA
  refine N_made hY hn (dChk_ne hg hc) Q Q.2.2.2.2.2.2.1 ?_ P1 D1 Q1 ho1 ho2 F hin L0 K
  show (Sum.inl (_, N, _) : va_E) = _
  rw [hz]
theorem N_newaZ {v : Int32} {N : Nat} (hd : decode cc pc = .ok (.newarray .boolean, 2)) (ha : Cond.arrayClass .boolean ∈ dWs) (hv : ¬ v < 0) (hN : v.toNatClampNeg = N) (hb : N * componentBytes .boolean ≤ 536870912) (hY : Y.1[n]? = some (.inr (2, N))) (hn : n + 1 ≤ 1000) (hg : dGr Y gr) (hc : dChk Y gr n L h.2.2 = true) (hz : h.1 n = fun _ => 0) (hC : c0 + 1 ≤ C) (hS : s0 + N ≤ S) (ho1 : dOk n ls = true) (ho2 : dOk n st = true)
    (K : BA C S D own cc nL (pc + 2) ls (.ref n :: st) (dXP Y gr (n + 1) L) h (c0 + 1) (s0 + N) X' h') : BA C S D own cc nL pc ls (.int v :: st) (dXP Y gr n L) h c0 s0 X' h' := by
  intro p l e s m args below meth c G A H locs lsA F hin Q L0
  refine va_newa (D := G.1) (atype := .boolean) F.1 F.2.1 (F.2.2.2.2.1 _ ha) (ty := .boolean) rfl Q.1 Q.2.1 (dD Q.2.2.1 Q.2.2.2.1) Q.2.2.2.2.1 Q.2.2.2.2.2.2.1 (a0 := (N, .inl (fun _ => 0))) (fun cA => rfl) hv hN hb hC hS hd (fun q0 cA H1 K1 P1 D1 Q1 => ?_)
  have ecA : cA = G.2.1 2 := by
    have r1 := (K1.2 5 (cA, .boolean) rfl).2
    have r2 := (Q.1.2 2 (G.2.1 2, .boolean) rfl).2
    exact dRA_eq (fun C e => by cases e) r1 r2
  subst ecA
  refine N_made hY hn (dChk_ne hg hc) Q Q.2.2.2.2.2.2.1 ?_ P1 D1 Q1 ho1 ho2 F hin L0 K
  show (Sum.inl (_, N, _) : va_E) = _
  rw [hz]
theorem N_newaJ {v : Int32} {N : Nat} (hd : decode cc pc = .ok (.newarray .long, 2)) (ha : Cond.arrayClass .long ∈ dWs) (hv : ¬ v < 0) (hN : v.toNatClampNeg = N) (hb : N * componentBytes .long ≤ 536870912) (hY : Y.1[n]? = some (.inr (3, N))) (hn : n + 1 ≤ 1000) (hg : dGr Y gr) (hc : dChk Y gr n L h.2.2 = true) (hz : h.2.1 n = fun _ => 0) (hC : c0 + 1 ≤ C) (hS : s0 + N ≤ S) (ho1 : dOk n ls = true) (ho2 : dOk n st = true)
    (K : BA C S D own cc nL (pc + 2) ls (.ref n :: st) (dXP Y gr (n + 1) L) h (c0 + 1) (s0 + N) X' h') : BA C S D own cc nL pc ls (.int v :: st) (dXP Y gr n L) h c0 s0 X' h' := by
  intro p l e s m args below meth c G A H locs lsA F hin Q L0
  refine va_newa (D := G.1) (atype := .long) F.1 F.2.1 (F.2.2.2.2.1 _ ha) (ty := .long) rfl Q.1 Q.2.1 (dD Q.2.2.1 Q.2.2.2.1) Q.2.2.2.2.1 Q.2.2.2.2.2.2.1 (a0 := (N, .inr (.inl (fun _ => 0)))) (fun cA => rfl) hv hN hb hC hS hd (fun q0 cA H1 K1 P1 D1 Q1 => ?_)
  have ecA : cA = G.2.1 3 := by
    have r1 := (K1.2 5 (cA, .long) rfl).2
    have r2 := (Q.1.2 3 (G.2.1 3, .long) rfl).2
    exact dRA_eq (fun C e => by cases e) r1 r2
  subst ecA
  refine N_made hY hn (dChk_ne hg hc) Q Q.2.2.2.2.2.2.1 ?_ P1 D1 Q1 ho1 ho2 F hin L0 K
  show (Sum.inl (_, N, _) : va_E) = _
  rw [hz]
end BO
