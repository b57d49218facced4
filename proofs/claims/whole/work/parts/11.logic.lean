/-- the words that a call hands on -/
def dWs : List Cond := lw_tbl.filter goodWord
theorem dWs_of {w : Cond} (h : w ∈ lw_tbl) (g : goodWord w = true) : w ∈ dWs := List.mem_filter.mpr ⟨h, g⟩
theorem dWs_good : GoodIn dWs dWs := fun _ h => ⟨h, good_of_word (List.mem_filter.mp h).2⟩
def dRm (D : Nat) : Room := { frames := D, cells := 0, slots := 0, locals := 60 * D }
def dInj (X : dX) (G : dG) : Prop := ∀ i j : Nat, i < X.1.length → j < X.1.length → G.2.2 i = G.2.2 j → i = j
/-- what a method of this world may change -/
def dA (X : dX) (G : dG) (sz : Nat) : Nat → Prop := fun q => (∃ k : Nat, k < X.1.length ∧ q = G.2.2 k) ∨ sz ≤ q
/-- the static rows (places 1000 ..) and the texts (places 2000 ..), which no one changes -/
def dZs : List (String × String × List Int32) := [("FreeAlderman$CityText", "RULE_LOW", [1, 1, 0]), ("FreeAlderman$CityText", "RULE_HIGH", [60, 60, 9]), ("FreeAlderman$CityText", "RULE_WITHOUT", [30, 40, 2]), ("FreeAlderman$CityText", "SPOT_LOW", [0, 0, 0, 0, 0]), ("FreeAlderman$CityText", "SPOT_HIGH", [9, 9, 3, 9, 30]), ("FreeAlderman$CityText", "SPOT_WITHOUT", [0, 0, 0, 3, 6])]
/-- the texts: who holds it, its place there, the text, its signs' numbers -/
def dKs : List (String × Nat × String × List Int32) := [("FreeAlderman$CityText", 68, "bhc", [98, 104, 99]), ("FreeAlderman$CityText", 87, "xykvo", [120, 121, 107, 118, 111]), ("FreeAlderman$LawBook", 87, "kvohnt", [107, 118, 111, 104, 110, 116]), ("FreeAlderman$DayBook", 55, "wrbd", [119, 114, 98, 100]), ("FreeAldermanModel", 26, "y", [121]), ("FreeAldermanModel", 32, "kvohnt", [107, 118, 111, 104, 110, 116]), ("FreeAldermanModel", 255, "bhc", [98, 104, 99]), ("FreeAldermanModel", 261, "xykvo", [120, 121, 107, 118, 111]), ("FreeAldermanModel", 269, "wrbd", [119, 114, 98, 100])]
theorem va_AOA.moved {t : FieldType} {u U : State} (hvm : u.vm.Alike U.vm) (h : va_AOA t u) : va_AOA t U := by
  have h1 : (Cond.arrayOver (.array t)).before #[] (u.setVm U.vm) = true := by rw [Cond.arrayOver_setVmC hvm]; exact h
  unfold Cond.before Cond.holds at h1
  unfold va_AOA Cond.before Cond.holds
  simp only [Cond.value] at h1 ⊢
  exact h1
/-- private members of the nest that are called from its other classes -/
def dNs : List (String × Nat × MethodName) := [(RX2, 103, yX11_isIn), (RX2, 99, yX11_placeIn), (RX3, 57, yX11_placeIn), (RX5, 106, yX11_held), (RX5, 89, yX11_placeIn), (RX6, 29, yX11_isIn), (RX7, 69, yX11_isIn), (RX8, 63, yX11_held), (RX8, 93, yX11_isIn), (RX10, 68, yX11_isIn), (RX11, 9, yX9_init), (RX11, 18, yX1_init), (RX11, 65, yX0_init), (RX11, 72, yX4_init)]
def dE (G : dG) (A : Nat → Prop) (U : State) (H : Heap) : Prop :=
  (∀ (j : Nat) (q : String × String × List Int32), dZs[j]? = some q → va_Z q.1 q.2.1 "[I" (.ref (G.2.2 (1000 + j))) A U H ∧ va_T .int (G.2.2 (1000 + j)) q.2.2.length (fun i => .int (q.2.2.getD i 0)) A U H) ∧
  (∀ (j : Nat) (q : String × Nat × String × List Int32), dKs[j]? = some q → vk_R q.1 q.2.1 q.2.2.1 (G.2.2 (2000 + j)) U ∧ va_O "java/lang/String" (G.2.2 (2000 + j)) A U H ∧ va_OF "java/lang/String" "coder" "B" (.int 0) (G.2.2 (2000 + j)) A U H ∧ va_OF "java/lang/String" "value" "[B" (.ref (G.2.2 (3000 + j))) (G.2.2 (2000 + j)) A U H ∧ va_T .byte (G.2.2 (3000 + j)) q.2.2.2.length (fun i => .int (q.2.2.2.getD i 0)) A U H) ∧
  va_Z "java/lang/String" "COMPACT_STRINGS" "Z" (.int 1) A U H ∧
  (∀ q ∈ dNs, va_Nw (.methodLinkNest q.1 q.2.1 q.2.2 "FreeAlderman") U) ∧
  (va_Z "jdk/internal/util/Preconditions" "SIOOBE_FORMATTER" "Ljava/util/function/BiFunction;" .null A U H ∨ va_Z "jdk/internal/util/Preconditions" "SIOOBE_FORMATTER" "Ljava/util/function/BiFunction;" (.ref (G.2.2 4000)) A U H) ∧ va_AOA .int U
theorem dE.same {G : dG} {A : Nat → Prop} {u U : State} {H : Heap} (hv : U.vm = u.vm) (h : dE G A u H) : dE G A U H := by
  obtain ⟨h1, h2, h3, h4, h5, h6⟩ := h
  have hal : u.vm.Alike U.vm := by rw [hv]; exact Vm.Alike.refl _
  refine ⟨fun j q hq => ⟨(h1 j q hq).1.moved hal, (h1 j q hq).2.moved hal⟩, fun j q hq => ?_, h3.moved hal, fun q hq => va_Nw.same rfl hv.symm (h4 q hq), h5.imp (·.moved hal) (·.moved hal), h6.moved hal⟩
  obtain ⟨g1, g2, g3, g4, g5⟩ := h2 j q hq
  exact ⟨g1.same hv, va_O.moved hal g2, va_OF.moved hal g3, va_OF.moved hal g4, va_T.moved hal g5⟩
theorem dE.step {G : dG} {A A2 : Nat → Prop} {s U : State} {H : Heap} {locs : List Loc} (h : dE G A s s.heap) (hS : va_S A s.heap H locs) (hW : s.WarmedH U.vm) (hAB : ∀ q, A2 q → A q) : dE G A2 U H := by
  obtain ⟨h1, h2, h3, h4, h5, h6⟩ := h
  refine ⟨fun j q hq => ⟨((h1 j q hq).1.moved hW.alike).kept hS.2.1 |>.narrow hAB, ((h1 j q hq).2.moved hW.alike).kept hS.2.1 |>.narrow hAB⟩, fun j q hq => ?_, (h3.moved hW.alike).kept hS.2.1 |>.narrow hAB, fun q hq => va_Nw.warmM hW (h4 q hq), h5.imp (fun z => ((z.moved hW.alike).kept hS.2.1).narrow hAB) (fun z => ((z.moved hW.alike).kept hS.2.1).narrow hAB), h6.moved hW.alike⟩
  obtain ⟨g1, g2, g3, g4, g5⟩ := h2 j q hq
  exact ⟨g1.warm hW, ((va_O.moved hW.alike g2).kept hS.2.1).narrow hAB, ((va_OF.moved hW.alike g3).kept hS.2.1).narrow hAB, ((va_OF.moved hW.alike g4).kept hS.2.1).narrow hAB, ((va_T.moved hW.alike g5).kept hS.2.1).narrow hAB⟩
def dFix (p : Program) (s : State) (m : MethodId) (meth : Method) (c : Code) (args : Array Value) (own : String) (cc : ByteArray) (nL : Nat) (rt : Option FieldType) : Prop :=
  p.tables.exec = Jvm.exec ∧ c.code = cc ∧ c.maxLocals = nL ∧ s.vm.findClass own = some m.cls ∧ (∀ w ∈ dWs, w.before args s = true) ∧ meth.sig.returnType = rt ∧ meth.locks = false
/-- the static rows' contents, as the abstract heap has them -/
def dEx (h : dH) : Prop := ∀ (j : Nat) (q : String × String × List Int32), dZs[j]? = some q → ∀ i, h.1 (1000 + j) i = q.2.2.getD i 0
def dSt (X : dX) (G : dG) (A : Nat → Prop) (s : State) (h : dH) (H : Heap) (locs : List Loc) : Prop :=
  va_K G.1 vwCl (dTys G) s ∧ va_P G.1 vwCl (dW X G h) H ∧ dInj X G ∧ (∀ k : Nat, k < X.1.length → A (G.2.2 k)) ∧ va_S A s.heap H locs ∧ dE G A s s.heap ∧ (∀ q, s.heap.size ≤ q → A q) ∧ X.1.length ≤ 1000 ∧ dEx h
theorem dD {X : dX} {G : dG} {A : Nat → Prop} {h : dH} (hI : dInj X G) (hA : ∀ k : Nat, k < X.1.length → A (G.2.2 k)) : va_D A (dW X G h) := by
  have at' : ∀ (i : Nat) (q : Nat × va_E), (dW X G h)[i]? = some q → i < X.1.length ∧ q.1 = G.2.2 i := by
    intro i q hq
    unfold dW at hq
    rw [List.getElem?_mapIdx] at hq
    cases hx : X.1[i]? with
    | none => rw [hx] at hq; cases hq
    | some z =>
      rw [hx] at hq
      cases hq
      exact ⟨(List.getElem?_eq_some_iff.mp hx).1, rfl⟩
  refine ⟨fun i j a b ha hb e => ?_, fun k q hq => ?_⟩
  · obtain ⟨a1, a2⟩ := at' i a ha
    obtain ⟨b1, b2⟩ := at' j b hb
    exact hI i j a1 b1 (by rw [← a2, ← b2]; exact e)
  · obtain ⟨a1, a2⟩ := at' k q hq
    rw [a2]
    exact hA k a1
def dQ (X : dX) (G : dG) (A : Nat → Prop) (r : Option Value) (h' : dH) : Array Value → State → Outcome → State → Prop := fun _ st oc t =>
  oc = .returned (r.map (dv G)) ∧ va_P G.1 vwCl (dW X G h') t.heap ∧ va_F A st t ∧ dEx h'
/-- from pc on, with these locals, this stack and this heap, the method comes to its end with what o says (none: nothing is said) -/
def B {α : Type} (X : dX) (D : Nat) (own : String) (cc : ByteArray) (nL : Nat) (rt : Option FieldType) (φ : α → Option Value × dH) (pc : Nat) (ls st : List Value) (h : dH) (o : Option α) : Prop :=
  ∀ x : α, o = some x → ∀ (p : Program) (l : Launch) (e : Env) (s : State) (m : MethodId) (args : Array Value) (below : List Frame) (meth : Method) (c : Code) (G : dG) (A : Nat → Prop) (H : Heap) (locs : List Loc) (lsA : Array Slot),
    dFix p s m meth c args own cc nL rt → dSt X G A s h H locs → lv_has lsA nL (dL G 0 ls) →
    W p l e (dRm D) s m args below meth c H locs 0 0 (MQ below (dQ X G A (φ x).1 (φ x).2) args s 0 0 A) (F0 m pc lsA (st.map (dv G)))
def T {α : Type} (X : dX) (D : Nat) (y : MethodName) (cc : ByteArray) (nL : Nat) (rt : Option FieldType) (φ : α → Option Value × dH) (as : List Value) (h : dH) (o : Option α) : Prop :=
  ∀ x : α, o = some x → ∀ (l : Launch) (G : dG) (sz : Nat),
    Met l y (.code y cc nL rt :: dWs) (dRm D) (va_Pc (as.map (dv G)) (fun U => U.heap.size = sz ∧ va_P G.1 vwCl (dW X G h) U.heap ∧ va_K G.1 vwCl (dTys G) U ∧ dInj X G ∧ dE G (dA X G sz) U U.heap ∧ X.1.length ≤ 1000 ∧ dEx h))
      (dQ X G (dA X G sz) (φ x).1 (φ x).2) 0 0 (dA X G sz)
/-- a method's contract out of its walk -/
theorem T_of {α : Type} {X : dX} {D : Nat} {y : MethodName} {cc : ByteArray} {nL : Nat} {rt : Option FieldType} {φ : α → Option Value × dH} {as : List Value} {h : dH} {o : Option α} (ls : List Value) (hy : plainName y.cls = true)
    (hl : ∀ G : dG, dL G 0 ls = lv_args 0 (as.map (dv G))) (hn : ∀ G : dG, (lg_sl (as.map (dv G))).length ≤ nL) (k : B X D y.cls cc nL rt φ 0 ls [] h o) : T X D y cc nL rt φ as h o := by
  intro x hx l G sz
  refine Met.ofW (cc := cc) (maxL := nL) (ret := rt) hy rfl ?_
  intro p e s m args below meth c s₁ Bd hml hv
  obtain ⟨rfl, hsz, hP, hK, hI, hE, hlen, hEx⟩ := hv
  subst hsz
  have hts := atoms_spec (ws := .code y cc nL rt :: dWs) Bd.pre
  have hown : s.vm.findClass y.cls = some m.cls := findClass_of_methodNamed Bd.named
  have hen := lv_entry (as.map (dv G)) (n := nL) (hn G)
  rw [lg_entry_eq]
  generalize (lg_sl (as.map (dv G)) ++ List.replicate (nL - (lg_sl (as.map (dv G))).length) Slot.unset).toArray = lsA at hen ⊢
  rw [← hl G] at hen
  exact k x hx p l e s m _ below meth c G (dA X G s.heap.size) s.heap [] lsA ⟨Bd.exec, Bd.bytes, hml, hown, fun w hw => hts w (List.mem_cons_of_mem _ hw), Bd.returns, Bd.notSynchronized⟩
    ⟨hK, hP, hI, fun k hk => Or.inl ⟨k, hk, rfl⟩, va_S.rf, hE, fun q hq => Or.inr hq, hlen, hEx⟩ hen
section BR
variable {α : Type} {X : dX} {D : Nat} {own : String} {cc : ByteArray} {nL : Nat} {rt : Option FieldType} {φ : α → Option Value × dH} {pc : Nat} {ls st : List Value} {h : dH} {o : Option α}
theorem B_none : B X D own cc nL rt φ pc ls st h none := fun x hx => by cases hx
theorem B_eq {o2 : Option α} (e : o = o2) (k : B X D own cc nL rt φ pc ls st h o2) : B X D own cc nL rt φ pc ls st h o := e ▸ k
theorem lv_less {lsA : Array Slot} {l l' : List (Nat × Value)} (h : lv_has lsA nL l) (hs : ∀ q ∈ l', q ∈ l) : lv_has lsA nL l' := ⟨h.1, h.2.1, fun q hq => h.2.2 q (hs q hq)⟩
theorem dL_at {G : dG} {lsA : Array Slot} {i : Nat} {v : Value} (hl : lv_has lsA nL (dL G 0 ls)) (hv : dget ls i = some v) (hn : v ≠ .null) : lsA[i]? = some (.val (dv G v)) :=
  hl.2.2 (i, dv G v) ((dL_mem G ls 0).mpr ⟨i, v, by rw [← dget_eq]; exact hv, hn, by rw [Nat.zero_add]⟩)
/-- a local is forgotten -/
theorem B_drop (i : Nat) {ls' : List Value} (e : dset ls i .null = ls') (k : B X D own cc nL rt φ pc ls' st h o) : B X D own cc nL rt φ pc ls st h o := by
  intro x hx p l e1 s m args below meth c G A H locs lsA F S L
  refine k x hx p l e1 s m args below meth c G A H locs lsA F S (lv_less L fun q hq => ?_)
  subst e
  obtain ⟨j, v, h1, h2, h3⟩ := (dL_mem G _ 0).mp hq
  rw [dset_eq, List.getElem?_set] at h1
  refine (dL_mem G _ 0).mpr ⟨j, v, ?_, h2, h3⟩
  by_cases e : i = j
  · rw [if_pos e] at h1
    split at h1
    · cases h1; exact absurd rfl h2
    · cases h1
  · rw [if_neg e] at h1
    exact h1
theorem dL_store {G : dG} {i : Nat} {v : Value} (hn : dno2 ls i = true) : ∀ q ∈ dL G 0 (dset ls i v), q ∈ (i, dv G v) :: (dL G 0 ls).filter (fun q => !(q.1 == i) && !(q.1 + 1 == i && q.2.category == 2)) := by
  intro q hq
  obtain ⟨j, w, h1, h2, h3⟩ := (dL_mem G _ 0).mp hq
  rw [Nat.zero_add] at h3
  rw [dset_eq, List.getElem?_set] at h1
  by_cases e : i = j
  · rw [if_pos e] at h1
    split at h1
    · cases h1
      rw [h3, ← e]
      exact List.mem_cons_self
    · cases h1
  · rw [if_neg e] at h1
    refine List.mem_cons_of_mem _ (List.mem_filter.mpr ⟨(dL_mem G _ 0).mpr ⟨j, w, h1, h2, by rw [h3, Nat.zero_add]⟩, ?_⟩)
    subst h3
    have e1 : (j == i) = false := by simpa using fun z : j = i => e z.symm
    rw [e1]
    by_cases e2 : j + 1 = i
    · subst e2
      have h4 : w.category = 1 := by
        unfold dno2 at hn
        dsimp only at hn
        rw [dget_eq, h1] at hn
        cases w <;> simp_all [Value.category]
      simp [dv_cat, h4]
    · simp [e2]
theorem dL_store2 {G : dG} {i : Nat} {v : Value} (hn : dno2 ls i = true) : ∀ q ∈ dL G 0 (dset (dset ls i v) (i + 1) .null), q ∈ (i, dv G v) :: (dL G 0 ls).filter (fun q => !(q.1 == i) && (!(q.1 == i + 1) && !(q.1 + 1 == i && q.2.category == 2))) := by
  intro q hq
  obtain ⟨j, w, h1, h2, h3⟩ := (dL_mem G _ 0).mp hq
  rw [Nat.zero_add] at h3
  rw [dset_eq, List.getElem?_set] at h1
  by_cases e0 : i + 1 = j
  · rw [if_pos e0] at h1
    split at h1
    · cases h1; exact absurd rfl h2
    · cases h1
  · rw [if_neg e0] at h1
    have hq2 : q ∈ dL G 0 (dset ls i v) := (dL_mem G _ 0).mpr ⟨j, w, h1, h2, by rw [h3, Nat.zero_add]⟩
    rcases List.mem_cons.mp (dL_store hn q hq2) with z | z
    · rw [z]; exact List.mem_cons_self
    · refine List.mem_cons_of_mem _ (List.mem_filter.mpr ⟨(List.mem_filter.mp z).1, ?_⟩)
      have z2 := (List.mem_filter.mp z).2
      subst h3
      have e3 : (j == i + 1) = false := by simpa using fun z : j = i + 1 => e0 z.symm
      rw [e3]
      simpa using z2
end BR
