/-! rules of calls -/
/-- a method that can be called: its words -/
def dMw (y : MethodName) (cc : ByteArray) (nL : Nat) (rt : Option FieldType) (n : Nat) : Prop :=
  Cond.code y cc nL rt ∈ dWs ∧ Cond.initialized y.cls ∈ dWs ∧ (y.cls ≠ "java/lang/invoke/MethodHandle" ∧ y.cls ≠ "java/lang/invoke/VarHandle" ∧ (parseMethodDescriptor y.desc).map (fun d => d.parameters.length) = some n) ∧ nL ≤ 41
def dMv (y : MethodName) : Prop := Cond.instanceMethod y ∈ dWs ∧ Cond.selects y.cls y y ∈ dWs
section BC
variable {α β : Type} {X : dX} {D D' : Nat} {own : String} {cc : ByteArray} {nL : Nat} {rt : Option FieldType} {φ : α → Option Value × dH} {ψ : β → Option Value × dH} {pc : Nat} {ls st as : List Value} {h : dH} {o : Option α} {ob : Option β} {y : MethodName} {cy : ByteArray} {ny n idx : Nat} {ry : Option FieldType}
theorem dGood (y : MethodName) (cy : ByteArray) (ny : Nat) (ry : Option FieldType) (h : Cond.code y cy ny ry ∈ dWs) : GoodIn dWs (.code y cy ny ry :: dWs) := fun w hw => by
  rcases List.mem_cons.mp hw with rfl | q
  · exact dWs_good _ h
  · exact dWs_good _ q
/-- behind a call -/
theorem dGo {p : Program} {l : Launch} {e : Env} {s : State} {m : MethodId} {args : Array Value} {below : List Frame} {meth : Method} {c : Code} {G : dG} {A : Nat → Prop} {H : Heap} {locs : List Loc} {lsA : Array Slot} {x : α} {z : β} {rest : List Value} {st0 : List Value} {av : Array Value}
    (hr : va_Run p l e (dRm D) s m args below meth c H locs 0 0 0 0 (F0 m pc lsA st0) (rest.map (dv G)) (dQ X G (dA X G H.size) (ψ z).1 (ψ z).2 av) (dA X G H.size)) (S : dSt X G A s h H locs)
    (K : ∀ (H1 : Heap) (locs1 : List Loc), dSt X G A s (ψ z).2 H1 locs1 → W p l e (dRm D) s m args below meth c H1 locs1 0 0 (MQ below (dQ X G A (φ x).1 (φ x).2) args s 0 0 A) (F0 m (pc + 3) lsA (((ψ z).1.toList ++ rest).map (dv G)))) :
    W p l e (dRm D) s m args below meth c H locs 0 0 (MQ below (dQ X G A (φ x).1 (φ x).2) args s 0 0 A) (F0 m pc lsA st0) := by
  obtain ⟨S1, S2, S3, S4, S5, S6, S7, S8, S9⟩ := S
  have hAA : ∀ q, dA X G H.size q → A q := by
    rintro q (⟨k, hk, rfl⟩ | hq)
    · exact S4 k hk
    · exact S7 q (Nat.le_trans S5.1 hq)
  intro U hU XX
  obtain ⟨v, st₀, t, U', L, h0, X', hL, e1, e2, ⟨hv, hP, ⟨hz, hk⟩, hex⟩, stp⟩ := hr U hU XX
  rw [h0] at hz hk
  have hv2 : v = (ψ z).1.map (dv G) := by cases hv; rfl
  obtain ⟨t2, a1, b1⟩ := K U'.heap (locs ++ L) ⟨S1, by rw [e1]; exact hP, S3, S4, ⟨Nat.le_trans S5.1 (by rw [e1]; exact hz), fun q g1 g2 => by rw [e1, hk q (Nat.lt_of_lt_of_le g1 S5.1) (fun w => g2 (hAA q w))]; exact S5.2.1 q g1 g2, fun q hq => by
      rcases List.mem_append.mp hq with w | w
      · exact S5.2.2 q w
      · exact hAA _ (hL q w)⟩, S6, S7, S8, hex⟩ U' rfl X'
  refine ⟨t2, stp t2 ?_, b1⟩
  rw [hv2]
  have e3 : ((ψ z).1.toList ++ rest).map (dv G) = ((ψ z).1.map (dv G)).toList ++ rest.map (dv G) := by
    cases (ψ z).1 <;> simp
  rw [e3] at a1
  exact a1
/-- the start that a call gives -/
theorem dPre {p : Program} {s : State} {m : MethodId} {meth : Method} {c : Code} {args : Array Value} {G : dG} {A : Nat → Prop} {H : Heap} {locs : List Loc} (S : dSt X G A s h H locs) :
    FrameBlind (va_Pc (as.map (dv G)) (fun U => U.heap.size = H.size ∧ va_P G.1 vwCl (dW X G h) U.heap ∧ va_K G.1 vwCl (dTys G) U ∧ dInj X G ∧ dE G (dA X G H.size) U U.heap ∧ X.1.length ≤ 1000 ∧ dEx h)) ∧
    ∀ U : State, U.heap = H → s.WarmedH U.vm → va_Pc (as.map (dv G)) (fun U => U.heap.size = H.size ∧ va_P G.1 vwCl (dW X G h) U.heap ∧ va_K G.1 vwCl (dTys G) U ∧ dInj X G ∧ dE G (dA X G H.size) U U.heap ∧ X.1.length ≤ 1000 ∧ dEx h) (as.map (dv G)).toArray U := by
  obtain ⟨S1, S2, S3, S4, S5, S6, S7, S8, S9⟩ := S
  have hAA : ∀ q, dA X G H.size q → A q := by
    rintro q (⟨k, hk, rfl⟩ | hq)
    · exact S4 k hk
    · exact S7 q (Nat.le_trans S5.1 hq)
  refine ⟨fun a U g mk ⟨q0, q1, q2, q3, q4, q5, q6, q7⟩ => ⟨q0, q1, q2, va_K.moved (u := U) (U := U.calling g mk a) (Vm.Alike.refl U.vm) q3, q4, dE.same (u := U) (U := U.calling g mk a) rfl q5, q6, q7⟩, fun U hU hW => ⟨rfl, by rw [hU], by rw [hU]; exact S2, va_K.moved hW.alike S1, S3, ?_, S8, S9⟩⟩
  rw [hU]
  exact S6.step S5 hW hAA
theorem dRoom {D D' ny : Nat} (hD : D' + 1 ≤ D) (hn : ny ≤ 41) : (dRm D').frames + 1 ≤ (dRm D).frames ∧ 8 + (ny + 11) + (dRm D').locals ≤ (dRm D).locals := by
  refine ⟨hD, ?_⟩
  show 8 + (ny + 11) + 60 * D' ≤ 60 * D
  omega
theorem dWst {m : MethodId} {lsA : Array Slot} {G : dG} {st0 : List Value} (hw : dwd st ≤ 8) : 2 * (F0 m pc lsA st0).monitorRoom + ((st.map (dv G)).map fun v => v.category).sum ≤ 8 := by
  rw [dwd_eq]
  show 2 * 0 + dwd st ≤ 8
  omega
theorem B_callV {ci a : Nat} {q : vw_C} {e : β → Option α} {st0 : List Value} (hd : decode cc pc = .ok (.invokevirtual idx, 3)) (hl : Cond.methodLink own idx y ∈ dWs) (hm : dMw y cy ny ry n) (hv : dMv y) (hT : T X D' y cy ny ry ψ (.ref a :: as) h ob) (hD : D' + 1 ≤ D) (hs : X.1[a]? = some (.inl ci)) (hq : vwCl[ci]? = some q) (hqc : q.1 = y.cls) (hn : as.length = n) (hst : st0 = as.reverse ++ .ref a :: st) (hw : dwd st ≤ 8)
    (K : ∀ z : β, ob = some z → B X D own cc nL rt φ (pc + 3) ls ((ψ z).1.toList ++ st) (ψ z).2 (e z)) : B X D own cc nL rt φ pc ls st0 h (ob.bind e) := by
  intro x hx p l e1 s m args below meth c G A H locs lsA F S L
  obtain ⟨z, hz, hx2⟩ := Option.bind_eq_some_iff.mp hx
  obtain ⟨m1, m2, m3, m4⟩ := hm
  have hpre := dPre (p := p) (m := m) (meth := meth) (c := c) (args := args) (as := .ref a :: as) S
  have hrun := va_runV (e := e1) (As := as.map (dv G)) (rest := st.map (dv G)) (b := G.2.2 a) (g := F0 m pc lsA (st0.map (dv G))) (C := y.cls) (cells := 0) (slots := 0) (locs := locs) (below := below) (meth := meth) ⟨F.1, F.2.1, F.2.2.1, F.2.2.2.1, F.2.2.2.2.1⟩ (hT z hz l G H.size)
    (⟨callB_of n F.2.2.2.2.1 (dGood y cy ny ry m1) rfl rfl rfl (F.2.2.2.2.1 _ m2) (F.2.2.2.2.1 _ hl) m3 (dRoom hD m4), F.2.2.2.2.1 _ hv.1, F.2.2.2.2.1 _ hv.2⟩ : CallW (dRm D) s args own y.cls idx y cy ny ry _ _ 0 0 n)
    ⟨hpre.1, by rw [← hqc]; exact va_recv S.1 S.2.1 hq (dW_get hs), hpre.2⟩ rfl (by rw [List.length_map]; exact hn) L.1 (by subst hst; show List.map (dv G) _ = _; rw [List.map_append, List.map_reverse]; rfl) (dWst hw) hd ⟨Nat.le_refl _, Nat.le_refl _⟩
  exact dGo hrun S (fun H1 locs1 S2 => K z hz x hx2 p l e1 s m args below meth c G A H1 locs1 lsA F S2 L)
theorem B_callS {e : β → Option α} {st0 : List Value} (hd : decode cc pc = .ok (.invokestatic idx, 3)) (hl : Cond.methodLink own idx y ∈ dWs) (hm : dMw y cy ny ry n) (hv : Cond.static y ∈ dWs) (hT : T X D' y cy ny ry ψ as h ob) (hD : D' + 1 ≤ D) (hn : as.length = n) (hst : st0 = as.reverse ++ st) (hw : dwd st ≤ 8)
    (K : ∀ z : β, ob = some z → B X D own cc nL rt φ (pc + 3) ls ((ψ z).1.toList ++ st) (ψ z).2 (e z)) : B X D own cc nL rt φ pc ls st0 h (ob.bind e) := by
  intro x hx p l e1 s m args below meth c G A H locs lsA F S L
  obtain ⟨z, hz, hx2⟩ := Option.bind_eq_some_iff.mp hx
  obtain ⟨m1, m2, m3, m4⟩ := hm
  have hpre := dPre (p := p) (m := m) (meth := meth) (c := c) (args := args) (as := as) S
  have hrun := va_runS (e := e1) (As := as.map (dv G)) (rest := st.map (dv G)) (g := F0 m pc lsA (st0.map (dv G))) (cells := 0) (slots := 0) (locs := locs) (below := below) (meth := meth) ⟨F.1, F.2.1, F.2.2.1, F.2.2.2.1, F.2.2.2.2.1⟩ (hT z hz l G H.size)
    (⟨callB_of n F.2.2.2.2.1 (dGood y cy ny ry m1) rfl rfl rfl (F.2.2.2.2.1 _ m2) (F.2.2.2.2.1 _ hl) m3 (dRoom hD m4), F.2.2.2.2.1 _ hv⟩ : CallB (dRm D) s args own idx y cy ny ry _ _ 0 0 n ∧ _)
    hpre rfl (by rw [List.length_map]; exact hn) L.1 (by subst hst; show List.map (dv G) _ = _; rw [List.map_append, List.map_reverse]) (dWst hw) hd ⟨Nat.le_refl _, Nat.le_refl _⟩
  exact dGo hrun S (fun H1 locs1 S2 => K z hz x hx2 p l e1 s m args below meth c G A H1 locs1 lsA F S2 L)
/-- a private static of the nest -/
theorem B_callN {e : β → Option α} {st0 : List Value} (hd : decode cc pc = .ok (.invokestatic idx, 3)) (hl : (own, idx, y) ∈ dNs) (hm : dMw y cy ny ry n) (hv : Cond.static y ∈ dWs) (hT : T X D' y cy ny ry ψ as h ob) (hD : D' + 1 ≤ D) (hn : as.length = n) (hst : st0 = as.reverse ++ st) (hw : dwd st ≤ 8)
    (K : ∀ z : β, ob = some z → B X D own cc nL rt φ (pc + 3) ls ((ψ z).1.toList ++ st) (ψ z).2 (e z)) : B X D own cc nL rt φ pc ls st0 h (ob.bind e) := by
  intro x hx p l e1 s m args below meth c G A H locs lsA F S L
  obtain ⟨z, hz, hx2⟩ := Option.bind_eq_some_iff.mp hx
  obtain ⟨m1, m2, m3, m4⟩ := hm
  have hpre := dPre (p := p) (m := m) (meth := meth) (c := c) (args := args) (as := as) S
  have hrun := va_runSN (e := e1) (As := as.map (dv G)) (rest := st.map (dv G)) (g := F0 m pc lsA (st0.map (dv G))) (cells := 0) (slots := 0) (locs := locs) (below := below) (meth := meth) ⟨F.1, F.2.1, F.2.2.1, F.2.2.2.1, F.2.2.2.2.1⟩ (hT z hz l G H.size)
    ⟨va_cnB n F.2.2.2.2.1 (dGood y cy ny ry m1) rfl rfl rfl (S.2.2.2.2.2.1.2.2.2.1 (own, idx, y) hl) (F.2.2.2.2.1 _ m2) m3 (dRoom hD m4), F.2.2.2.2.1 _ hv, trivial⟩
    hpre rfl (by rw [List.length_map]; exact hn) L.1 (by subst hst; show List.map (dv G) _ = _; rw [List.map_append, List.map_reverse]) (dWst hw) hd ⟨Nat.le_refl _, Nat.le_refl _⟩
  exact dGo hrun S (fun H1 locs1 S2 => K z hz x hx2 p l e1 s m args below meth c G A H1 locs1 lsA F S2 L)
end BC
