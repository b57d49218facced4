/-! constructors: a world in the making. Y: the world as it will be; gr: its rows of rows (place, how many); n: how many places stand; L: the references that are set -/
def dgr (gr : List (Nat × Nat)) (a : Nat) : Bool := gr.any (fun q => q.1 == a)
def dXP (Y : dX) (gr : List (Nat × Nat)) (n : Nat) (L : List (Nat × Nat)) : dX := (Y.1.take n, fun t a k => if L.contains (a, k) || (dgr gr a && decide (a < n)) then Y.2 t a k else none)
def dRmA (D C S : Nat) : Room := { frames := D, cells := C, slots := S, locals := 60 * D }
def dExt (n : Nat) (G G' : dG) : Prop := G'.1 = G.1 ∧ G'.2.1 = G.2.1 ∧ ∀ k, (k < n ∨ 1000 ≤ k) → G'.2.2 k = G.2.2 k
theorem dExt.rf {n : Nat} {G : dG} : dExt n G G := ⟨rfl, rfl, fun _ _ => rfl⟩
theorem dExt.tr {n n' : Nat} {G G1 G2 : dG} (h1 : dExt n G G1) (h2 : dExt n' G1 G2) (hn : n ≤ n') : dExt n G G2 :=
  ⟨h2.1.trans h1.1, h2.2.1.trans h1.2.1, fun k hk => (h2.2.2 k (hk.imp (fun z => Nat.lt_of_lt_of_le z hn) id)).trans (h1.2.2 k hk)⟩
def dOk (n : Nat) : List Value → Bool
  | [] => true
  | .ref k :: t => (decide (k < n) || decide (1000 ≤ k)) && dOk n t
  | _ :: t => dOk n t
theorem dOk_cons {n : Nat} {v : Value} {t : List Value} (h : dOk n (v :: t) = true) : dOk n t = true ∧ ∀ k, v = .ref k → (k < n ∨ 1000 ≤ k) := by
  cases v with
  | ref k =>
    simp only [dOk, Bool.and_eq_true, Bool.or_eq_true, decide_eq_true_eq] at h
    exact ⟨h.2, fun k2 e => by cases e; exact h.1⟩
  | _ => exact ⟨h, fun k e => by cases e⟩
theorem dv_ext {n : Nat} {G G' : dG} (hx : dExt n G G') {v : Value} (h : ∀ k, v = .ref k → (k < n ∨ 1000 ≤ k)) : dv G' v = dv G v := by
  cases v with
  | ref k => show Value.ref _ = Value.ref _; rw [hx.2.2 k (h k rfl)]
  | _ => rfl
theorem dv_exts {n : Nat} {G G' : dG} (hx : dExt n G G') : ∀ (st : List Value), dOk n st = true → st.map (dv G') = st.map (dv G)
  | [], _ => rfl
  | v :: t, h => by
    obtain ⟨h1, h2⟩ := dOk_cons h
    rw [List.map_cons, List.map_cons, dv_ext hx h2, dv_exts hx t h1]
theorem dL_exts {n : Nat} {G G' : dG} (hx : dExt n G G') : ∀ (ls : List Value) (i : Nat), dOk n ls = true → dL G' i ls = dL G i ls
  | [], _, _ => rfl
  | v :: t, i, h => by
    obtain ⟨h1, h2⟩ := dOk_cons h
    have ih := dL_exts hx t (i + 1) h1
    have hv := dv_ext hx h2
    cases v with
    | null => exact ih
    | _ => show (i, _) :: _ = (i, _) :: _; rw [ih, hv]
theorem dE.ext {G G' : dG} {A : Nat → Prop} {U : State} {H : Heap} (hk : ∀ k, 1000 ≤ k → G'.2.2 k = G.2.2 k) (h : dE G A U H) : dE G' A U H := by
  obtain ⟨h1, h2, h3, h4, h5, h6⟩ := h
  refine ⟨fun j q hq => ?_, fun j q hq => ?_, h3, h4, ?_, h6⟩
  · rw [hk (1000 + j) (by omega)]; exact h1 j q hq
  · rw [hk (2000 + j) (by omega), hk (3000 + j) (by omega)]; exact h2 j q hq
  · rw [hk 4000 (by omega)]; exact h5
def dQA (n : Nat) (X' : dX) (G : dG) (A : Nat → Prop) (h' : dH) : Array Value → State → Outcome → State → Prop := fun _ st oc t =>
  oc = .returned none ∧ (∃ G' : dG, dExt n G G' ∧ va_P G'.1 vwCl (dW X' G' h') t.heap ∧ dInj X' G' ∧ ∀ k, k < X'.1.length → A (G'.2.2 k)) ∧ va_F A st t ∧ dEx h'
def BA (C S D : Nat) (own : String) (cc : ByteArray) (nL : Nat) (pc : Nat) (ls st : List Value) (X : dX) (h : dH) (c0 s0 : Nat) (X' : dX) (h' : dH) : Prop :=
  ∀ (p : Program) (l : Launch) (e : Env) (s : State) (m : MethodId) (args : Array Value) (below : List Frame) (meth : Method) (c : Code) (G : dG) (A : Nat → Prop) (H : Heap) (locs : List Loc) (lsA : Array Slot),
    dFix p s m meth c args own cc nL none → meth.name = "<init>" → dSt X G A s h H locs → lv_has lsA nL (dL G 0 ls) →
    W p l e (dRmA D C S) s m args below meth c H locs c0 s0 (MQ below (dQA X.1.length X' G A h') args s C S A) (F0 m pc lsA (st.map (dv G)))
def TI (C S D : Nat) (y : MethodName) (cc : ByteArray) (nL : Nat) (as : List Value) (X : dX) (h : dH) (X' : dX) (h' : dH) : Prop :=
  ∀ (l : Launch) (G : dG) (sz : Nat),
    Met l y (.code y cc nL none :: dWs) (dRmA D C S) (va_Pc (as.map (dv G)) (fun U => U.heap.size = sz ∧ va_P G.1 vwCl (dW X G h) U.heap ∧ va_K G.1 vwCl (dTys G) U ∧ dInj X G ∧ dE G (dA X G sz) U U.heap ∧ X.1.length ≤ 1000 ∧ dEx h))
      (dQA X.1.length X' G (dA X G sz) h') C S (dA X G sz)
theorem TI_of {C S D : Nat} {y : MethodName} {cc : ByteArray} {nL : Nat} {as : List Value} {X : dX} {h : dH} {X' : dX} {h' : dH} (ls : List Value) (hy : plainName y.cls = true) (hnm : y.name = "<init>")
    (hl : ∀ G : dG, dL G 0 ls = lv_args 0 (as.map (dv G))) (hn : ∀ G : dG, (lg_sl (as.map (dv G))).length ≤ nL) (k : BA C S D y.cls cc nL 0 ls [] X h 0 0 X' h') : TI C S D y cc nL as X h X' h' := by
  intro l G sz
  refine Met.ofW (cc := cc) (maxL := nL) (ret := none) hy rfl ?_
  intro p e s m args below meth c s₁ Bd hml hv
  obtain ⟨rfl, hsz, hP, hK, hI, hE, hlen, hEx⟩ := hv
  subst hsz
  have hts := atoms_spec (ws := .code y cc nL none :: dWs) Bd.pre
  have hown : s.vm.findClass y.cls = some m.cls := findClass_of_methodNamed Bd.named
  have hen := lv_entry (as.map (dv G)) (n := nL) (hn G)
  rw [lg_entry_eq]
  generalize (lg_sl (as.map (dv G)) ++ List.replicate (nL - (lg_sl (as.map (dv G))).length) Slot.unset).toArray = lsA at hen ⊢
  rw [← hl G] at hen
  exact k p l e s m _ below meth c G (dA X G s.heap.size) s.heap [] lsA ⟨Bd.exec, Bd.bytes, hml, hown, fun w hw => hts w (List.mem_cons_of_mem _ hw), Bd.returns, Bd.notSynchronized⟩ (hnm ▸ (name_of_methodNamed Bd.named Bd.method).1)
    ⟨hK, hP, hI, fun k hk => Or.inl ⟨k, hk, rfl⟩, va_S.rf, hE, fun q hq => Or.inr hq, hlen, hEx⟩ hen
theorem W.mono {p : Program} {l : Launch} {e : Env} {R : Room} {s : State} {m : MethodId} {args : Array Value} {below : List Frame} {meth : Method} {c : Code} {H : Heap} {locs : List Loc} {cells slots : Nat} {Q Q' : State → Prop} {g : JFrame} (hq : ∀ t, Q t → Q' t) (k : W p l e R s m args below meth c H locs cells slots Q g) : W p l e R s m args below meth c H locs cells slots Q' g := by
  intro T hT X
  obtain ⟨t, a, b⟩ := k T hT X
  exact ⟨t, a, hq t b⟩
theorem dQA.mono {n n' : Nat} {X' : dX} {G G1 : dG} {A : Nat → Prop} {h' : dH} {below : List Frame} {args : Array Value} {s : State} {C S : Nat} (hx : dExt n G G1) (hn : n ≤ n') : ∀ t, MQ below (dQA n' X' G1 A h') args s C S A t → MQ below (dQA n X' G A h') args s C S A t := by
  rintro t ⟨o, h1, h2, ⟨h3, ⟨G', g1, g2⟩, h5⟩, h6⟩
  exact ⟨o, h1, h2, ⟨h3, ⟨G', hx.tr g1 hn, g2⟩, h5⟩, h6⟩
section BN
variable {C S D : Nat} {own : String} {cc : ByteArray} {nL : Nat} {pc : Nat} {ls st : List Value} {X : dX} {h : dH} {c0 s0 : Nat} {X' : dX} {h' : dH}
theorem N_aload_n {k0 : Fin 4} {i : Nat} {v : Nat} (hd : decode cc pc = .ok (.aload_n k0, 1)) (hi : (k0 : Nat) = i) (hl : dget ls i = some (.ref v)) (k : BA C S D own cc nL (pc + 1) ls (.ref v :: st) X h c0 s0 X' h') : BA C S D own cc nL pc ls st X h c0 s0 X' h' := by
  intro p l e s m args below meth c G A H locs lsA F hin Q L
  exact lv_aload_n F.1 F.2.1 hd hi (dL_at L hl (by simp)) (k p l e s m args below meth c G A H locs lsA F hin Q L)
theorem N_iconst {n : Int} {v : Int32} (hd : decode cc pc = .ok (.iconst n, 1)) (hv : Int32.ofInt n = v) (k : BA C S D own cc nL (pc + 1) ls (.int v :: st) X h c0 s0 X' h') : BA C S D own cc nL pc ls st X h c0 s0 X' h' := by
  intro p l e s m args below meth c G A H locs lsA F hin Q L
  exact lv_iconst F.1 F.2.1 hd hv (k p l e s m args below meth c G A H locs lsA F hin Q L)
theorem N_bipush {n : Int} {v : Int32} (hd : decode cc pc = .ok (.bipush n, 2)) (hv : (Int8.ofInt n).toInt32 = v) (k : BA C S D own cc nL (pc + 2) ls (.int v :: st) X h c0 s0 X' h') : BA C S D own cc nL pc ls st X h c0 s0 X' h' := by
  intro p l e s m args below meth c G A H locs lsA F hin Q L
  exact lv_bipush F.1 F.2.1 hd hv (k p l e s m args below meth c G A H locs lsA F hin Q L)
theorem N_sipush {n : Int} {v : Int32} (hd : decode cc pc = .ok (.sipush n, 3)) (hv : (Int16.ofInt n).toInt32 = v) (k : BA C S D own cc nL (pc + 3) ls (.int v :: st) X h c0 s0 X' h') : BA C S D own cc nL pc ls st X h c0 s0 X' h' := by
  intro p l e s m args below meth c G A H locs lsA F hin Q L
  exact lv_sipush F.1 F.2.1 hd hv (k p l e s m args below meth c G A H locs lsA F hin Q L)
theorem N_dup {v : Value} (hd : decode cc pc = .ok (.dup, 1)) (hv : v.category = 1) (k : BA C S D own cc nL (pc + 1) ls (v :: v :: st) X h c0 s0 X' h') : BA C S D own cc nL pc ls (v :: st) X h c0 s0 X' h' := by
  intro p l e s m args below meth c G A H locs lsA F hin Q L
  exact lv_dup F.1 F.2.1 hd ((dv_cat G v).trans hv) (k p l e s m args below meth c G A H locs lsA F hin Q L)
theorem N_ldcS {idx j : Nat} {q : String × Nat × String × List Int32} (hd : decode cc pc = .ok (.ldc idx, 2)) (hq : dKs[j]? = some q) (h1 : q.1 = own) (h2 : q.2.1 = idx) (k : BA C S D own cc nL (pc + 2) ls (.ref (2000 + j) :: st) X h c0 s0 X' h') : BA C S D own cc nL pc ls st X h c0 s0 X' h' := by
  intro p l e s m args below meth c G A H locs lsA F hin Q L
  have hR := (Q.2.2.2.2.2.1.2.1 j q hq).1
  rw [h1, h2] at hR
  exact va_ldcS F.1 F.2.1 F.2.2.2.1 hR hd (k p l e s m args below meth c G A H locs lsA F hin Q L)
theorem N_getR {idx ci k a b : Nat} (hd : decode cc pc = .ok (.getfield idx, 3)) (hf : dFl own idx ci k) (hs : X.1[a]? = some (.inl ci)) (ht : (dTy ci k).isReference = true) (hr : X.2 h.2.2 a k = some b) (K : BA C S D own cc nL (pc + 3) ls (.ref b :: st) X h c0 s0 X' h') : BA C S D own cc nL pc ls (.ref a :: st) X h c0 s0 X' h' := by
  intro p l e s m args below meth c G A H locs lsA F hin Q L
  obtain ⟨q, h1, h2, h3⟩ := hf
  have hv : dFv X G h a ci k = .ref (G.2.2 b) := by
    unfold dFv
    rw [hr]
    revert ht
    cases dTy ci k <;> intro ht <;> first | rfl | (exact absurd ht (by decide))
  refine va_get (D := G.1) (ci := ci) (C := q.1) (T := q.2.1) (N := q.2.2) F.1 F.2.1 F.2.2.2.2.1 (dCl_all ci q h1).1 F.2.2.2.1 Q.1 Q.2.1 a (dW_get hs) h1 k h2 (F.2.2.2.2.1 _ h3) (fun _ z => z) (v := .ref (G.2.2 b)) ?_ hd (K p l e s m args below meth c G A H locs lsA F hin Q L)
  rw [List.getElem?_map, List.getElem?_range (by rw [dN_eq h1]; exact h2), ← hv]
  rfl
theorem N_iast {a n j : Nat} {i v : Int32} (hd : decode cc pc = .ok (.iastore, 1)) (hs : X.1[a]? = some (.inr (0, n))) (hin0 : dIn i n) (hj : dI i = j) (K : BA C S D own cc nL (pc + 1) ls st X (dPut h a j v) c0 s0 X' h') : BA C S D own cc nL pc ls (.int v :: .int i :: .ref a :: st) X h c0 s0 X' h' := by
  subst hj
  intro p l e s m args below meth c G A H locs lsA F hin Q L
  obtain ⟨S1, S2, S3, S4, S5, S6, S7, S8, S9⟩ := Q
  refine va_iast (D := G.1) F.1 F.2.1 S1 S2 (dD S3 S4) S5 a 0 (dW_get hs) rfl (dIn_vp hin0) hd (fun H1 locs1 P1 _ Q1 => ?_)
  rw [dW_set (h := h) (h2 := dPut h a (dI i) v) hs (by show (Sum.inl (_, n, Sum.inl ((dPut h a (dI i) v).1 a)) : va_E) = _; rw [dPut_row]; rfl) (fun b hb => ⟨(dPut_row_ne h _ v hb).symm, rfl⟩) rfl] at P1
  exact K p l e s m args below meth c G A H1 locs1 lsA F hin ⟨S1, P1, S3, S4, Q1, S6, S7, S8, dEx_put S9 (Nat.lt_of_lt_of_le (dlt hs) S8)⟩ L
theorem N_putI {idx ci k a : Nat} {v : Int32} (hd : decode cc pc = .ok (.putfield idx, 3)) (hf : dFl own idx ci k) (hw : dFw ci k) (hs : X.1[a]? = some (.inl ci)) (ht : dTy ci k = .int) (K : BA C S D own cc nL (pc + 3) ls st X (dPut h a k v) c0 s0 X' h') : BA C S D own cc nL pc ls (.int v :: .ref a :: st) X h c0 s0 X' h' := by
  intro p l e s m args below meth c G A H locs lsA F hin Q L
  obtain ⟨q, h1, h2, h3⟩ := hf
  obtain ⟨S1, S2, S3, S4, S5, S6, S7, S8, S9⟩ := Q
  obtain ⟨c1, c2, c3⟩ := dCl_all ci q h1
  refine va_put (D := G.1) (ci := ci) (C := q.1) (T := q.2.1) (N := q.2.2) F.1 F.2.1 F.2.2.2.2.1 c1 (dTy ci) c2 c3 F.2.2.2.1 S1 S2 (dD S3 S4) S5 a (dW_get hs) h1 k h2 (F.2.2.2.2.1 _ h3) (fun _ z => z) (hw q h1) (c2 k h2) (v := .int v) (by rw [ht]; rfl) (by rw [ht]; rfl) (by simp; rw [dN_eq h1]; exact h2) hd (fun H1 locs1 P1 _ Q1 => ?_)
  rw [dW_put hs (by rw [dN_eq h1]; exact h2) (Or.inl ht)] at P1
  exact K p l e s m args below meth c G A H1 locs1 lsA F hin ⟨S1, P1, S3, S4, Q1, S6, S7, S8, dEx_put S9 (Nat.lt_of_lt_of_le (dlt hs) S8)⟩ L
theorem N_return (hd : decode cc pc = .ok (.return_, 1)) : BA c0 s0 D own cc nL pc ls [] X h c0 s0 X h := by
  intro p l e s m args below meth c G A H locs lsA F hin Q L
  exact W.vret F.1 F.2.1 F.2.2.2.2.2.1 (fun t ht hW => ⟨rfl, ⟨G, dExt.rf, by rw [ht]; exact Q.2.1, Q.2.2.1, Q.2.2.2.1⟩, Q.2.2.2.2.1.F ht, Q.2.2.2.2.2.2.2.2⟩) Q.2.2.2.2.1.2.2 hd F.2.2.2.2.2.2
def dOb (own : String) (idx : Nat) : Prop := Cond.methodLink own idx objectInit ∈ dWs ∧ Cond.instanceMethod objectInit ∈ dWs ∧ Cond.code objectInit ⟨#[0xb1]⟩ 1 none ∈ dWs
theorem N_objInit {idx a : Nat} (hd : decode cc pc = .ok (.invokespecial idx, 3)) (hw : dOb own idx) (hD : 1 ≤ D) (hst : dwd st ≤ 8) (K : BA C S D own cc nL (pc + 3) ls st X h c0 s0 X' h') : BA C S D own cc nL pc ls (.ref a :: st) X h c0 s0 X' h' := by
  intro p l e s m args below meth c G A H locs lsA F hin Q L
  refine W.objInit F.1 F.2.1 F.2.2.2.1 (F.2.2.2.2.1 _ hw.1) (F.2.2.2.2.1 _ hw.2.1) (F.2.2.2.2.1 _ hw.2.2) rfl (by rw [F.2.2.1]; exact L.1) rfl hd hD ?_ (K p l e s m args below meth c G A H locs lsA F hin Q L)
  rw [dwd_eq]
  show 2 * 0 + dwd st + 12 ≤ 60 * D
  omega
end BN
