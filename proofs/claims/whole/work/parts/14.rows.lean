/-! rules of rows (arrays), statics, texts -/
section BW
variable {p : Program} {l : Launch} {e : Env} {R : Room} {s : State} {m : MethodId} {args : Array Value} {below : List Frame} {meth : Method} {c : Code} {H : Heap} {locs : List Loc} {cells slots : Nat} {Q : State → Prop}
variable {cc : ByteArray} {pc : Nat} {ls : Array Slot} {rest : List Value} {D : va_G} {cl : List vw_C} {A : Nat → Prop} {a : Nat} {tys : List (ClassId × FieldType)} {ws : va_W} {H0 : Heap}
/-- aaload of a row of rows -/
theorem dw_aald (hexec : p.tables.exec = Jvm.exec) (hb : c.code = cc) (hK : va_K D cl tys s) (hP : va_P D cl ws H) (q0 t0 : Nat) {cA : ClassId} {ty : FieldType} {n : Nat} {f : Nat → Option Nat} (ha : ws[q0]? = some (a, .inl (cA, n, .inr (.inr (.inr (.inr f)))))) (ht : tys[t0]? = some (cA, .array ty)) {i : Int32} (hin : vp_in i n) (hdg : decode cc pc = .ok (.aaload, 1))
    (kk : W p l e R s m args below meth c H locs cells slots Q (F0 m (pc + 1) ls (va_rf (f i.toNatClampNeg) :: rest))) : W p l e R s m args below meth c H locs cells slots Q (F0 m pc ls (.int i :: .ref a :: rest)) := by
  have hlt : i.toNatClampNeg < n := Nat.not_le.mp fun q => hin (Or.inr q)
  refine W.aald (v := va_rf (f i.toNatClampNeg)) (ty := .array ty) hexec hb (hP q0 _ ha) ((hK.2 t0 _ ht).1 n (fun j => va_rf (f j))) rfl (fun q => by cases q) ?_ ?_ rfl rfl hdg kk
  · rw [show (vp_cell cA (n, .inr (.inr (.inr (.inr f))))).slots.size = n from arrV_size _ _ _]
    exact hin
  · exact arrV_read _ _ hlt
/-- ldc_w of a text -/
theorem dw_ldcwS (hexec : p.tables.exec = Jvm.exec) (hb : c.code = cc) {own tx : String} {index q : Nat} (hown : s.vm.findClass own = some m.cls) (hZ : vk_R own index tx q s) (hdg : decode cc pc = .ok (.ldc_w index, 3))
    (k : W p l e R s m args below meth c H locs cells slots Q (F0 m (pc + 3) ls (.ref q :: rest))) : W p l e R s m args below meth c H locs cells slots Q (F0 m pc ls rest) := by
  intro T hT X
  obtain ⟨t, a1, b1⟩ := k T hT X
  exact ⟨t, X.ldcStringW hexec hown (text := tx) (a := q) hZ.1 hZ.2 (g := F0 m pc ls rest) rfl (by rw [hb]; exact hdg) t a1, b1⟩
end BW
def dwd (st : List Value) : Nat := (st.map fun v => v.category).sum
theorem dwd_eq (G : dG) (st : List Value) : ((st.map (dv G)).map fun v => v.category).sum = dwd st := by
  unfold dwd
  rw [List.map_map]
  congr 1
  apply List.map_congr_left
  intro v _
  exact dv_cat G v
section BA
variable {α : Type} {X : dX} {D : Nat} {own : String} {cc : ByteArray} {nL : Nat} {rt : Option FieldType} {φ : α → Option Value × dH} {pc : Nat} {ls st : List Value} {h : dH} {o : Option α}
theorem B_iald {a n : Nat} {i : Int32} (hd : decode cc pc = .ok (.iaload, 1)) (hs : X.1[a]? = some (.inr (0, n))) (hin : dIn i n) (K : B X D own cc nL rt φ (pc + 1) ls (.int (h.1 a (dI i)) :: st) h o) : B X D own cc nL rt φ pc ls (.int i :: .ref a :: st) h o := by
  intro x hx p l e s m args below meth c G A H locs lsA F S L
  exact va_iald (D := G.1) F.1 F.2.1 S.1 S.2.1 a 0 (dW_get hs) rfl (dIn_vp hin) hd (K x hx p l e s m args below meth c G A H locs lsA F S L)
theorem B_bald {a n : Nat} {i : Int32} (hd : decode cc pc = .ok (.baload, 1)) (hs : X.1[a]? = some (.inr (1, n))) (hin : dIn i n) (K : B X D own cc nL rt φ (pc + 1) ls (.int (h.1 a (dI i)) :: st) h o) : B X D own cc nL rt φ pc ls (.int i :: .ref a :: st) h o := by
  intro x hx p l e s m args below meth c G A H locs lsA F S L
  exact va_bald (D := G.1) F.1 F.2.1 S.1 S.2.1 a 1 (dW_get hs) rfl (dIn_vp hin) hd (K x hx p l e s m args below meth c G A H locs lsA F S L)
theorem B_zald {a n : Nat} {i : Int32} (hd : decode cc pc = .ok (.baload, 1)) (hs : X.1[a]? = some (.inr (2, n))) (hin : dIn i n) (K : B X D own cc nL rt φ (pc + 1) ls (.int (h.1 a (dI i)) :: st) h o) : B X D own cc nL rt φ pc ls (.int i :: .ref a :: st) h o := by
  intro x hx p l e s m args below meth c G A H locs lsA F S L
  exact va_zald (D := G.1) F.1 F.2.1 S.1 S.2.1 a 2 (dW_get hs) rfl (dIn_vp hin) hd (K x hx p l e s m args below meth c G A H locs lsA F S L)
theorem B_lald {a n : Nat} {i : Int32} (hd : decode cc pc = .ok (.laload, 1)) (hs : X.1[a]? = some (.inr (3, n))) (hin : dIn i n) (K : B X D own cc nL rt φ (pc + 1) ls (.long (h.2.1 a (dI i)) :: st) h o) : B X D own cc nL rt φ pc ls (.int i :: .ref a :: st) h o := by
  intro x hx p l e s m args below meth c G A H locs lsA F S L
  exact va_lald (D := G.1) F.1 F.2.1 S.1 S.2.1 a 3 (dW_get hs) rfl (dIn_vp hin) hd (K x hx p l e s m args below meth c G A H locs lsA F S L)
theorem B_aald {a n b : Nat} {i : Int32} (hd : decode cc pc = .ok (.aaload, 1)) (hs : X.1[a]? = some (.inr (4, n))) (hin : dIn i n) (hr : X.2 h.2.2 a (dI i) = some b) (K : B X D own cc nL rt φ (pc + 1) ls (.ref b :: st) h o) : B X D own cc nL rt φ pc ls (.int i :: .ref a :: st) h o := by
  intro x hx p l e s m args below meth c G A H locs lsA F S L
  refine dw_aald (D := G.1) (ty := .int) F.1 F.2.1 S.1 S.2.1 a 4 (dW_get hs) rfl (dIn_vp hin) hd ?_
  have e1 : (X.2 h.2.2 a (dI i)).map G.2.2 = some (G.2.2 b) := by rw [hr]; rfl
  show W p l e _ s m args below meth c H locs 0 0 _ (F0 m (pc + 1) lsA (va_rf ((X.2 h.2.2 a (dI i)).map G.2.2) :: st.map (dv G)))
  rw [e1]
  exact K x hx p l e s m args below meth c G A H locs lsA F S L
theorem B_iast {a n : Nat} {i v : Int32} (hd : decode cc pc = .ok (.iastore, 1)) (hs : X.1[a]? = some (.inr (0, n))) (hin : dIn i n) (K : B X D own cc nL rt φ (pc + 1) ls st (dPut h a (dI i) v) o) : B X D own cc nL rt φ pc ls (.int v :: .int i :: .ref a :: st) h o := by
  intro x hx p l e s m args below meth c G A H locs lsA F S L
  obtain ⟨S1, S2, S3, S4, S5, S6, S7, S8, S9⟩ := S
  refine va_iast (D := G.1) F.1 F.2.1 S1 S2 (dD S3 S4) S5 a 0 (dW_get hs) rfl (dIn_vp hin) hd (fun H1 locs1 P1 _ Q1 => ?_)
  rw [dW_set (h := h) (h2 := dPut h a (dI i) v) hs (by show (Sum.inl (_, n, Sum.inl ((dPut h a (dI i) v).1 a)) : va_E) = _; rw [dPut_row]; rfl) (fun b hb => ⟨(dPut_row_ne h _ v hb).symm, rfl⟩) rfl] at P1
  exact K x hx p l e s m args below meth c G A H1 locs1 lsA F ⟨S1, P1, S3, S4, Q1, S6, S7, S8, dEx_put S9 (Nat.lt_of_lt_of_le (dlt hs) S8)⟩ L
theorem B_bast {a n : Nat} {i v : Int32} (hd : decode cc pc = .ok (.bastore, 1)) (hs : X.1[a]? = some (.inr (1, n))) (hin : dIn i n) (K : B X D own cc nL rt φ (pc + 1) ls st (dPut h a (dI i) (vp_nar .byte v)) o) : B X D own cc nL rt φ pc ls (.int v :: .int i :: .ref a :: st) h o := by
  intro x hx p l e s m args below meth c G A H locs lsA F S L
  obtain ⟨S1, S2, S3, S4, S5, S6, S7, S8, S9⟩ := S
  refine va_bast (D := G.1) F.1 F.2.1 S1 S2 (dD S3 S4) S5 a 1 (dW_get hs) rfl (dIn_vp hin) hd (fun H1 locs1 P1 _ Q1 => ?_)
  rw [dW_set (h := h) (h2 := dPut h a (dI i) (vp_nar .byte v)) hs (by show (Sum.inl (_, n, Sum.inl ((dPut h a (dI i) (vp_nar .byte v)).1 a)) : va_E) = _; rw [dPut_row]; rfl) (fun b hb => ⟨(dPut_row_ne h _ _ hb).symm, rfl⟩) rfl] at P1
  exact K x hx p l e s m args below meth c G A H1 locs1 lsA F ⟨S1, P1, S3, S4, Q1, S6, S7, S8, dEx_put S9 (Nat.lt_of_lt_of_le (dlt hs) S8)⟩ L
theorem B_zast {a n : Nat} {i v : Int32} (hd : decode cc pc = .ok (.bastore, 1)) (hs : X.1[a]? = some (.inr (2, n))) (hin : dIn i n) (K : B X D own cc nL rt φ (pc + 1) ls st (dPut h a (dI i) (vp_nar .boolean v)) o) : B X D own cc nL rt φ pc ls (.int v :: .int i :: .ref a :: st) h o := by
  intro x hx p l e s m args below meth c G A H locs lsA F S L
  obtain ⟨S1, S2, S3, S4, S5, S6, S7, S8, S9⟩ := S
  refine va_zast (D := G.1) F.1 F.2.1 S1 S2 (dD S3 S4) S5 a 2 (dW_get hs) rfl (dIn_vp hin) hd (fun H1 locs1 P1 _ Q1 => ?_)
  rw [dW_set (h := h) (h2 := dPut h a (dI i) (vp_nar .boolean v)) hs (by show (Sum.inl (_, n, Sum.inl ((dPut h a (dI i) (vp_nar .boolean v)).1 a)) : va_E) = _; rw [dPut_row]; rfl) (fun b hb => ⟨(dPut_row_ne h _ _ hb).symm, rfl⟩) rfl] at P1
  exact K x hx p l e s m args below meth c G A H1 locs1 lsA F ⟨S1, P1, S3, S4, Q1, S6, S7, S8, dEx_put S9 (Nat.lt_of_lt_of_le (dlt hs) S8)⟩ L
theorem B_last {a n : Nat} {i : Int32} {v : Int64} (hd : decode cc pc = .ok (.lastore, 1)) (hs : X.1[a]? = some (.inr (3, n))) (hin : dIn i n) (K : B X D own cc nL rt φ (pc + 1) ls st (dPutL h a (dI i) v) o) : B X D own cc nL rt φ pc ls (.long v :: .int i :: .ref a :: st) h o := by
  intro x hx p l e s m args below meth c G A H locs lsA F S L
  obtain ⟨S1, S2, S3, S4, S5, S6, S7, S8, S9⟩ := S
  refine va_last (D := G.1) F.1 F.2.1 S1 S2 (dD S3 S4) S5 a 3 (dW_get hs) rfl (dIn_vp hin) hd (fun H1 locs1 P1 _ Q1 => ?_)
  rw [dW_set (h := h) (h2 := dPutL h a (dI i) v) hs (by show (Sum.inl (_, n, Sum.inr (Sum.inl ((dPutL h a (dI i) v).2.1 a))) : va_E) = _; rw [dPutL_row]; rfl) (fun b hb => ⟨rfl, (dPutL_row_ne h _ v hb).symm⟩) rfl] at P1
  exact K x hx p l e s m args below meth c G A H1 locs1 lsA F ⟨S1, P1, S3, S4, Q1, S6, S7, S8, S9⟩ L
theorem B_alen {a n : Nat} {v : Int32} (hd : decode cc pc = .ok (.arraylength, 1)) (hs : X.1[a]? = some (.inr (0, n))) (hv : Int32.ofNat n = v) (K : B X D own cc nL rt φ (pc + 1) ls (.int v :: st) h o) : B X D own cc nL rt φ pc ls (.ref a :: st) h o := by
  intro x hx p l e s m args below meth c G A H locs lsA F S L
  exact va_alen (D := G.1) F.1 F.2.1 S.1 S.2.1 a 0 (dW_get hs) (ty := .int) rfl hv hd (K x hx p l e s m args below meth c G A H locs lsA F S L)
/-- static rows -/
theorem B_gets {idx j : Nat} {q : String × String × List Int32} (hd : decode cc pc = .ok (.getstatic idx, 3)) (hq : dZs[j]? = some q) (hl : Cond.fieldLink own idx q.1 q.2.1 "[I" ∈ dWs) (K : B X D own cc nL rt φ (pc + 3) ls (.ref (1000 + j) :: st) h o) : B X D own cc nL rt φ pc ls st h o := by
  intro x hx p l e s m args below meth c G A H locs lsA F S L
  exact va_gets F.1 F.2.1 (S.2.2.2.2.2.1.1 j q hq).1 S.2.2.2.2.1 F.2.2.2.1 (F.2.2.2.2.1 _ hl) (fun _ z => z) hd (K x hx p l e s m args below meth c G A H locs lsA F S L)
theorem B_ialdE {j : Nat} {q : String × String × List Int32} {i : Int32} (hd : decode cc pc = .ok (.iaload, 1)) (hq : dZs[j]? = some q) (hin : dIn i q.2.2.length) (K : B X D own cc nL rt φ (pc + 1) ls (.int (h.1 (1000 + j) (dI i)) :: st) h o) : B X D own cc nL rt φ pc ls (.int i :: .ref (1000 + j) :: st) h o := by
  intro x hx p l e s m args below meth c G A H locs lsA F S L
  exact va_ti F.1 F.2.1 (S.2.2.2.2.2.1.1 j q hq).2 S.2.2.2.2.1 (dIn_vp hin) (v := .int (h.1 (1000 + j) (dI i))) (by rw [S.2.2.2.2.2.2.2.2 j q hq (dI i)]; rfl) hd (K x hx p l e s m args below meth c G A H locs lsA F S L)
theorem B_alenE {j : Nat} {q : String × String × List Int32} {v : Int32} (hd : decode cc pc = .ok (.arraylength, 1)) (hq : dZs[j]? = some q) (hv : Int32.ofNat q.2.2.length = v) (K : B X D own cc nL rt φ (pc + 1) ls (.int v :: st) h o) : B X D own cc nL rt φ pc ls (.ref (1000 + j) :: st) h o := by
  intro x hx p l e s m args below meth c G A H locs lsA F S L
  exact va_tlen F.1 F.2.1 (S.2.2.2.2.2.1.1 j q hq).2 S.2.2.2.2.1 hv hd (K x hx p l e s m args below meth c G A H locs lsA F S L)
/-- texts -/
theorem B_ldcS {idx j : Nat} {q : String × Nat × String × List Int32} (hd : decode cc pc = .ok (.ldc idx, 2)) (hq : dKs[j]? = some q) (h1 : q.1 = own) (h2 : q.2.1 = idx) (K : B X D own cc nL rt φ (pc + 2) ls (.ref (2000 + j) :: st) h o) : B X D own cc nL rt φ pc ls st h o := by
  intro x hx p l e s m args below meth c G A H locs lsA F S L
  have hR := (S.2.2.2.2.2.1.2.1 j q hq).1
  rw [h1, h2] at hR
  exact va_ldcS F.1 F.2.1 F.2.2.2.1 hR hd (K x hx p l e s m args below meth c G A H locs lsA F S L)
theorem B_ldcwS {idx j : Nat} {q : String × Nat × String × List Int32} (hd : decode cc pc = .ok (.ldc_w idx, 3)) (hq : dKs[j]? = some q) (h1 : q.1 = own) (h2 : q.2.1 = idx) (K : B X D own cc nL rt φ (pc + 3) ls (.ref (2000 + j) :: st) h o) : B X D own cc nL rt φ pc ls st h o := by
  intro x hx p l e s m args below meth c G A H locs lsA F S L
  have hR := (S.2.2.2.2.2.1.2.1 j q hq).1
  rw [h1, h2] at hR
  exact dw_ldcwS F.1 F.2.1 F.2.2.2.1 hR hd (K x hx p l e s m args below meth c G A H locs lsA F S L)
/-- what System.arraycopy needs -/
def dCpW (own : String) (idx : Nat) : Prop := Cond.methodLink own idx arraycopyName ∈ dWs ∧ Cond.native arraycopyName ∈ dWs ∧ Cond.static arraycopyName ∈ dWs ∧ Cond.initialized "java/lang/System" ∈ dWs
theorem dEx_cpy {h : dH} {a b sp dp n : Nat} (hE : dEx h) (hb : b < 1000) : dEx (dCpy h a b sp dp n) := fun j q hq i => by
  show (if 1000 + j = b then _ else h.1 (1000 + j) i) = _
  rw [if_neg (by omega)]
  exact hE j q hq i
theorem dInn {i : Int32} (h : 0 ≤ i.toInt) : ¬ i < 0 := fun q => by
  have := Int32.lt_iff_toInt_lt.mp q
  simp at this
  omega
theorem dNat : nativeFrameWords "java/lang/System" "arraycopy" 5 + 11 ≤ 50 := by decide +kernel
theorem B_copy {a b n0 n1 idx : Nat} {sp dp n : Int32} (hd : decode cc pc = .ok (.invokestatic idx, 3)) (hw : dCpW own idx) (hD : 1 ≤ D) (hst : dwd st ≤ 8) (ha : X.1[a]? = some (.inr (0, n0))) (hb : X.1[b]? = some (.inr (0, n1))) (g1 : 0 ≤ sp.toInt) (g2 : 0 ≤ dp.toInt) (g3 : 0 ≤ n.toInt) (g4 : dI sp + dI n ≤ n0) (g5 : dI dp + dI n ≤ n1)
    (K : B X D own cc nL rt φ (pc + 3) ls st (dCpy h a b (dI sp) (dI dp) (dI n)) o) : B X D own cc nL rt φ pc ls (.int n :: .int dp :: .ref b :: .int sp :: .ref a :: st) h o := by
  intro x hx p l e s m args below meth c G A H locs lsA F S L
  obtain ⟨S1, S2, S3, S4, S5, S6, S7, S8, S9⟩ := S
  obtain ⟨w1, w2, w3, w4⟩ := hw
  refine va_copyi (D := G.1) (ty := .int) F.1 F.2.1 (F.2.2.1.trans L.1.symm) F.2.2.2.1 (F.2.2.2.2.1 _ w1) (F.2.2.2.2.1 _ w2) (F.2.2.2.2.1 _ w3) (F.2.2.2.2.1 _ w4) S1 S2 (dD S3 S4) S5 a b 0 0 (dW_get ha) (dW_get hb) rfl rfl rfl (dInn g1) (dInn g2) (dInn g3) g4 g5 (fun i _ => rfl) hD (by have := dNat; rw [dwd_eq]; show _ ≤ 60 * D; omega) hd (fun H1 locs1 P1 _ Q1 => ?_)
  rw [dW_set (h := h) (h2 := dCpy h a b (dI sp) (dI dp) (dI n)) hb (by show (Sum.inl (_, n1, Sum.inl _) : va_E) = _; congr 4; funext j; exact if_pos rfl) (fun q hq => ⟨by funext j; simp [dCpy, hq], rfl⟩) rfl] at P1
  exact K x hx p l e s m args below meth c G A H1 locs1 lsA F ⟨S1, P1, S3, S4, Q1, S6, S7, S8, dEx_cpy S9 (Nat.lt_of_lt_of_le (dlt hb) S8)⟩ L
end BA
