/-! the call of spot: rules, and the class's spot where it throws -/
section WQ
variable {p : Program} {l : Launch} {e : Env} {R : Room} {s : State} {m : MethodId} {args : Array Value} {below : List Frame} {meth : Method} {c : Code} {H : Heap} {locs : List Loc} {cells slots : Nat} {Q : State → Prop}
variable {X : dX} {G : dG} {A : Nat → Prop} {h : dH} {own : String} {cc : ByteArray} {nL pc : Nat} {rt : Option FieldType} {lsA : Array Slot} {rest : List Value}
theorem w_getR {idx ci k a b : Nat} (F : dFix p s m meth c args own cc nL rt) (S : dSt X G A s h H locs) (hd : decode cc pc = .ok (.getfield idx, 3)) (hf : dFl own idx ci k) (hs : X.1[a]? = some (.inl ci)) (ht : (dTy ci k).isReference = true) (hr : X.2 h.2.2 a k = some b)
    (K : W p l e R s m args below meth c H locs cells slots Q (F0 m (pc + 3) lsA (.ref (G.2.2 b) :: rest))) : W p l e R s m args below meth c H locs cells slots Q (F0 m pc lsA (.ref (G.2.2 a) :: rest)) := by
  obtain ⟨q, h1, h2, h3⟩ := hf
  have hv : dFv X G h a ci k = .ref (G.2.2 b) := by
    unfold dFv
    rw [hr]
    revert ht
    cases dTy ci k <;> intro ht <;> first | rfl | (exact absurd ht (by decide))
  refine va_get (D := G.1) (ci := ci) (C := q.1) (T := q.2.1) (N := q.2.2) F.1 F.2.1 F.2.2.2.2.1 (dCl_all ci q h1).1 F.2.2.2.1 S.1 S.2.1 a (dW_get hs) h1 k h2 (F.2.2.2.2.1 _ h3) (fun _ z => z) (v := .ref (G.2.2 b)) ?_ hd K
  rw [List.getElem?_map, List.getElem?_range (by rw [dN_eq h1]; exact h2), ← hv]
  rfl
theorem w_callV {β : Type} {ψ : β → Option Value × dH} {z : β} {y : MethodName} {cy : ByteArray} {ny n idx D' ci a : Nat} {ry : Option FieldType} {as st0 : List Value} (F : dFix p s m meth c args own cc nL rt) (S : dSt X G A s h H locs) (hsz : lsA.size = nL) (hd : decode cc pc = .ok (.invokevirtual idx, 3)) (hc : dCV own idx y cy ny ry n ci) (hT : T X D' y cy ny ry ψ (.ref a :: as) h (some z)) (hR : (dRm D').frames + 1 ≤ R.frames ∧ 8 + (ny + 11) + (dRm D').locals ≤ R.locals) (hs : X.1[a]? = some (.inl ci)) (hn : as.length = n) (hst : st0 = (as.map (dv G)).reverse ++ .ref (G.2.2 a) :: rest) (hw : (rest.map fun v => v.category).sum ≤ 8) (hcs : cells ≤ R.cells ∧ slots ≤ R.slots)
    (K : ∀ (H1 : Heap) (locs1 : List Loc), dSt X G A s (ψ z).2 H1 locs1 → H.size ≤ H1.size → (∀ q : Nat, q < H.size → ¬ dA X G H.size q → H1[q]? = H[q]?) → W p l e R s m args below meth c H1 locs1 cells slots Q (F0 m (pc + 3) lsA (((ψ z).1.map (dv G)).toList ++ rest))) :
    W p l e R s m args below meth c H locs cells slots Q (F0 m pc lsA st0) := by
  obtain ⟨c1, ⟨m1, m2, m3, m4⟩, hv, q, c4, c5⟩ := hc
  have hpre := dPre (p := p) (m := m) (meth := meth) (c := c) (args := args) (as := .ref a :: as) S
  have hrun := va_runV (e := e) (As := as.map (dv G)) (rest := rest) (b := G.2.2 a) (g := F0 m pc lsA st0) (C := y.cls) (R := R) (cells := cells) (slots := slots) (locs := locs) (below := below) (meth := meth) ⟨F.1, F.2.1, F.2.2.1, F.2.2.2.1, F.2.2.2.2.1⟩ (hT z rfl l G H.size)
    (⟨callB_of n F.2.2.2.2.1 (dGood y cy ny ry m1) rfl rfl rfl (F.2.2.2.2.1 _ m2) (F.2.2.2.2.1 _ c1) m3 hR, F.2.2.2.2.1 _ hv.1, F.2.2.2.2.1 _ hv.2⟩ : CallW R s args own y.cls idx y cy ny ry _ _ 0 0 n)
    ⟨hpre.1, by rw [← c5]; exact va_recv S.1 S.2.1 c4 (dW_get hs), hpre.2⟩ rfl (by rw [List.length_map]; exact hn) hsz hst (by show 2 * 0 + _ ≤ 8; omega) hd ⟨hcs.1, hcs.2⟩
  obtain ⟨S1, S2, S3, S4, S5, S6, S7, S8, S9⟩ := S
  have hAA : ∀ q, dA X G H.size q → A q := by
    rintro q (⟨k, hk, rfl⟩ | hq)
    · exact S4 k hk
    · exact S7 q (Nat.le_trans S5.1 hq)
  intro U hU XX
  obtain ⟨v, st₀, t, U', LL, h0, X', hL, e1, e2, ⟨hvv, hP, ⟨hz1, hk⟩, hex⟩, stp⟩ := hrun U hU XX
  rw [h0] at hz1 hk
  have hv2 : v = (ψ z).1.map (dv G) := by cases hvv; rfl
  obtain ⟨t2, a1, b1⟩ := K U'.heap (locs ++ LL) ⟨S1, by rw [e1]; exact hP, S3, S4, ⟨Nat.le_trans S5.1 (by rw [e1]; exact hz1), fun q g1 g2 => by rw [e1, hk q (Nat.lt_of_lt_of_le g1 S5.1) (fun w => g2 (hAA q w))]; exact S5.2.1 q g1 g2, fun q hq => by
      rcases List.mem_append.mp hq with w | w
      · exact S5.2.2 q w
      · exact hAA _ (hL q w)⟩, S6, S7, S8, hex⟩ (by rw [e1]; exact hz1) (fun q g1 g2 => by rw [e1]; exact hk q g1 g2) U' rfl X'
  refine ⟨t2, stp t2 ?_, b1⟩
  rw [hv2]
  exact a1
end WQ
/-- what the start of a call asks of the class's world -/
def dPU (G : dG) (sz : Nat) (A : Nat → Prop) (h : dH) (U : State) : Prop := U.heap.size = sz ∧ va_P G.1 vwCl (dW XC G h) U.heap ∧ va_K G.1 vwCl (dTys G) U ∧ dInj XC G ∧ dE G A U U.heap ∧ XC.1.length ≤ 1000 ∧ dEx h ∧ dZq A U U.heap
theorem dPU_blind {G : dG} {sz : Nat} {A : Nat → Prop} {h : dH} {U : State} (g : JFrame) (mk : MethodId) (a : Array Value) (hp : dPU G sz A h U) : dPU G sz A h (U.calling g mk a) := by
  obtain ⟨q1, q2, q3, q4, q5, q6, q7, q8⟩ := hp
  exact ⟨q1, q2, va_K.moved (u := U) (U := U.calling g mk a) (Vm.Alike.refl U.vm) q3, q4, dE.same (u := U) (U := U.calling g mk a) rfl q5, q6, q7, dZq.same (u := U) (U := U.calling g mk a) rfl q8⟩
theorem dPU_pre {G : dG} {A A2 : Nat → Prop} {s U : State} {h : dH} {H : Heap} {locs : List Loc} (S : dSt XC G A s h H locs) (hZ : dZq A s s.heap) (hAB : ∀ q, A2 q → A q) (hU : U.heap = H) (hW : s.WarmedH U.vm) : dPU G H.size A2 h U := by
  obtain ⟨S1, S2, S3, S4, S5, S6, S7, S8, S9⟩ := S
  exact ⟨by rw [hU], by rw [hU]; exact S2, va_K.moved hW.alike S1, S3, by rw [hU]; exact S6.step S5 hW hAB, S8, S9, by rw [hU]; exact hZ.step S5 hW hAB⟩
def rmS : Room := { frames := 40, cells := 1, slots := 6, locals := 2400 }
def rmL : Room := { frames := 60, cells := 1, slots := 6, locals := 4800 }
/-- the throw's contract: E, the class's world as it was -/
abbrev dXX (G : dG) (A : Nat → Prop) (h : dH) : String → State → State → Prop := vx_X (fun _ : Unit => True) (fun E _ t => E = tE ∧ va_P G.1 vwCl (dW XC G h) t.heap) A
abbrev dXQ (A : Nat → Prop) : Array Value → State → Outcome → State → Prop := va_Qi (fun (_ : Int32) (_ : Unit) => False) (fun _ _ => True) A
set_option maxRecDepth 20000 in
theorem w_thr {l : Launch} (hl : l.stackTraces = false) {p : Program} {e : Env} {s : State} {m : MethodId} {args : Array Value} {below : List Frame} {meth : Method} {c : Code} {G : dG} {A : Nat → Prop} {h : dH} {H : Heap} {locs : List Loc} {lsA : Array Slot} (F : dFix p s m meth c args RX11 cX11_spot 3 (some .int)) (ht : ∀ x ∈ c.exceptionTable.toList, False) (S : dSt XC G A s h H locs) (hZ : dZq A s s.heap) (hsz : lsA.size = 3) :
    W p l e rmS s m args below meth c H locs 0 0 (vx_MQ below (dXQ A) (dXX G A h) args s 1 6 A) (F0 m 21 lsA []) := by
  have hat : ∀ w ∈ vx_at0 RX11 170 tE tNs, w.before args s = true := vx_hat (fun w hw => F.2.2.2.2.1 w (dWs_of (tw_in w hw) (List.mem_filter.mp hw).2)) tw_bad (fun w hw => va_Nw.use (tBad_on w hw) (hZ.2 w hw))
  obtain ⟨S1, S2, S3, S4, S5, S6, S7, S8, S9⟩ := S
  refine vx_throw0 (A := A) (own := RX11) (cls := tE) (names := tNs) (ik := 168) (ic := 170) F.1 F.2.1 hl F.2.2.2.1 (by decide) (by decide) (F.2.2.2.2.1 _ tw_cl) (F.2.2.2.2.1 _ tw_ini) hat tw_good hZ.1.1 hZ.1.2 S5 (hsz.trans F.2.2.1.symm) dX11_spot_21 dX11_spot_24 dX11_spot_25 dX11_spot_28 (fun x hx => (ht x hx).elim) (by decide) (by decide) (by decide) (by decide) F.2.2.2.2.2.2 (fun t _ g1 g2 => ⟨(), trivial, ⟨rfl, ?_⟩, Nat.le_trans S5.1 g1, fun q hq hn => ?_⟩) S5.2.2 (Nat.le_refl _) (Nat.le_refl _)
  · exact dP_kept (B := fun _ => False) S2 (fun q hq _ => g2 q hq) (fun _ _ z => z)
  · rw [g2 q (Nat.lt_of_lt_of_le hq S5.1)]
    exact S5.2.1 q hq hn
set_option maxRecDepth 20000 in
theorem w_spotX {l : Launch} (hl : l.stackTraces = false) {x1 x2 : Int32} {p : Program} {e : Env} {s : State} {m : MethodId} {args : Array Value} {below : List Frame} {meth : Method} {c : Code} {G : dG} {A : Nat → Prop} {h : dH} {H : Heap} {locs : List Loc} {lsA : Array Slot} (hno : ¬ spotOK x1 x2 h) (F : dFix p s m meth c args RX11 cX11_spot 3 (some .int)) (ht : ∀ x ∈ c.exceptionTable.toList, False) (S : dSt XC G A s h H locs) (hZ : dZq A s s.heap) (L : lv_has lsA 3 [(0, .ref (G.2.2 0)), (1, .int x1), (2, .int x2)]) :
    W p l e rmS s m args below meth c H locs 0 0 (vx_MQ below (dXQ A) (dXX G A h) args s 1 6 A) (F0 m 0 lsA []) := by
  refine lv_aload_n F.1 F.2.1 dX11_spot_0 rfl (lv_at L 0 rfl) ?_
  refine w_getR F S dX11_spot_1 fl_X11_19 shC_0 rfl (rfC_0_1 _) ?_
  refine lv_iload_n F.1 F.2.1 dX11_spot_4 rfl (lv_at L 1 rfl) ?_
  refine w_callV (as := [.int x1]) (rest := []) F S L.1 dX11_spot_5 cl_X11_164 (t_X1_isPlace 3 shC_3 x1 h) ⟨by decide, by decide⟩ shC_3 rfl rfl (by decide) ⟨by decide, by decide⟩ (fun H1 locs1 S1 _ _ => ?_)
  show W p l e rmS s m args below meth c H1 locs1 0 0 _ (F0 m 8 lsA [.int (if f_X1_isPlace 3 x1 h then 1 else 0)])
  refine lv_if_eq (tgt := 21) F.1 F.2.1 dX11_spot_8 (by decide) (fun _ => w_thr hl F ht S1 hZ L.1) (fun q8 => ?_)
  refine lv_iload_n F.1 F.2.1 dX11_spot_11 rfl (lv_at L 2 rfl) ?_
  refine lv_if_lt (tgt := 21) F.1 F.2.1 dX11_spot_12 (by decide) (fun _ => w_thr hl F ht S1 hZ L.1) (fun q12 => ?_)
  refine lv_iload_n F.1 F.2.1 dX11_spot_15 rfl (lv_at L 2 rfl) ?_
  refine lv_bipush F.1 F.2.1 dX11_spot_16 bp_6 ?_
  refine lv_icmp_le (tgt := 29) F.1 F.2.1 dX11_spot_18 (by decide) (fun q18 => ?_) (fun _ => w_thr hl F ht S1 hZ L.1)
  refine absurd ⟨?_, Int32.not_lt.mp q12, q18⟩ hno
  cases hb : f_X1_isPlace 3 x1 h with
  | true => rfl
  | false => rw [hb] at q8; exact absurd rfl q8
set_option maxRecDepth 20000 in
theorem t_spotX {l : Launch} (hl : l.stackTraces = false) {x1 x2 : Int32} {h : dH} (hno : ¬ spotOK x1 x2 h) (G : dG) (sz : Nat) :
    vx_Met l yX11_spot (.code yX11_spot cX11_spot 3 (some .int) :: dWs) rmS (va_Pc [.ref (G.2.2 0), .int x1, .int x2] (dPU G sz (dA XC G sz) h)) (dXQ (dA XC G sz)) (dXX G (dA XC G sz) h) 1 6 (dA XC G sz) := by
  refine vx_ofW (cc := cX11_spot) (maxL := 3) (ret := some .int) (by decide) rfl ?_
  intro p e s m args below meth c s₁ Bd hml htab hv
  obtain ⟨rfl, hsz, hP, hK, hI, hE, hlen, hEx, hZ⟩ := hv
  subst hsz
  have hts := atoms_spec (ws := .code yX11_spot cX11_spot 3 (some .int) :: dWs) Bd.pre
  have hown : s.vm.findClass RX11 = some m.cls := findClass_of_methodNamed Bd.named
  have hen := lv_entry [Value.ref (G.2.2 0), .int x1, .int x2] (n := 3) (by show 3 ≤ 3; exact Nat.le_refl _)
  rw [lg_entry_eq]
  generalize (lg_sl [Value.ref (G.2.2 0), .int x1, .int x2] ++ List.replicate (3 - (lg_sl [Value.ref (G.2.2 0), .int x1, .int x2]).length) Slot.unset).toArray = lsA at hen ⊢
  exact w_spotX hl hno ⟨Bd.exec, Bd.bytes, hml, hown, fun w hw => hts w (List.mem_cons_of_mem _ hw), Bd.returns, Bd.notSynchronized⟩ htab ⟨hK, hP, hI, fun k hk => Or.inl ⟨k, hk, rfl⟩, va_S.rf, hE, fun q hq => Or.inr hq, hlen, hEx⟩ hZ hen
