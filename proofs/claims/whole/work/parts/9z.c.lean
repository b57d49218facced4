/-! the law's own spot -/
def dOut (G : dG) (qo : Nat) (ov : Nat → Int64) (H : Heap) : Prop := H[qo]? = some (vp_cell (G.2.1 3) (1, .inr (.inl ov)))
def dAo (G : dG) (sz qo : Nat) : Nat → Prop := fun q => dA XC G sz q ∨ q = qo
def dQS (G : dG) (qo : Nat) (A : Nat → Prop) (h : dH) (r : Int32) (ov : Nat → Int64) : Array Value → State → Outcome → State → Prop := fun _ st oc t => oc = .returned (some (.int r)) ∧ va_P G.1 vwCl (dW XC G h) t.heap ∧ dOut G qo ov t.heap ∧ va_F A st t
def sCase (x1 x2 : Int32) (h : dH) (r : Int32) (ov ov' : Nat → Int64) : Prop := (spotOK x1 x2 h ∧ ∃ v : Int32, f_X11_spot x1 x2 h = some v ∧ r = 0 ∧ ov' = vp_updL ov 0 v.toInt64) ∨ (¬ spotOK x1 x2 h ∧ r = 1 ∧ ov' = ov)
theorem dDo {G : dG} {A : Nat → Prop} {h : dH} {qo : Nat} {el : va_E} (hI : dInj XC G) (hA : ∀ k : Nat, k < XC.1.length → A (G.2.2 k)) (hq : A qo) (hne : ∀ i : Nat, i < 86 → G.2.2 i ≠ qo) : va_D A (dW XC G h ++ [(qo, el)]) := by
  have D := dD (h := h) hI hA
  have lenC : (dW XC G h).length = 86 := dW_len
  have at' : ∀ (i : Nat) (r : Nat × va_E), (dW XC G h ++ [(qo, el)])[i]? = some r → (i < 86 ∧ (dW XC G h)[i]? = some r ∧ r.1 = G.2.2 i) ∨ (i = 86 ∧ r.1 = qo) := by
    intro i r hr
    by_cases hi : i < 86
    · rw [List.getElem?_append_left (by omega)] at hr
      refine Or.inl ⟨hi, hr, ?_⟩
      have hx : XC.1[i]? = some (XC.1[i]'(hi)) := List.getElem?_eq_getElem (show i < XC.1.length from hi)
      have h2 := dW_get (G := G) (h := h) hx
      rw [h2] at hr
      cases hr
      rfl
    · rw [List.getElem?_append_right (by omega), lenC] at hr
      by_cases h6 : i = 86
      · subst h6
        cases hr
        exact Or.inr ⟨rfl, rfl⟩
      · rw [List.getElem?_eq_none (by show 1 ≤ i - 86; omega)] at hr
        cases hr
  refine ⟨fun i j a b ha hb e => ?_, fun k r hk => ?_⟩
  · rcases at' i a ha with ⟨i1, i2, i3⟩ | ⟨i1, i3⟩ <;> rcases at' j b hb with ⟨j1, j2, j3⟩ | ⟨j1, j3⟩
    · exact D.1 i j a b i2 j2 e
    · exact absurd (by rw [← i3, e, j3]) (hne i i1)
    · exact absurd (by rw [← j3, ← e, i3]) (hne j j1)
    · rw [i1, j1]
  · rcases at' k r hk with ⟨i1, i2, i3⟩ | ⟨i1, i3⟩
    · exact D.2 k r i2
    · rw [i3]; exact hq
theorem dAo_not {G : dG} {sz qo : Nat} (hq : qo < sz) (hne : ∀ i : Nat, i < 86 → G.2.2 i ≠ qo) : ¬ dA XC G sz qo := by
  rintro (⟨k, hk, hq2⟩ | h)
  · exact hne k hk hq2.symm
  · omega
section WL
variable {l : Launch} {x1 x2 : Int32} {p : Program} {e : Env} {s : State} {m : MethodId} {args : Array Value} {below : List Frame} {meth : Method} {c : Code} {G : dG} {A : Nat → Prop} {h : dH} {H : Heap} {locs : List Loc} {lsA : Array Slot} {qo : Nat} {ov : Nat → Int64} {r : Int32} {cells slots : Nat}
theorem w_Lret {pc : Nat} {XC9 : String → State → State → Prop} (F : dFix p s m meth c args RL cL_spot 5 (some .int)) (hd : decode cL_spot pc = .ok (.ireturn, 1)) (hP : va_P G.1 vwCl (dW XC G h) H) (hS : va_S A s.heap H locs) (hO : dOut G qo ov H) (hc : cells ≤ 1) (hs : slots ≤ 6) :
    W p l e rmL s m args below meth c H locs cells slots (vx_MQ below (dQS G qo A h r ov) XC9 args s 1 6 A) (F0 m pc lsA [.int r]) := by
  refine vx_ret ?_
  refine W.widen (k := 1) (n := 6) hc hs ?_
  exact W.iret F.1 F.2.1 F.2.2.2.2.2.1 (fun t ht hW => ⟨rfl, by rw [ht]; exact hP, by rw [ht]; exact hO, hS.F ht⟩) hS.2.2 hd F.2.2.2.2.2.2
set_option maxRecDepth 20000 in
theorem w_LspotA {v : Int32} {XC9 : String → State → State → Prop} (hv : f_X11_spot x1 x2 h = some v) (F : dFix p s m meth c args RL cL_spot 5 (some .int)) (S : dSt XC G A s h H locs) (hO : dOut G qo ov H) (hAq : A qo) (hne : ∀ i : Nat, i < 86 → G.2.2 i ≠ qo) (L : lv_has lsA 5 [(0, .ref (G.2.2 0)), (1, .int x1), (2, .int x2), (3, .ref qo)]) :
    W p l e rmL s m args below meth c H locs 0 0 (vx_MQ below (dQS G qo A h 0 (vp_updL ov 0 v.toInt64)) XC9 args s 1 6 A) (F0 m 5 lsA [.int x2, .int x1, .ref (G.2.2 0), .int 0, .ref qo]) := by
  have hT := t_X11_spot x1 x2 h
  rw [hv] at hT
  have hlt : qo < H.size := (Array.getElem?_eq_some_iff.mp hO).1
  refine w_callV (as := [.int x1, .int x2]) (rest := [.int 0, .ref qo]) F S L.1 dL_spot_5 lcl_7 hT ⟨by decide, by decide⟩ shC_0 rfl rfl (Nat.le_of_ble_eq_true rfl) ⟨by decide, by decide⟩ (fun H1 locs1 S1 _ hk1 => ?_)
  have hO1 : dOut G qo ov H1 := (hk1 qo hlt (dAo_not hlt hne)).trans hO
  show W p l e rmL s m args below meth c H1 locs1 0 0 _ (F0 m 8 lsA [.int v, .int 0, .ref qo])
  refine lv_i2l (v := v.toInt64) F.1 F.2.1 dL_spot_8 rfl ?_
  obtain ⟨S1a, S2, S3, S4, S5, S6, S7, S8, S9⟩ := S1
  have lenC : (dW XC G h).length = 86 := dW_len
  have P1 : va_P G.1 vwCl (dW XC G h ++ [(qo, .inl (G.2.1 3, 1, .inr (.inl ov)))]) H1 := va_P.app S2 (fun k q hk => by
    have hk1 : k < 1 := (List.getElem?_eq_some_iff.mp hk).1
    have hk0 : k = 0 := by omega
    subst hk0
    cases hk
    exact hO1)
  have a86 : (dW XC G h ++ [(qo, (Sum.inl (G.2.1 3, 1, .inr (.inl ov)) : va_E))])[86]? = some (qo, Sum.inl (G.2.1 3, 1, .inr (.inl ov))) := by
    rw [List.getElem?_append_right (by omega), lenC]
    rfl
  refine va_last (D := G.1) (A := A) F.1 F.2.1 S1a P1 (dDo S3 S4 hAq hne) S5 86 3 a86 rfl (i := 0) (by unfold vp_in; decide) dL_spot_9 (fun H2 locs2 P2 _ Q2 => ?_)
  have hP2 : va_P G.1 vwCl (dW XC G h) H2 := fun k q hk => P2 k q (by
    have hlt2 : k < 86 := by rw [← lenC]; exact (List.getElem?_eq_some_iff.mp hk).1
    rw [List.getElem?_set, if_neg (by omega), List.getElem?_append_left (by omega)]
    exact hk)
  have hO2 : dOut G qo (vp_updL ov 0 v.toInt64) H2 := P2 86 (qo, .inl (G.2.1 3, 1, .inr (.inl (vp_updL ov 0 v.toInt64)))) (by
    rw [List.getElem?_set, if_pos rfl, if_pos (by rw [List.length_append, lenC]; exact Nat.lt_succ_self 86)]
    rfl)
  refine lv_goto (tgt := 17) F.1 F.2.1 dL_spot_10 (by decide) ?_
  refine lv_iconst (v := 0) F.1 F.2.1 dL_spot_17 (by decide) ?_
  exact w_Lret F dL_spot_18 hP2 Q2 hO2 (by decide) (by decide)
set_option maxRecDepth 20000 in
theorem w_LspotB {XC9 : String → State → State → Prop} (hl : l.stackTraces = false) (hno : ¬ spotOK x1 x2 h) (F : dFix p s m meth c args RL cL_spot 5 (some .int)) (htab : c.exceptionTable.toList = tableOf [(0, 10, 13, 13)]) (S : dSt XC G A s h H locs) (hZ : dZq A s s.heap) (hO : dOut G qo ov H) (hne : ∀ i : Nat, i < 86 → G.2.2 i ≠ qo) (L : lv_has lsA 5 [(0, .ref (G.2.2 0)), (1, .int x1), (2, .int x2), (3, .ref qo)]) :
    W p l e rmL s m args below meth c H locs 0 0 (vx_MQ below (dQS G qo A h 1 ov) XC9 args s 1 6 A) (F0 m 5 lsA [.int x2, .int x1, .ref (G.2.2 0), .int 0, .ref qo]) := by
  obtain ⟨c1, ⟨m1, m2, m3, m4⟩, hv, q, c4, c5⟩ := lcl_7
  have hlt : qo < H.size := (Array.getElem?_eq_some_iff.mp hO).1
  have hAA : ∀ q, dA XC G H.size q → A q := by
    rintro q (⟨k, hk, rfl⟩ | hq)
    · exact S.2.2.2.1 k hk
    · exact S.2.2.2.2.2.2.1 q (Nat.le_trans S.2.2.2.2.1.1 hq)
  have hrun := vx_runV (e := e) (As := [.int x1, .int x2]) (rest := [.int 0, .ref qo]) (b := G.2.2 0) (g := F0 m 5 lsA [.int x2, .int x1, .ref (G.2.2 0), .int 0, .ref qo]) (C := yX11_spot.cls) (R := rmL) (cells := 0) (slots := 0) (locs := locs) (below := below) (meth := meth) ⟨F.1, F.2.1, F.2.2.1, F.2.2.2.1, F.2.2.2.2.1⟩ (t_spotX hl hno G H.size)
    (⟨callB_of 2 F.2.2.2.2.1 (dGood _ _ _ _ m1) rfl rfl rfl (F.2.2.2.2.1 _ m2) (F.2.2.2.2.1 _ c1) m3 ⟨by decide, by decide⟩, F.2.2.2.2.1 _ hv.1, F.2.2.2.2.1 _ hv.2⟩ : CallW rmL s args RL yX11_spot.cls 7 yX11_spot cX11_spot 3 (some .int) _ _ 1 6 2)
    ⟨fun a U g mk hp => ⟨hp.1, dPU_blind g mk a hp.2⟩, by rw [← c5]; exact va_recv S.1 S.2.1 c4 (dW_get shC_0), fun U hU hW => ⟨rfl, dPU_pre S hZ hAA hU hW⟩⟩ rfl rfl L.1 rfl (Nat.le_of_ble_eq_true rfl) dL_spot_5 ⟨by decide, by decide⟩
  refine vx_calli (A0 := A) (H0 := s.heap) hrun S.2.2.2.2.1 (fun q _ hq => hAA q hq) hAA (fun q _ hq => hAA q hq) (fun E ce q9 u t H1 locs1 ht hal hpx hb hsz hk hS1 hce hcv hcl => ?_) (fun _ _ _ _ _ _ _ hf => hf.elim)
  obtain ⟨rfl, hPt⟩ := hb
  rw [ht] at hPt
  have hO1 : dOut G qo ov H1 := (hk qo hlt (dAo_not hlt hne)).trans hO
  refine vx_catch (own := RL) (name := tE) F.2.2.2.1 [] ⟨0, 10, 13, 13⟩ [] htab (fun z hz => nomatch hz) (by decide) (by decide) (F.2.2.2.2.1 _ tw_13) (va_Nw.use rfl (hZ.2 _ (by simp [tBad]))) hce hcv hcl ?_
  refine lv_astore F.1 F.2.1 dL_spot_13 L (by decide) rfl (fun lsB LB => ?_)
  refine lv_iconst (v := 1) F.1 F.2.1 dL_spot_15 (by decide) ?_
  exact w_Lret F dL_spot_16 hPt hS1 hO1 (by decide) (by decide)
end WL
set_option maxRecDepth 20000 in
theorem t_Lspot {l : Launch} (hl : l.stackTraces = false) {x1 x2 : Int32} {h : dH} {r : Int32} {ov ov' : Nat → Int64} (hc : sCase x1 x2 h r ov ov') (G : dG) (sz qo : Nat) :
    vx_Met l yL_spot (.codeWith yL_spot cL_spot 5 (some .int) [(0, 10, 13, 13)] :: dWs) rmL (va_Pc [.ref (G.2.2 0), .int x1, .int x2, .ref qo] (fun U => dPU G sz (dAo G sz qo) h U ∧ dOut G qo ov U.heap ∧ ∀ i : Nat, i < 86 → G.2.2 i ≠ qo)) (dQS G qo (dAo G sz qo) h r ov') (fun _ _ _ => False) 1 6 (dAo G sz qo) := by
  refine vx_ofWH (cc := cL_spot) (maxL := 5) (ret := some .int) (by decide) rfl ?_
  intro p e s m args below meth c s₁ Bd hml hv
  obtain ⟨rfl, ⟨hsz, hP, hK, hI, hE, hlen, hEx, hZ⟩, hO, hne⟩ := hv
  subst hsz
  have hts := atoms_spec (ws := .codeWith yL_spot cL_spot 5 (some .int) [(0, 10, 13, 13)] :: dWs) Bd.pre
  have htab : c.exceptionTable.toList = tableOf [(0, 10, 13, 13)] := vx_table (x := yL_spot) Bd (hts _ List.mem_cons_self)
  have hown : s.vm.findClass RL = some m.cls := findClass_of_methodNamed Bd.named
  have hen := lv_entry [Value.ref (G.2.2 0), .int x1, .int x2, .ref qo] (n := 5) (by show 4 ≤ 5; decide)
  rw [lg_entry_eq]
  generalize (lg_sl [Value.ref (G.2.2 0), .int x1, .int x2, .ref qo] ++ List.replicate (5 - (lg_sl [Value.ref (G.2.2 0), .int x1, .int x2, .ref qo]).length) Slot.unset).toArray = lsA at hen ⊢
  have F : dFix p s m meth c [Value.ref (G.2.2 0), .int x1, .int x2, .ref qo].toArray RL cL_spot 5 (some .int) := ⟨Bd.exec, Bd.bytes, hml, hown, fun w hw => hts w (List.mem_cons_of_mem _ hw), Bd.returns, Bd.notSynchronized⟩
  have S : dSt XC G (dAo G s.heap.size qo) s h s.heap [] := ⟨hK, hP, hI, fun k hk => Or.inl (Or.inl ⟨k, hk, rfl⟩), va_S.rf, hE, fun q hq => Or.inl (Or.inr hq), hlen, hEx⟩
  have L : lv_has lsA 5 [(0, .ref (G.2.2 0)), (1, .int x1), (2, .int x2), (3, .ref qo)] := hen
  show W p l e rmL s m [Value.ref (G.2.2 0), .int x1, .int x2, .ref qo].toArray below meth c s.heap [] 0 0 _ (F0 m 0 lsA [])
  refine lv_aload_n F.1 F.2.1 dL_spot_0 rfl (lv_at L 3 rfl) ?_
  refine lv_iconst (v := 0) F.1 F.2.1 dL_spot_1 (by decide) ?_
  refine lv_aload_n F.1 F.2.1 dL_spot_2 rfl (lv_at L 0 rfl) ?_
  refine lv_iload_n F.1 F.2.1 dL_spot_3 rfl (lv_at L 1 rfl) ?_
  refine lv_iload_n F.1 F.2.1 dL_spot_4 rfl (lv_at L 2 rfl) ?_
  rcases hc with ⟨_, v, h2, rfl, rfl⟩ | ⟨h1, rfl, rfl⟩
  · exact w_LspotA h2 F S hO (Or.inr rfl) hne L
  · exact w_LspotB hl h1 F htab S hZ hO hne L
