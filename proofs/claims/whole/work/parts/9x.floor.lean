/-! Math.floorMod: its class is named among the overridden, it itself has no native row -/
theorem Met_ofWF {l : Launch} {y : MethodName} {ws ws' : List Cond} {rm : Room} {Pc : Array Value → State → Prop} {Qc : Array Value → State → Outcome → State → Prop} {mc ms : Nat} {free : Addr → Prop} {cc : ByteArray} {maxL : Nat} {ret : Option FieldType}
    (hy : plainFor y = true) (hw : ws = Cond.code y cc maxL ret :: ws')
    (body : ∀ p e s m args below meth c s₁, BodyLoose p l y (headSpec ws rm) cc maxL ret e s m args below meth c s₁ → c.maxLocals = maxL → Pc args s →
      W p l e (headSpec ws rm).room s m args below meth c s.heap [] 0 0 (MQ below Qc args s mc ms free) (entryFrame m args maxL)) : Met l y ws rm Pc Qc mc ms free := by
  refine MetFree.of_bodySF (code := cc) (maxLocals := maxL) (ret := ret) hy (fun args s m h hn => ?_) (fun p e s m args below meth c s₁ Bd hml hP _ => ?_)
  · obtain ⟨meth, c, h1, h2, h3, h4, h5, h6, -, -⟩ := Cond.code_spec hn (atoms_spec (ws := ws) h _ (by rw [hw]; exact List.mem_cons_self))
    exact ⟨meth, c, h1, h2, h3, h4, h5, h6⟩
  · have hh : s₁.heap = s.heap := by rw [Bd.state]; rfl
    obtain ⟨t, a1, o, b1, b2, b3⟩ := body p e s m args below meth c s₁ Bd hml hP s₁ hh (Stand.of_body Bd)
    exact ⟨t, o, a1, b1, b2, ⟨b3.1, b3.2⟩⟩
theorem T_ofF {α : Type} {X : dX} {D : Nat} {y : MethodName} {cc : ByteArray} {nL : Nat} {rt : Option FieldType} {φ : α → Option Value × dH} {as : List Value} {h : dH} {o : Option α} (ls : List Value) (hy : plainFor y = true)
    (hl : ∀ G : dG, dL G 0 ls = lv_args 0 (as.map (dv G))) (hn : ∀ G : dG, (lg_sl (as.map (dv G))).length ≤ nL) (k : B X D y.cls cc nL rt φ 0 ls [] h o) : T X D y cc nL rt φ as h o := by
  intro x hx l G sz
  refine Met_ofWF (cc := cc) (maxL := nL) (ret := rt) hy rfl ?_
  intro p e s m args below meth c s₁ Bd hml hv
  obtain ⟨rfl, hsz, hP, hK, hI, hE, hlen, hEx⟩ := hv
  subst hsz
  have hts := atoms_spec (ws := .code y cc nL rt :: dWs) Bd.pre
  have hown : s.vm.findClass y.cls = some m.cls := findClass_of_methodNamed Bd.named
  have hen := lv_entry (as.map (dv G)) (n := nL) (hn G)
  rw [lg_entry_eq]
  generalize (lg_sl (as.map (dv G)) ++ List.replicate (nL - (lg_sl (as.map (dv G))).length) Slot.unset).toArray = lsA at hen ⊢
  rw [← hl G] at hen
  exact k x hx p l e s m _ below meth c G (dA X G s.heap.size) s.heap [] lsA ⟨Bd.exec, Bd.bytes, hml, hown, fun w hw => hts w (List.mem_cons_of_mem _ hw), Bd.returns, Bd.notSynchronized⟩
    ⟨hK, hP, hI, fun k hk => Or.inl ⟨k, hk, rfl⟩, va_S.rf, hE, fun q hq => Or.inr hq, hlen, hEx⟩ hen
theorem t_floorT (x0 x1 : Int32) (h : dH) : T XC 1 yJ9_floorMod_7cf53 cJ9_floorMod_7cf53 3 (some .int) (fiP h) [.int x0, .int x1] h (f_J9_floorMod_7cf53 x0 x1) := by
  refine T_ofF [.int x0, .int x1, .null] (by decide +kernel) (fun _ => rfl) (fun _ => Nat.le_of_ble_eq_true rfl) ?_
  unfold f_J9_floorMod_7cf53
  by_cases hz : ¬ x1 = 0
  · rw [if_pos hz]
    refine B_iload_n dJ9_floorMod_7cf53_0 rfl rfl ?_
    refine B_iload_n dJ9_floorMod_7cf53_1 rfl rfl ?_
    refine B_irem dJ9_floorMod_7cf53_2 hz ?_
    refine B_istore_n (ls' := [.int x0, .int x1, .int (x0 - x0 / x1 * x1)]) dJ9_floorMod_7cf53_3 rfl (Nat.le_of_ble_eq_true rfl) rfl rfl ?_
    refine B_iload_n dJ9_floorMod_7cf53_4 rfl rfl ?_
    refine B_iload_n dJ9_floorMod_7cf53_5 rfl rfl ?_
    refine B_ixor dJ9_floorMod_7cf53_6 ?_
    have last : B XC 1 yJ9_floorMod_7cf53.cls cJ9_floorMod_7cf53 3 (some .int) (fiP h) 18 [.int x0, .int x1, .int (x0 - x0 / x1 * x1)] [] h (some (x0 - x0 / x1 * x1)) := by
      refine B_iload_n dJ9_floorMod_7cf53_18 rfl rfl ?_
      exact B_ireturn dJ9_floorMod_7cf53_19 rfl rfl
    refine B_if_ge (tgt := 18) dJ9_floorMod_7cf53_7 (by decide) (by rw [Int32.not_lt]) (fun _ => last) (fun _ => ?_)
    refine B_iload_n dJ9_floorMod_7cf53_10 rfl rfl ?_
    refine B_if_eq_s (tgt := 18) dJ9_floorMod_7cf53_11 (by decide) (fun q => ?_) (fun q => ?_)
    · rw [if_pos q]
      exact last
    · rw [if_neg q]
      refine B_iload_n dJ9_floorMod_7cf53_14 rfl rfl ?_
      refine B_iload_n dJ9_floorMod_7cf53_15 rfl rfl ?_
      refine B_iadd dJ9_floorMod_7cf53_16 ?_
      exact B_ireturn dJ9_floorMod_7cf53_17 rfl rfl
  · rw [if_neg hz]
    exact B_none
