/-! constructors: rows of rows, calls of constructors -/
theorem dInj_of {X : dX} {G : dG} {h : dH} {A : Nat → Prop} (hD : va_D A (dW X G h)) : dInj X G ∧ ∀ k, k < X.1.length → A (G.2.2 k) := by
  have at' : ∀ i, i < X.1.length → ∃ el, (dW X G h)[i]? = some (G.2.2 i, el) := fun i hi => ⟨_, dW_get (List.getElem?_eq_getElem hi)⟩
  refine ⟨fun i j hi hj e => ?_, fun k hk => ?_⟩
  · obtain ⟨a, ha⟩ := at' i hi
    obtain ⟨b, hb⟩ := at' j hj
    exact hD.1 i j _ _ ha hb e
  · obtain ⟨a, ha⟩ := at' k hk
    exact hD.2 k _ ha
section BP
variable {C S D : Nat} {own : String} {cc : ByteArray} {nL : Nat} {pc : Nat} {ls st : List Value} {Y : dX} {gr L : List (Nat × Nat)} {n : Nat} {h : dH} {c0 s0 : Nat} {X' : dX} {h' : dH}
theorem N_mna {v w : Int32} {N M idx : Nat} (hd : decode cc pc = .ok (.multianewarray idx 2, 4)) (hl : Cond.classLink own idx "[[I" ∈ dWs) (ha : Cond.arrayClass .int ∈ dWs) (hv : ¬ v < 0) (hw : ¬ w < 0) (hN : v.toNatClampNeg = N) (hM : w.toNatClampNeg = M) (hb1 : N * 4 ≤ 536870912) (hb2 : M * componentBytes .int ≤ 536870912) (hb3 : M ≤ 536870912)
    (hY : Y.1[n]? = some (.inr (4, N))) (hY2 : ∀ i, i < N → Y.1[n + 1 + i]? = some (.inr (0, M))) (hn : n + 1 + N ≤ 1000) (hng : (n, N) ∈ gr) (hg : dGr Y gr) (hc2 : gr.all (fun q => decide (n ≤ q.1) || decide (q.1 + q.2 < n)) = true) (hz : ∀ i, i < N → h.1 (n + 1 + i) = fun _ => 0) (hC : c0 + (1 + N) ≤ C) (hS : s0 + (N + N * M) ≤ S) (ho1 : dOk n ls = true) (ho2 : dOk n st = true)
    (hcL : ∀ b, n ≤ b → b < n + 1 + N → L.all (fun q => Y.2 h.2.2 q.1 q.2 != some b) = true)
    (K : BA C S D own cc nL (pc + 4) ls (.ref n :: st) (dXP Y gr (n + (1 + N)) L) h (c0 + 1 + N) (s0 + N + N * M) X' h') : BA C S D own cc nL pc ls (.int w :: .int v :: st) (dXP Y gr n L) h c0 s0 X' h' := by
  intro p l e s m args below meth c G A H locs lsA F hin Q L0
  have hnY := (List.getElem?_eq_some_iff.mp hY).1
  have hN1 : n + (1 + N) ≤ Y.1.length := by
    rcases Nat.eq_zero_or_pos N with z | z
    · omega
    · have := (List.getElem?_eq_some_iff.mp (hY2 (N - 1) (by omega))).1
      omega
  have hlen : (dXP Y gr n L).1.length = n := by show (Y.1.take n).length = n; rw [List.length_take]; omega
  have hlen1 : (dXP Y gr (n + (1 + N)) L).1.length = n + (1 + N) := by show (Y.1.take (n + (1 + N))).length = _; rw [List.length_take]; omega
  have hne : ∀ a k b, n ≤ b → b < n + (1 + N) → (dXP Y gr n L).2 h.2.2 a k ≠ some b := by
    intro a k b h1 h2
    rw [dXP_ref]
    split
    · rename_i hh
      simp only [Bool.or_eq_true, Bool.and_eq_true, decide_eq_true_eq] at hh
      rcases hh with hh | ⟨g1, g2⟩
      · have := List.all_eq_true.mp (hcL b h1 (by omega)) (a, k) (List.contains_iff_mem.mp hh)
        simpa using this
      · unfold dgr at g1
        obtain ⟨q, hq, he⟩ := List.any_eq_true.mp g1
        have he : q.1 = a := by simpa using he
        subst he
        rw [hg q hq]
        have := List.all_eq_true.mp hc2 q hq
        simp only [Bool.or_eq_true, decide_eq_true_eq] at this
        split
        · intro e
          cases e
          omega
        · intro e; cases e
    · intro e; cases e
  have r0 := (Q.1.2 0 (G.2.1 0, .int) rfl).2
  have r4 := (Q.1.2 4 (G.2.1 4, .array .int) rfl).2
  refine va_mna (D := G.1) (X := dW (dXP Y gr n L) G h) (L := []) (f := fun _ => .inr (0, [])) (ty := .int) (cy := G.2.1 0) (z := (M, .inl (fun _ => 0))) F.1 F.2.1 F.2.2.2.1 (F.2.2.2.2.1 _ hl) Q.2.2.2.2.2.1.2.2.2.2.2 (F.2.2.2.2.1 _ ha) r0 Q.1 (by show va_P _ _ (_ ++ []) _; rw [List.append_nil]; exact Q.2.1) (by show va_D _ (_ ++ []); rw [List.append_nil]; exact dD Q.2.2.1 Q.2.2.2.1) Q.2.2.2.2.1 Q.2.2.2.2.2.2.1 hv hw hN hM hb1 hb2 hb3 rfl rfl hC hS (fun c1 => by show ({ cls := c1, slots := Array.replicate M (.int 0), vm := .none } : Cell) = _; rw [arrV_new]; rfl) hd (fun q r cA H1 hr1 hr2 K1 P1 D1 Q1 => ?_)
  have ecA : cA = G.2.1 4 := by
    have r1 := (K1.2 5 (cA, .array .int) rfl).2
    exact dRA_eq (fun C e => by cases e) r1 r4
  subst ecA
  have hx : dExt n G (G.1, G.2.1, fun k => if k = n then q else if n < k ∧ k < n + (1 + N) then r (k - n - 1) else G.2.2 k) := ⟨rfl, rfl, fun k hk => by
    show (if k = n then q else if n < k ∧ k < n + (1 + N) then r (k - n - 1) else G.2.2 k) = _
    rw [if_neg (by omega), if_neg (by omega)]⟩
  have e1 := dXP_grow (m := 1 + N) (G := G) (G1 := (G.1, G.2.1, fun k => if k = n then q else if n < k ∧ k < n + (1 + N) then r (k - n - 1) else G.2.2 k)) hN1 ⟨rfl, rfl, fun k hk => by
    show (if k = n then q else if n < k ∧ k < n + (1 + N) then r (k - n - 1) else G.2.2 k) = _
    rw [if_neg (by omega), if_neg (by omega)]⟩ hne
  have e2 : (dW (dXP Y gr n L) G h ++ [(q, Sum.inl (G.2.1 4, N, Sum.inr (Sum.inr (Sum.inr (Sum.inr (fun i => if i < N then some (r i) else none))))))]) ++ va_pl ([] ++ (List.range N).map r) (vr_up (fun _ => .inr (0, [])) ((List.range N).map r) (.inl (G.2.1 0, M, .inl (fun _ => 0)))) = dW (dXP Y gr (n + (1 + N)) L) (G.1, G.2.1, fun k => if k = n then q else if n < k ∧ k < n + (1 + N) then r (k - n - 1) else G.2.2 k) h := by
    rw [e1, List.append_assoc]
    congr 1
    rw [Nat.add_comm 1 N, List.range_succ_eq_map, List.map_cons, List.map_map, List.nil_append]
    show (q, _) :: _ = _ :: _
    congr 1
    · show (q, _) = ((if n + 0 = n then q else _), _)
      rw [Nat.add_zero, if_pos rfl, List.getD_eq_getElem?_getD, hY]
      show (q, Sum.inl (G.2.1 4, N, _)) = (q, (Sum.inl (G.2.1 4, N, Sum.inr (Sum.inr (Sum.inr (Sum.inr (fun i => ((dXP Y gr (n + (N + 1)) L).2 h.2.2 n i).map _))))) : va_E))
      congr 8
      funext i
      have e3 : (dXP Y gr (n + (N + 1)) L).2 h.2.2 n i = if i < N then some (n + 1 + i) else none := by
        rw [dXP_ref, show dgr gr n = true from List.any_eq_true.mpr ⟨(n, N), hng, by simp⟩, decide_eq_true (show n < n + (N + 1) by omega), Bool.and_self, Bool.or_true, if_pos rfl]
        exact hg (n, N) hng h.2.2 i
      rw [e3]
      by_cases hi : i < N
      · rw [if_pos hi, if_pos hi]
        show some (r i) = some (if n + 1 + i = n then q else if n < n + 1 + i ∧ n + 1 + i < n + (N + 1) then r (n + 1 + i - n - 1) else _)
        rw [if_neg (by omega), if_pos (by omega), show n + 1 + i - n - 1 = i by omega]
      · rw [if_neg hi, if_neg hi]
        rfl
    · unfold va_pl
      rw [List.map_map]
      apply List.map_congr_left
      intro i hi
      have hi := List.mem_range.mp hi
      show (r i, vr_up _ _ _ (r i)) = ((if n + (i + 1) = n then q else if n < n + (i + 1) ∧ n + (i + 1) < n + (N + 1) then r (n + (i + 1) - n - 1) else _), dEl _ _ h (n + (i + 1)) (Y.1.getD (n + (i + 1)) (.inl 0)))
      rw [if_neg (by omega), if_pos (by omega), show n + (i + 1) - n - 1 = i by omega, vr_up_in (List.mem_map.mpr ⟨i, List.mem_range.mpr hi, rfl⟩), List.getD_eq_getElem?_getD, show n + (i + 1) = n + 1 + i by omega, hY2 i hi]
      show (r i, _) = (r i, (Sum.inl (G.2.1 0, M, Sum.inl (h.1 (n + 1 + i))) : va_E))
      rw [hz i hi]
  rw [e2] at P1 D1
  obtain ⟨i1, i2⟩ := dInj_of D1
  have hdv : Value.ref q :: st.map (dv G) = (Value.ref n :: st).map (dv (G.1, G.2.1, fun k => if k = n then q else if n < k ∧ k < n + (1 + N) then r (k - n - 1) else G.2.2 k)) := by
    rw [List.map_cons, dv_exts hx st ho2]
    show _ = Value.ref (if n = n then q else _) :: _
    rw [if_pos rfl]
  rw [hdv]
  obtain ⟨S1, S2, S3, S4, S5, S6, S7, S8, S9⟩ := Q
  exact W.mono (dQA.mono (n := (dXP Y gr n L).1.length) (n' := (dXP Y gr (n + (1 + N)) L).1.length) (by rw [hlen]; exact hx) (by omega)) (K p l e s m args below meth c _ A H1 locs lsA F hin ⟨S1, P1, i1, i2, Q1, S6.ext (fun k hk => by
    show (if k = n then q else if n < k ∧ k < n + (1 + N) then r (k - n - 1) else G.2.2 k) = _
    rw [if_neg (by omega), if_neg (by omega)]), S7, by omega, S9⟩ (by rw [dL_exts hx ls 0 ho1]; exact L0))
end BP
section BQ
variable {C S D C1 S1 D1 : Nat} {own : String} {cc : ByteArray} {nL : Nat} {pc : Nat} {ls st as : List Value} {X X1 : dX} {h h1 : dH} {c0 s0 : Nat} {X' : dX} {h' : dH} {y : MethodName} {cy : ByteArray} {ny n idx a : Nat}
theorem dPreA {s : State} {G : dG} {A : Nat → Prop} {H : Heap} {locs : List Loc} (Q : dSt X G A s h H locs) :
    FrameBlind (va_Pc (as.map (dv G)) (fun U => U.heap.size = H.size ∧ va_P G.1 vwCl (dW X G h) U.heap ∧ va_K G.1 vwCl (dTys G) U ∧ dInj X G ∧ dE G (dA X G H.size) U U.heap ∧ X.1.length ≤ 1000 ∧ dEx h)) ∧
    ∀ U : State, U.heap = H → s.WarmedH U.vm → va_Pc (as.map (dv G)) (fun U => U.heap.size = H.size ∧ va_P G.1 vwCl (dW X G h) U.heap ∧ va_K G.1 vwCl (dTys G) U ∧ dInj X G ∧ dE G (dA X G H.size) U U.heap ∧ X.1.length ≤ 1000 ∧ dEx h) (as.map (dv G)).toArray U := by
  obtain ⟨S1, S2, S3, S4, S5, S6, S7, S8, S9⟩ := Q
  have hAA : ∀ q, dA X G H.size q → A q := by
    rintro q (⟨k, hk, rfl⟩ | hq)
    · exact S4 k hk
    · exact S7 q (Nat.le_trans S5.1 hq)
  refine ⟨fun a U g mk ⟨q0, q1, q2, q3, q4, q5, q6, q7⟩ => ⟨q0, q1, q2, va_K.moved (u := U) (U := U.calling g mk a) (Vm.Alike.refl U.vm) q3, q4, dE.same (u := U) (U := U.calling g mk a) rfl q5, q6, q7⟩, fun U hU hW => ⟨rfl, by rw [hU], by rw [hU]; exact S2, va_K.moved hW.alike S1, S3, ?_, S8, S9⟩⟩
  rw [hU]
  exact S6.step S5 hW hAA
theorem dRoomA {D D' C S C' S' ny : Nat} (hD : D' + 1 ≤ D) (hn : ny ≤ 41) : (dRmA D' C' S').frames + 1 ≤ (dRmA D C S).frames ∧ 8 + (ny + 11) + (dRmA D' C' S').locals ≤ (dRmA D C S).locals := by
  refine ⟨hD, ?_⟩
  show 8 + (ny + 11) + 60 * D' ≤ 60 * D
  omega
/-- behind a constructor's call -/
theorem dGoA {p : Program} {l : Launch} {e : Env} {s : State} {m : MethodId} {args : Array Value} {below : List Frame} {meth : Method} {c : Code} {G : dG} {A : Nat → Prop} {H : Heap} {locs : List Loc} {lsA : Array Slot} {st0 : List Value} {av : Array Value}
    (hr : va_Run p l e (dRmA D C S) s m args below meth c H locs c0 s0 C1 S1 (F0 m pc lsA st0) (st.map (dv G)) (dQA X.1.length X1 G (dA X G H.size) h1 av) (dA X G H.size)) (Q : dSt X G A s h H locs) (hX1 : X.1.length ≤ X1.1.length) (hX2 : X1.1.length ≤ 1000) (ho1 : dOk X.1.length ls = true) (ho2 : dOk X.1.length st = true)
    (F : dFix p s m meth c args own cc nL none) (hin : meth.name = "<init>") (L0 : lv_has lsA nL (dL G 0 ls)) (K : BA C S D own cc nL (pc + 3) ls st X1 h1 (c0 + C1) (s0 + S1) X' h') :
    W p l e (dRmA D C S) s m args below meth c H locs c0 s0 (MQ below (dQA X.1.length X' G A h') args s C S A) (F0 m pc lsA st0) := by
  obtain ⟨S1, S2, S3, S4, S5, S6, S7, S8, S9⟩ := Q
  have hAA : ∀ q, dA X G H.size q → A q := by
    rintro q (⟨k, hk, rfl⟩ | hq)
    · exact S4 k hk
    · exact S7 q (Nat.le_trans S5.1 hq)
  intro U hU XX
  obtain ⟨v, st₀, t, U', L, h0, X', hL, e1, e2, ⟨hv, ⟨G', hx, hP, hI, hA⟩, ⟨hz, hk⟩, hex⟩, stp⟩ := hr U hU XX
  cases hv
  rw [h0] at hz hk
  have Kw := K p l e s m args below meth c G' A U'.heap (locs ++ L) lsA F hin ⟨by have z1 := hx.1; have z2 := hx.2.1; unfold dTys; rw [z1, z2]; exact S1, by rw [e1]; exact hP, hI, fun k hk => hAA _ (hA k hk), ⟨Nat.le_trans S5.1 (by rw [e1]; exact hz), fun q g1 g2 => by rw [e1, hk q (Nat.lt_of_lt_of_le g1 S5.1) (fun w => g2 (hAA q w))]; exact S5.2.1 q g1 g2, fun q hq => by
      rcases List.mem_append.mp hq with w | w
      · exact S5.2.2 q w
      · exact hAA _ (hL q w)⟩, S6.ext (fun k hk => hx.2.2 k (Or.inr hk)), S7, hX2, hex⟩ (by rw [dL_exts hx ls 0 ho1]; exact L0)
  obtain ⟨t2, a1, b1⟩ := W.mono (dQA.mono hx hX1) Kw U' rfl X'
  refine ⟨t2, stp t2 ?_, b1⟩
  rw [dv_exts hx st ho2] at a1
  exact a1
theorem N_callI {st0 : List Value} (hd : decode cc pc = .ok (.invokespecial idx, 3)) (hl : Cond.methodLink own idx y ∈ dWs) (hm : dMw y cy ny none n) (hi : Cond.instanceMethod y ∈ dWs) (hy1 : y.name = "<init>") (hT : TI C1 S1 D1 y cy ny (.ref a :: as) X h X1 h1) (hD : D1 + 1 ≤ D) (hn : as.length = n) (hst : st0 = as.reverse ++ .ref a :: st) (hw : dwd st ≤ 8) (hC : c0 + C1 ≤ C) (hS : s0 + S1 ≤ S) (hX1 : X.1.length ≤ X1.1.length) (hX2 : X1.1.length ≤ 1000) (ho1 : dOk X.1.length ls = true) (ho2 : dOk X.1.length st = true)
    (K : BA C S D own cc nL (pc + 3) ls st X1 h1 (c0 + C1) (s0 + S1) X' h') : BA C S D own cc nL pc ls st0 X h c0 s0 X' h' := by
  intro p l e s m args below meth c G A H locs lsA F hin Q L0
  obtain ⟨m1, m2, m3, m4⟩ := hm
  have hpre := dPreA (as := .ref a :: as) Q
  have hrun := va_runI (e := e) (As := as.map (dv G)) (rest := st.map (dv G)) (b := G.2.2 a) (g := F0 m pc lsA (st0.map (dv G))) (cells := c0) (slots := s0) (locs := locs) (below := below) (meth := meth) ⟨F.1, F.2.1, F.2.2.1, F.2.2.2.1, F.2.2.2.2.1⟩ (hT l G H.size)
    (⟨callB_of n F.2.2.2.2.1 (dGood y cy ny none m1) rfl rfl rfl (F.2.2.2.2.1 _ m2) (F.2.2.2.2.1 _ hl) m3 (dRoomA hD m4), hy1, F.2.2.2.2.1 _ hi⟩ : CallB (dRmA D C S) s args own idx y cy ny none _ _ C1 S1 n ∧ _)
    hpre rfl (by rw [List.length_map]; exact hn) L0.1 (by subst hst; show List.map (dv G) _ = _; rw [List.map_append, List.map_reverse]; rfl) (dWst hw) hd ⟨hC, hS⟩
  exact dGoA hrun Q hX1 hX2 ho1 ho2 F hin L0 K
theorem N_callIN {st0 : List Value} (hd : decode cc pc = .ok (.invokespecial idx, 3)) (hl : (own, idx, y) ∈ dNs) (hm : dMw y cy ny none n) (hi : Cond.instanceMethod y ∈ dWs) (hy1 : y.name = "<init>") (hT : TI C1 S1 D1 y cy ny (.ref a :: as) X h X1 h1) (hD : D1 + 1 ≤ D) (hn : as.length = n) (hst : st0 = as.reverse ++ .ref a :: st) (hw : dwd st ≤ 8) (hC : c0 + C1 ≤ C) (hS : s0 + S1 ≤ S) (hX1 : X.1.length ≤ X1.1.length) (hX2 : X1.1.length ≤ 1000) (ho1 : dOk X.1.length ls = true) (ho2 : dOk X.1.length st = true)
    (K : BA C S D own cc nL (pc + 3) ls st X1 h1 (c0 + C1) (s0 + S1) X' h') : BA C S D own cc nL pc ls st0 X h c0 s0 X' h' := by
  intro p l e s m args below meth c G A H locs lsA F hin Q L0
  obtain ⟨m1, m2, m3, m4⟩ := hm
  have hpre := dPreA (as := .ref a :: as) Q
  have hrun := va_runIN (e := e) (As := as.map (dv G)) (rest := st.map (dv G)) (b := G.2.2 a) (g := F0 m pc lsA (st0.map (dv G))) (cells := c0) (slots := s0) (locs := locs) (below := below) (meth := meth) ⟨F.1, F.2.1, F.2.2.1, F.2.2.2.1, F.2.2.2.2.1⟩ (hT l G H.size)
    ⟨va_cnB n F.2.2.2.2.1 (dGood y cy ny none m1) rfl rfl rfl (Q.2.2.2.2.2.1.2.2.2.1 (own, idx, y) hl) (F.2.2.2.2.1 _ m2) m3 (dRoomA hD m4), hy1, F.2.2.2.2.1 _ hi⟩
    hpre rfl (by rw [List.length_map]; exact hn) L0.1 (by subst hst; show List.map (dv G) _ = _; rw [List.map_append, List.map_reverse]; rfl) (dWst hw) hd ⟨hC, hS⟩
  exact dGoA hrun Q hX1 hX2 ho1 ho2 F hin L0 K
end BQ
