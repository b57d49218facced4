/-! the law, from its entry to its loop -/
theorem lRoomA {D' C S ny : Nat} (hD : D' ≤ 1000) (hn : ny ≤ 41) : (dRmA D' C S).frames + 1 ≤ room_1.frames ∧ 8 + (ny + 11) + (dRmA D' C S).locals ≤ room_1.locals := by
  refine ⟨show D' + 1 ≤ 2048 by omega, ?_⟩
  show 8 + (ny + 11) + 60 * D' ≤ 84000
  omega
theorem i_C2 : TI 85 3845 2 yX11_init cX11_init 1 [.ref 0] (dXP XC grC 1 []) (dH0 1) XC hC0 := by
  have h : TI 85 3845 2 yX11_init cX11_init 1 [.ref 0] (dXP XC grC 1 []) (dH0 1) (dXP XC grC 86 LC) hC0 := i_C
  rw [xC_new] at h
  exact h
theorem i_M2 : TI 23 27225 1 yX12_init cX12_init 1 [.ref 0] (dXP XM [] 1 []) (dH0 1) XM hM0 := by
  have h : TI 23 27225 1 yX12_init cX12_init 1 [.ref 0] (dXP XM [] 1 []) (dH0 1) (dXP XM [] 24 LM) hM0 := i_M
  rw [xM_new] at h
  exact h
section LS
variable {p : Program} {l : Launch} {e : Env} {s : State} {m : MethodId} {below : List Frame} {meth : Method} {c : Code} {b L : Nat} {xs : Nat → Int32}
set_option maxRecDepth 20000 in
theorem law_s3 (C0 : lw_At p s m meth c b L xs) (hloop : LB l b L xs 0 23 0 [] hC0 hM0) (GC GM : dG) (H : Heap) (locs : List Loc) (ls : Array Slot) (W1 : dSt XC GC (fun q : Nat => s.heap.size ≤ q) s hC0 H locs) (W2 : dSt XM GM (fun q : Nat => s.heap.size ≤ q) s hM0 H locs) (W3 : GM.1 = GC.1 ∧ GM.2.1 = GC.2.1) (W5 : ∀ i j : Nat, i < 86 → j < 24 → GC.2.2 i ≠ GM.2.2 j) (hl : lv_has ls 7 [(2, .ref (GM.2.2 0)), (1, .ref (GC.2.2 0)), (0, .ref b)]) {cells slots : Nat} (hc : cells ≤ 150) (hs : slots ≤ 35000) :
    W p l e room_1 s m #[Value.ref b] below meth c H locs cells slots (lw_Z below #[Value.ref b] s) (F0 m 16 ls []) := by
  obtain ⟨hx, hb, hr, hml, hown, hts, hX, hbl, hlocks, hgv⟩ := id C0
  obtain ⟨S1, S2, S3, S4, S5, S6, S7, S8, S9⟩ := W1
  obtain ⟨M1, M2, M3, M4, M5, M6, M7, M8, M9⟩ := W2
  have hP : va_P GC.1 vwCl (dW XC GC hC0 ++ dW XM GM hM0) H := va_P.app S2 (by rw [← W3.1]; exact M2)
  have hD : va_D (fun q : Nat => s.heap.size ≤ q) (dW XC GC hC0 ++ dW XM GM hM0) := by
    have at' : ∀ (X : dX) (G : dG) (h : dH) (i : Nat) (q : Nat × va_E), (dW X G h)[i]? = some q → i < X.1.length ∧ q.1 = G.2.2 i := by
      intro X G h i q hq
      unfold dW at hq
      rw [List.getElem?_mapIdx] at hq
      cases hx : X.1[i]? with
      | none => rw [hx] at hq; cases hq
      | some z =>
        rw [hx] at hq
        cases hq
        exact ⟨(List.getElem?_eq_some_iff.mp hx).1, rfl⟩
    refine va_D.app (dD S3 S4) (dD M3 M4) (fun i j x y hx hy hxy => ?_)
    obtain ⟨x1, x2⟩ := at' XC GC hC0 i x hx
    obtain ⟨y1, y2⟩ := at' XM GM hM0 j y hy
    exact W5 i j x1 y1 (by rw [← x2, ← y2]; exact hxy)
  refine lv_iconst (v := 1) hx hb dL_law_16 (by decide) ?_
  refine va_newa (D := GC.1) (atype := .long) hx hb (hts _ (List.mem_filter.mp ac_long).1) (ty := .long) rfl S1 hP hD S5 S7 (N' := 1) (a0 := (1, .inr (.inl (fun _ => 0)))) (fun cA => rfl) (by decide) (by decide) (Nat.le_of_ble_eq_true rfl) (by show cells + 1 ≤ 601024; omega) (by show slots + 1 ≤ 7293034; omega) dL_law_17 (fun qo cA H1 K1 P1 D1 Q1 => ?_)
  have ecA : cA = GC.2.1 3 := dRA_eq (fun C e => by cases e) (K1.2 5 (cA, .long) rfl).2 (S1.2 3 (GC.2.1 3, .long) rfl).2
  subst ecA
  have lenC : (dW XC GC hC0).length = 86 := dW_len
  have lenM : (dW XM GM hM0).length = 24 := dW_len
  have atC : ∀ i, i < 86 → ∃ el, ((dW XC GC hC0 ++ dW XM GM hM0) ++ [(qo, Sum.inl (GC.2.1 3, 1, .inr (.inl (fun _ => 0))))])[i]? = some (GC.2.2 i, el) := fun i hi => ⟨_, by rw [List.getElem?_append_left (by rw [List.length_append]; omega), List.getElem?_append_left (by omega)]; exact dW_get (List.getElem?_eq_getElem (show i < XC.1.length from hi))⟩
  have atM : ∀ j, j < 24 → ∃ el, ((dW XC GC hC0 ++ dW XM GM hM0) ++ [(qo, Sum.inl (GC.2.1 3, 1, .inr (.inl (fun _ => 0))))])[86 + j]? = some (GM.2.2 j, el) := fun j hj => ⟨_, by rw [List.getElem?_append_left (by rw [List.length_append]; omega), List.getElem?_append_right (by omega), lenC, show 86 + j - 86 = j by omega]; exact dW_get (List.getElem?_eq_getElem (show j < XM.1.length from hj))⟩
  have atO : ((dW XC GC hC0 ++ dW XM GM hM0) ++ [(qo, Sum.inl (GC.2.1 3, 1, .inr (.inl (fun _ => 0))))])[110]? = some (qo, Sum.inl (GC.2.1 3, 1, .inr (.inl (fun _ => 0)))) := by
    rw [List.getElem?_append_right (by rw [List.length_append]; omega), List.length_append, lenC, lenM]
    rfl
  have Wd : LWd GC GM qo s hC0 hM0 (fun _ => 0) H1 locs := by
    refine ⟨⟨S1, fun k q hk => P1 k q (by rw [List.getElem?_append_left (by rw [List.length_append]; have := (List.getElem?_eq_some_iff.mp hk).1; omega), List.getElem?_append_left (List.getElem?_eq_some_iff.mp hk).1]; exact hk), S3, S4, Q1, S6, S7, S8, S9⟩, ⟨M1, fun k q hk => ?_, M3, M4, Q1, M6, M7, M8, M9⟩, W3, ⟨P1 110 _ atO, D1.2 110 _ atO⟩, W5, fun i hi e1 => ?_, fun j hj e1 => ?_⟩
    · have hk2 := (List.getElem?_eq_some_iff.mp hk).1
      rw [W3.1]
      exact P1 (86 + k) q (by rw [List.getElem?_append_left (by rw [List.length_append]; omega), List.getElem?_append_right (by omega), lenC, show 86 + k - 86 = k by omega]; exact hk)
    · obtain ⟨el, hel⟩ := atC i hi
      have := D1.1 i 110 _ _ hel atO e1
      omega
    · obtain ⟨el, hel⟩ := atM j hj
      have := D1.1 (86 + j) 110 _ _ hel atO e1
      omega
  refine lv_astore_n (lv' := [(3, .ref qo), (2, .ref (GM.2.2 0)), (1, .ref (GC.2.2 0)), (0, .ref b)]) hx hb dL_law_19 rfl hl (by decide) rfl (fun ls hl => ?_)
  refine lv_iconst (v := 0) hx hb dL_law_20 (by decide) ?_
  refine lv_istore (lv' := [(4, .int 0), (3, .ref qo), (2, .ref (GM.2.2 0)), (1, .ref (GC.2.2 0)), (0, .ref b)]) hx hb dL_law_21 hl (by decide) rfl (fun ls hl => ?_)
  exact hloop p e s m below meth c GC GM qo _ H1 locs ls (cells + 1) (slots + 1) C0 Wd (lv_sub hl [0, 4, 3, 2, 1] rfl) (by omega) (by omega)
set_option maxRecDepth 20000 in
theorem law_s2 (C0 : lw_At p s m meth c b L xs) (hloop : LB l b L xs 0 23 0 [] hC0 hM0) (GC : dG) (H : Heap) (locs : List Loc) (ls : Array Slot) (W1 : dSt XC GC (fun q : Nat => s.heap.size ≤ q) s hC0 H locs) (hl : lv_has ls 7 [(1, .ref (GC.2.2 0)), (0, .ref b)]) {cells slots : Nat} (hc : cells ≤ 100) (hs : slots ≤ 5000) :
    W p l e room_1 s m #[Value.ref b] below meth c H locs cells slots (lw_Z below #[Value.ref b] s) (F0 m 8 ls []) := by
  obtain ⟨hx, hb, hr, hml, hown, hts, hX, hbl, hlocks, hgv⟩ := id C0
  have htd := lw_ts C0
  obtain ⟨S1, S2, S3, S4, S5, S6, S7, S8, S9⟩ := id W1
  have hfs : ∀ j, j < 55 → defaultValue (dTy 12 j) = vp_V ((List.range (dN 12)).map (dFv (dXP XM [] 1 []) (GC.1, GC.2.1, fun k => if k = 0 then 0 else GC.2.2 k) (dH0 1) 0 12)) j := by
    intro j hj
    rcases (show j = 0 ∨ j = 1 ∨ j = 2 ∨ j = 3 ∨ j = 4 ∨ j = 5 ∨ j = 6 ∨ j = 7 ∨ j = 8 ∨ j = 9 ∨ j = 10 ∨ j = 11 ∨ j = 12 ∨ j = 13 ∨ j = 14 ∨ j = 15 ∨ j = 16 ∨ j = 17 ∨ j = 18 ∨ j = 19 ∨ j = 20 ∨ j = 21 ∨ j = 22 ∨ j = 23 ∨ j = 24 ∨ j = 25 ∨ j = 26 ∨ j = 27 ∨ j = 28 ∨ j = 29 ∨ j = 30 ∨ j = 31 ∨ j = 32 ∨ j = 33 ∨ j = 34 ∨ j = 35 ∨ j = 36 ∨ j = 37 ∨ j = 38 ∨ j = 39 ∨ j = 40 ∨ j = 41 ∨ j = 42 ∨ j = 43 ∨ j = 44 ∨ j = 45 ∨ j = 46 ∨ j = 47 ∨ j = 48 ∨ j = 49 ∨ j = 50 ∨ j = 51 ∨ j = 52 ∨ j = 53 ∨ j = 54 by omega) with rfl | rfl | rfl | rfl | rfl | rfl | rfl | rfl | rfl | rfl | rfl | rfl | rfl | rfl | rfl | rfl | rfl | rfl | rfl | rfl | rfl | rfl | rfl | rfl | rfl | rfl | rfl | rfl | rfl | rfl | rfl | rfl | rfl | rfl | rfl | rfl | rfl | rfl | rfl | rfl | rfl | rfl | rfl | rfl | rfl | rfl | rfl | rfl | rfl | rfl | rfl | rfl | rfl | rfl | rfl <;> rfl
  refine va_new (D := GC.1) (ci := 12) (fs := (List.range (dN 12)).map (dFv (dXP XM [] 1 []) (GC.1, GC.2.1, fun k => if k = 0 then 0 else GC.2.2 k) (dH0 1) 0 12)) (C := RX12) (T := TX12) (N := 55) hx hb htd (dCl_all 12 _ rfl).1 (dTy 12) (dCl_all 12 _ rfl).2.1 hown (htd _ sn_16.1) (htd _ sn_16.2.1) (htd _ sn_16.2.2) S1 S2 (dD S3 S4) S5 S7 rfl hfs (by show cells + 1 ≤ 601024; omega) (by show slots + 55 ≤ 7293034; omega) dL_law_8 (fun q0 H1 P1 D1 Q1 => ?_)
  have lenC : (dW XC GC hC0).length = 86 := dW_len
  have atO : (dW XC GC hC0 ++ [(q0, (Sum.inr (12, (List.range (dN 12)).map (dFv (dXP XM [] 1 []) (GC.1, GC.2.1, fun k => if k = 0 then 0 else GC.2.2 k) (dH0 1) 0 12)) : va_E))])[86]? = some (q0, Sum.inr (12, (List.range (dN 12)).map (dFv (dXP XM [] 1 []) (GC.1, GC.2.1, fun k => if k = 0 then 0 else GC.2.2 k) (dH0 1) 0 12))) := by
    rw [List.getElem?_append_right (by omega), lenC]
    rfl
  have hq0 : ∀ i, i < 86 → GC.2.2 i ≠ q0 := fun i hi e1 => by
    have := D1.1 i 86 _ _ (by rw [List.getElem?_append_left (by omega)]; exact dW_get (List.getElem?_eq_getElem (show i < XC.1.length from hi))) atO e1
    omega
  have eW : dW (dXP XM [] 1 []) (GC.1, GC.2.1, fun k => if k = 0 then q0 else GC.2.2 k) (dH0 1) = [(q0, Sum.inr (12, (List.range (dN 12)).map (dFv (dXP XM [] 1 []) (GC.1, GC.2.1, fun k => if k = 0 then 0 else GC.2.2 k) (dH0 1) 0 12)))] := rfl
  have SM : dSt (dXP XM [] 1 []) (GC.1, GC.2.1, fun k => if k = 0 then q0 else GC.2.2 k) (fun q : Nat => s.heap.size ≤ q) s (dH0 1) H1 locs := by
    have hA0 : s.heap.size ≤ q0 := D1.2 86 _ atO
    refine ⟨S1, ?_, fun i j hi hj _ => ?_, fun k hk => ?_, Q1, S6.ext (fun k hk => if_neg (by omega)), S7, by decide, dEx_0 1⟩
    · rw [eW]
      intro k q hk
      have hk1 : k < 1 := (List.getElem?_eq_some_iff.mp hk).1
      have hk0 : k = 0 := by omega
      subst hk0
      cases hk
      exact P1 86 _ atO
    · have hi : i < 1 := hi
      have hj : j < 1 := hj
      omega
    · have hk : k < 1 := hk
      have hk0 : k = 0 := by omega
      subst hk0
      exact hA0
  refine lv_dup hx hb dL_law_11 rfl ?_
  obtain ⟨l1, ⟨m1, m2, m3, m4⟩, hi⟩ := si_18
  have hpre := dPreA (as := [.ref 0]) SM
  have hrun := va_runI (e := e) (As := []) (rest := [.ref q0]) (b := q0) (g := F0 m 12 ls [.ref q0, .ref q0]) (R := room_1) (cells := cells + 1) (slots := slots + 55) (locs := locs) (below := below) (meth := meth) ⟨hx, hb, hml, hown, htd⟩ (i_M2 l (GC.1, GC.2.1, fun k => if k = 0 then q0 else GC.2.2 k) H1.size)
    (⟨callB_of 0 htd (dGood _ _ _ _ m1) rfl rfl rfl (htd _ m2) (htd _ l1) m3 (lRoomA (by decide) m4), rfl, htd _ hi⟩ : CallB room_1 s #[Value.ref b] R_law 18 yX12_init cX12_init 1 none _ _ _ _ 0 ∧ _)
    hpre rfl rfl hl.1 rfl (by show 2 * 0 + 1 ≤ 8; omega) dL_law_12 ⟨by show cells + 1 + _ ≤ 601024; omega, by show slots + 55 + _ ≤ 7293034; omega⟩
  intro U hU XX
  obtain ⟨v, st₀, t, U', LL, h0, X', hL, e1, e2, ⟨hv, ⟨GM, hxt, hPM, hIM, hAM⟩, ⟨hz, hk⟩, hex⟩, stp⟩ := hrun U hU XX
  cases hv
  rw [h0] at hz hk
  have hAA : ∀ q, dA (dXP XM [] 1 []) (GC.1, GC.2.1, fun k => if k = 0 then q0 else GC.2.2 k) H1.size q → (q = q0 ∨ H1.size ≤ q) := by
    rintro q (⟨k, hk, rfl⟩ | hq)
    · have hk : k < 1 := hk
      have hk0 : k = 0 := by omega
      subst hk0
      exact Or.inl rfl
    · exact Or.inr hq
  have hsz : s.heap.size ≤ H1.size := Q1.1
  have hA0 : s.heap.size ≤ q0 := D1.2 86 _ atO
  have hA2 : ∀ q, dA (dXP XM [] 1 []) (GC.1, GC.2.1, fun k => if k = 0 then q0 else GC.2.2 k) H1.size q → s.heap.size ≤ q := fun q hq => by
    rcases hAA q hq with z | z
    · rw [z]; exact hA0
    · omega
  have hSS : va_S (fun q : Nat => s.heap.size ≤ q) s.heap U'.heap (locs ++ LL) := ⟨Nat.le_trans Q1.1 (by rw [e1]; exact hz), fun q g1 g2 => by rw [e1, hk q (Nat.lt_of_lt_of_le g1 Q1.1) (fun w => g2 (hA2 q w))]; exact Q1.2.1 q g1 g2, fun q hq => by
      rcases List.mem_append.mp hq with w | w
      · exact Q1.2.2 q w
      · exact hA2 _ (hL q w)⟩
  have PC1 : va_P GC.1 vwCl (dW XC GC hC0) H1 := fun k q hk => P1 k q (by rw [List.getElem?_append_left (List.getElem?_eq_some_iff.mp hk).1]; exact hk)
  have ltC : ∀ i, i < 86 → GC.2.2 i < H1.size := fun i hi => (PC1 i _ (dW_get (List.getElem?_eq_getElem (show i < XC.1.length from hi)))).lt
  have PC2 : va_P GC.1 vwCl (dW XC GC hC0) U'.heap := dP_kept PC1 (fun q g1 g2 => by rw [e1]; exact hk q g1 g2) (fun j hj h9 => by
    rcases hAA _ h9 with z | z
    · exact hq0 j hj z
    · have := ltC j hj; omega)
  have hM0 : GM.2.2 0 = q0 := hxt.2.2 0 (Or.inl (show 0 < 1 by decide))
  have Kw := law_s3 (p := p) (l := l) (e := e) (s := s) (m := m) (below := below) (meth := meth) (c := c) C0 hloop GC GM U'.heap (locs ++ LL)
  have fin : W p l e room_1 s m #[Value.ref b] below meth c U'.heap (locs ++ LL) (cells + 1 + 23) (slots + 55 + 27225) (lw_Z below #[Value.ref b] s) (F0 m 15 ls [.ref q0]) := by
    refine lv_astore_n (lv' := [(2, .ref q0), (1, .ref (GC.2.2 0)), (0, .ref b)]) hx hb dL_law_15 rfl hl (by decide) rfl (fun ls hl => ?_)
    refine Kw ls ⟨S1, PC2, S3, S4, hSS, S6, S7, S8, S9⟩ ⟨?_, by rw [e1]; exact hPM, hIM, fun k hk => hA2 _ (hAM k hk), hSS, S6.ext (fun k hk => (hxt.2.2 k (Or.inr hk)).trans (if_neg (by omega))), S7, by decide, hex⟩ ⟨hxt.1, hxt.2.1⟩ (fun i j hi hj e3 => ?_) (by rw [hM0]; exact hl) (by omega) (by omega)
    · have z1 := hxt.1
      have z2 := hxt.2.1
      unfold dTys
      rw [z1, z2]
      exact S1
    · rcases hAA _ (hAM j hj) with z | z
      · exact hq0 i hi (e3.trans z)
      · have := ltC i hi
        omega
  obtain ⟨t2, a1, b1⟩ := fin U' rfl X'
  exact ⟨t2, stp t2 a1, b1⟩
set_option maxRecDepth 20000 in
theorem law_start (C0 : lw_At p s m meth c b L xs) (hloop : LB l b L xs 0 23 0 [] hC0 hM0) : W p l e room_1 s m #[Value.ref b] below meth c s.heap [] 0 0 (lw_Z below #[Value.ref b] s) (entryFrame m ([Value.ref b] : List Value).toArray 7) := by
  obtain ⟨hx, hb, hr, hml, hown, hts, hX, hbl, hlocks, hgv⟩ := id C0
  have htd := lw_ts C0
  obtain ⟨ext, hext⟩ := dE_start hts hgv
  have hao : va_AOA .int s := (hext ((fun _ => 0, fun _ _ => 0), fun _ => 0, ext) (fun k _ => rfl)).2.2.2.2.2
  obtain ⟨D, cA, hK⟩ := dK_start hts hao
  have hA : ∀ q : Nat, s.heap.size ≤ q → (fun q : Nat => s.heap.size ≤ q) q := fun _ h => h
  have hP0 : va_P D vwCl [] s.heap := fun k q h => by simp at h
  have hD0 : va_D (fun q : Nat => s.heap.size ≤ q) [] := ⟨fun i j p q h => by simp at h, fun k q h => by simp at h⟩
  have hl := lv_entry ([.ref b]) (n := 7) (Nat.le_of_ble_eq_true rfl)
  rw [lg_entry_eq]
  generalize (lg_sl ([.ref b]) ++ List.replicate (7 - (lg_sl ([.ref b])).length) Slot.unset).toArray = ls at hl ⊢
  have hl : lv_has ls 7 [(0, .ref b)] := hl
  have hfs : ∀ j, j < 17 → defaultValue (dTy 11 j) = vp_V ((List.range (dN 11)).map (dFv (dXP XC grC 1 []) (D, cA, fun k => if k = 0 then 0 else ext k) (dH0 1) 0 11)) j := by
    intro j hj
    rcases (show j = 0 ∨ j = 1 ∨ j = 2 ∨ j = 3 ∨ j = 4 ∨ j = 5 ∨ j = 6 ∨ j = 7 ∨ j = 8 ∨ j = 9 ∨ j = 10 ∨ j = 11 ∨ j = 12 ∨ j = 13 ∨ j = 14 ∨ j = 15 ∨ j = 16 by omega) with rfl | rfl | rfl | rfl | rfl | rfl | rfl | rfl | rfl | rfl | rfl | rfl | rfl | rfl | rfl | rfl | rfl <;> rfl
  refine va_new (D := D) (ci := 11) (fs := (List.range (dN 11)).map (dFv (dXP XC grC 1 []) (D, cA, fun k => if k = 0 then 0 else ext k) (dH0 1) 0 11)) (C := RX11) (T := TX11) (N := 17) hx hb htd (dCl_all 11 _ rfl).1 (dTy 11) (dCl_all 11 _ rfl).2.1 hown (htd _ sn_8.1) (htd _ sn_8.2.1) (htd _ sn_8.2.2) (hK ext) hP0 hD0 va_S.rf hA rfl hfs (Nat.le_of_ble_eq_true rfl) (Nat.le_of_ble_eq_true rfl) dL_law_0 (fun q0 H1 P1 D1 Q1 => ?_)
  have eW : dW (dXP XC grC 1 []) (D, cA, fun k => if k = 0 then q0 else ext k) (dH0 1) = [] ++ [(q0, Sum.inr (11, (List.range (dN 11)).map (dFv (dXP XC grC 1 []) (D, cA, fun k => if k = 0 then 0 else ext k) (dH0 1) 0 11)))] := rfl
  rw [← eW] at P1 D1
  obtain ⟨iI, iA⟩ := dInj_of D1
  have SC : dSt (dXP XC grC 1 []) (D, cA, fun k => if k = 0 then q0 else ext k) (fun q : Nat => s.heap.size ≤ q) s (dH0 1) H1 [] := ⟨hK _, P1, iI, iA, Q1, hext _ (fun k hk => if_neg (by omega)), hA, by decide, dEx_0 1⟩
  refine lv_dup hx hb dL_law_3 rfl ?_
  obtain ⟨l1, ⟨m1, m2, m3, m4⟩, hi⟩ := si_15
  have hpre := dPreA (as := [.ref 0]) SC
  have hrun := va_runI (e := e) (As := []) (rest := [.ref q0]) (b := q0) (g := F0 m 4 ls [.ref q0, .ref q0]) (R := room_1) (cells := 0 + 1) (slots := 0 + 17) (locs := []) (below := below) (meth := meth) ⟨hx, hb, hml, hown, htd⟩ (i_C2 l (D, cA, fun k => if k = 0 then q0 else ext k) H1.size)
    (⟨callB_of 0 htd (dGood _ _ _ _ m1) rfl rfl rfl (htd _ m2) (htd _ l1) m3 (lRoomA (by decide) m4), rfl, htd _ hi⟩ : CallB room_1 s #[Value.ref b] R_law 15 yX11_init cX11_init 1 none _ _ _ _ 0 ∧ _)
    hpre rfl rfl hl.1 rfl (by show 2 * 0 + 1 ≤ 8; omega) dL_law_4 ⟨Nat.le_of_ble_eq_true rfl, Nat.le_of_ble_eq_true rfl⟩
  intro U hU XX
  obtain ⟨v, st₀, t, U', LL, h0, X', hL, e1, e2, ⟨hv, ⟨GC, hxt, hPC, hIC, hAC⟩, ⟨hz, hk⟩, hex⟩, stp⟩ := hrun U hU XX
  cases hv
  rw [h0] at hz hk
  have hA2 : ∀ q, dA (dXP XC grC 1 []) (D, cA, fun k => if k = 0 then q0 else ext k) H1.size q → s.heap.size ≤ q := by
    rintro q (⟨k, hk, rfl⟩ | hq)
    · exact iA k hk
    · exact Nat.le_trans Q1.1 hq
  have hSS : va_S (fun q : Nat => s.heap.size ≤ q) s.heap U'.heap ([] ++ LL) := ⟨Nat.le_trans Q1.1 (by rw [e1]; exact hz), fun q g1 g2 => by rw [e1, hk q (Nat.lt_of_lt_of_le g1 Q1.1) (fun w => g2 (hA2 q w))]; exact Q1.2.1 q g1 g2, fun q hq => by
      rcases List.mem_append.mp hq with w | w
      · cases w
      · exact hA2 _ (hL q w)⟩
  have hC0' : GC.2.2 0 = q0 := hxt.2.2 0 (Or.inl (show 0 < 1 by decide))
  have fin : W p l e room_1 s m #[Value.ref b] below meth c U'.heap ([] ++ LL) (0 + 1 + 85) (0 + 17 + 3845) (lw_Z below #[Value.ref b] s) (F0 m 7 ls [.ref q0]) := by
    refine lv_astore_n (lv' := [(1, .ref q0), (0, .ref b)]) hx hb dL_law_7 rfl hl (by decide) rfl (fun ls hl => ?_)
    refine law_s2 C0 hloop GC U'.heap ([] ++ LL) ls ⟨?_, by rw [e1]; exact hPC, hIC, fun k hk => hA2 _ (hAC k hk), hSS, hext _ (fun k hk => (hxt.2.2 k (Or.inr hk)).trans (if_neg (by omega))), hA, by decide, hex⟩ (by rw [hC0']; exact hl) (by decide) (by decide)
    have z1 := hxt.1
    have z2 := hxt.2.1
    unfold dTys
    rw [z1, z2]
    exact hK ext
  obtain ⟨t2, a1, b1⟩ := fin U' rfl X'
  exact ⟨t2, stp t2 a1, b1⟩
/-- the law, out of the step relation -/
theorem whole_open (hL : L ≤ 3072) (C0 : lw_At p s m meth c b L xs) (Rel : Nat → dH → dH → Prop) (hS : steps_ok Rel) (h0 : Rel 0 hC0 hM0) (hspot : lc_spotP l b L xs) : W p l e room_1 s m #[Value.ref b] below meth c s.heap [] 0 0 (lw_Z below #[Value.ref b] s) (entryFrame m ([Value.ref b] : List Value).toArray 7) :=
  law_start C0 (law_loop Rel hS hL hspot (L + 1) 0 hC0 hM0 (by omega) (by omega) h0)
end LS
