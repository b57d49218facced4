/-! the call of spot: words of its throw -/
theorem traces0 {l : Launch} (hflags : l.flags = flags0) : l.stackTraces = false := by
  unfold Launch.stackTraces
  rw [hflags]
  decide
def tE : String := "java/util/NoSuchElementException"
def tNs : List String := ["java/lang/RuntimeException", "java/lang/Exception"]
theorem mT1 {w : Cond} (i : Nat) (h : tables_1_1[i]? = some w) : w ∈ lw_tbl := List.mem_append_right _ (show w ∈ tables_1_1 ++ (tables_1_2 ++ (tables_1_3 ++ (tables_1_4 ++ (tables_1_5 ++ (tables_1_6 ++ (tables_1_7 ++ tables_1_8)))))) from List.mem_append_left _ (List.mem_of_getElem? h))
theorem mT5s {w : Cond} (h : w ∈ tables_1_5) : w ∈ lw_tbl := List.mem_append_right _ (show w ∈ tables_1_1 ++ (tables_1_2 ++ (tables_1_3 ++ (tables_1_4 ++ (tables_1_5 ++ (tables_1_6 ++ (tables_1_7 ++ tables_1_8)))))) from List.mem_append_right _ (List.mem_append_right _ (List.mem_append_right _ (List.mem_append_right _ (List.mem_append_left _ h)))))
theorem mT5 {w : Cond} (i : Nat) (h : tables_1_5[i]? = some w) : w ∈ lw_tbl := mT5s (List.mem_of_getElem? h)
def tBad : List Cond := [.declares (Bundle.init0 "java/lang/RuntimeException"), .declares (Bundle.init0 "java/lang/Exception"), .declares (Bundle.init0 "java/lang/Throwable"), .castable tE tE]
theorem tBad_in : ∀ w ∈ tBad, w ∈ lw_tbl := by
  intro w hw
  rcases List.mem_cons.mp hw with rfl | hw
  · exact mT5 172 rfl
  rcases List.mem_cons.mp hw with rfl | hw
  · exact mT5 174 rfl
  rcases List.mem_cons.mp hw with rfl | hw
  · exact mT5 176 rfl
  rcases List.mem_cons.mp hw with rfl | hw
  · exact mT5 171 rfl
  · cases hw
theorem tBad_on : ∀ w ∈ tBad, w.onTables = true := by
  intro w hw
  rcases List.mem_cons.mp hw with rfl | hw
  · rfl
  rcases List.mem_cons.mp hw with rfl | hw
  · rfl
  rcases List.mem_cons.mp hw with rfl | hw
  · rfl
  rcases List.mem_cons.mp hw with rfl | hw
  · rfl
  · cases hw
theorem tw_good : ∀ w ∈ Cond.classLink RX11 168 tE :: Cond.initialized tE :: vx_at0 RX11 170 tE tNs, vx_ot w = true := by decide +kernel
theorem tw_in : ∀ w ∈ (vx_at0 RX11 170 tE tNs).filter goodWord, w ∈ lw_tbl := by decide +kernel
theorem tw_bad : ∀ w ∈ (vx_at0 RX11 170 tE tNs).filter (fun w => !goodWord w), w ∈ tBad := by decide +kernel
theorem tw_cl : Cond.classLink RX11 168 tE ∈ dWs := dmT5 169 rfl rfl
theorem tw_ini : Cond.initialized tE ∈ dWs := dmT1 23 rfl rfl
theorem tw_13 : Cond.classLink RL 13 tE ∈ dWs := dmT5 164 rfl rfl
theorem tw_cw : Cond.codeWith yL_spot cL_spot 5 (some .int) [(0, 10, 13, 13)] ∈ dWs := dmT5 163 rfl rfl
theorem tw_42 : Cond.methodLink R_law 42 yL_spot ∈ dWs := dmT5 161 rfl rfl
theorem tw_st : Cond.static yL_spot ∈ dWs := dmT5 162 rfl rfl
theorem tw_law : Cond.initialized R_law ∈ dWs := dmT1 0 rfl rfl
theorem lcl_7 : dCV RL 7 yX11_spot cX11_spot 3 (some .int) 2 11 := ⟨dmT5 165 rfl rfl, ⟨dmT5 168 rfl rfl, dmT1 1 rfl rfl, ⟨by decide, by decide, by decide +kernel⟩, by decide⟩, ⟨dmT5 166 rfl rfl, dmT5 167 rfl rfl⟩, _, rfl, rfl⟩
theorem lcl_47 : dCV R_law 47 yX12_spot cX12_spot 3 (some .int) 2 12 := ⟨dmT7 91 rfl rfl, ⟨dmT7 94 rfl rfl, dmT1 13 rfl rfl, ⟨by decide, by decide, by decide +kernel⟩, by decide⟩, ⟨dmT7 92 rfl rfl, dmT7 93 rfl rfl⟩, _, rfl, rfl⟩
theorem lcl_48 : dCV R_law 48 yX12_thrown cX12_thrown 1 (some .int) 0 12 := ⟨dmT6 166 rfl rfl, ⟨dmT6 169 rfl rfl, dmT1 13 rfl rfl, ⟨by decide, by decide, by decide +kernel⟩, by decide⟩, ⟨dmT6 167 rfl rfl, dmT6 168 rfl rfl⟩, _, rfl, rfl⟩
def dNz (U : State) : Prop := ∀ w ∈ tBad, va_Nw w U
theorem dNz.warm {s U : State} (hW : s.WarmedH U.vm) (h : dNz s) : dNz U := by
  intro w hw
  have h0 := h w hw
  rcases List.mem_cons.mp hw with rfl | hw
  · exact va_Nw.warmD hW h0
  rcases List.mem_cons.mp hw with rfl | hw
  · exact va_Nw.warmD hW h0
  rcases List.mem_cons.mp hw with rfl | hw
  · exact va_Nw.warmD hW h0
  rcases List.mem_cons.mp hw with rfl | hw
  · exact va_Nw.warmC hW h0
  · cases hw
def dZq (A : Nat → Prop) (U : State) (H : Heap) : Prop := (vx_Zq Bundle.tN "UNASSIGNED_STACK" Bundle.steD A U H ∧ vx_Zq Bundle.tN "SUPPRESSED_SENTINEL" Bundle.listD A U H) ∧ dNz U
theorem dZq.step {A A2 : Nat → Prop} {s U : State} {H : Heap} {locs : List Loc} (h : dZq A s s.heap) (hS : va_S A s.heap H locs) (hW : s.WarmedH U.vm) (hAB : ∀ q, A2 q → A q) : dZq A2 U H :=
  ⟨⟨((h.1.1.moved hW.alike).kept hS.2.1).narrow hAB, ((h.1.2.moved hW.alike).kept hS.2.1).narrow hAB⟩, h.2.warm hW⟩
theorem dZq.same {A : Nat → Prop} {u U : State} {H : Heap} (hv : U.vm = u.vm) (h : dZq A u H) : dZq A U H := by
  have hal : u.vm.Alike U.vm := by rw [hv]; exact Vm.Alike.refl _
  exact ⟨⟨h.1.1.moved hal, h.1.2.moved hal⟩, fun w hw => va_Nw.same (tBad_on w hw) hv.symm (h.2 w hw)⟩
theorem dZq_0 {p : Program} {s : State} {m : MethodId} {meth : Method} {c : Code} {b L : Nat} {xs : Nat → Int32} (C0 : lw_At p s m meth c b L xs) : dZq (fun q : Nat => s.heap.size ≤ q) s s.heap := by
  obtain ⟨hx, hb, hr, hml, hown, hts, hX, hbl, hlocks, hgv⟩ := id C0
  have hs := flat_of_before _ hgv
  refine ⟨⟨vx_Zqof (hts _ (mT5 196 rfl)) (hts _ (mT1 20 rfl)) (hs _ (by decide +kernel)) (fun a h => Nat.not_le.mpr h), vx_Zqof (hts _ (mT5 198 rfl)) (hts _ (mT1 20 rfl)) (hs _ (by decide +kernel)) (fun a h => Nat.not_le.mpr h)⟩, fun w hw => va_Nw.of (tBad_on w hw) (hts w (tBad_in w hw))⟩
