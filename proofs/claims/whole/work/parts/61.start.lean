/-! the law's start: what the Statement gives, and the three makings -/
theorem arrI_spec {args : Array Value} {s : State} (h : (Cond.arrayOver (.array .int)).before args s = true) : ∃ (c : ClassId) (k : Class) (comp : ClassId), s.vm.findClass ("[" ++ (FieldType.array .int).toString) = some c ∧ s.vm.classes[c]? = some k ∧ k.kind = .array comp (.array .int) := by
  simp only [Cond.before, Cond.holds, Cond.value, beq_iff_eq, Option.bind_eq_some_iff, Option.map_eq_some_iff] at h
  obtain ⟨comp, hc, c, hi, k, hk, hb⟩ := h
  obtain ⟨hlt, hp, -⟩ := Array.findIdx?_eq_some_iff_getElem.mp hi
  have hkk : s.vm.classes[c] = k := (Array.getElem?_eq_some_iff.mp hk).2
  rw [hkk] at hp
  cases hkind : k.kind with
  | array component ty =>
    rw [hkind] at hb hp
    simp at hb hp
    exact ⟨c, k, comp, hb.2, hk, by rw [hkind, hp, hb.1]⟩
  | _ => rw [hkind] at hb; simp at hb
theorem str_of {args : Array Value} {s : State} {own tx : String} {k : Nat} {bs : List Int32} {A : Nat → Prop} (hN : bs.length < 2 ^ 31) (hr : (Cond.stringRef own k tx).before args s = true) (h1 : (Cond.exactly (.string own k) "java/lang/String").before args s = true) (h2 : (Cond.eq (.field (.string own k) "java/lang/String" "coder" "B") (.int 0)).before args s = true)
    (h3 : (Cond.arrayOf (.field (.string own k) "java/lang/String" "value" "[B") .byte).before args s = true) (h4 : (Cond.eq (.length (.field (.string own k) "java/lang/String" "value" "[B")) (.int (Int32.ofNat bs.length))).before args s = true)
    (h5 : ∀ j : Nat, j < bs.length → (Cond.eq (.elem (.field (.string own k) "java/lang/String" "value" "[B") (.int (Int32.ofNat j))) (.int (bs.getD j 0))).before args s = true) (hA : ∀ a : Nat, a < s.heap.size → ¬ A a) :
    ∃ a v : Nat, vk_R own k tx a s ∧ va_O "java/lang/String" a A s s.heap ∧ va_OF "java/lang/String" "coder" "B" (.int 0) a A s s.heap ∧ va_OF "java/lang/String" "value" "[B" (.ref v) a A s s.heap ∧ va_T .byte v bs.length (fun i => .int (bs.getD i 0)) A s s.heap := by
  obtain ⟨adK, adV, hS, hev⟩ := vk_Sof (args := args) (s := s) (N := 1) (tm := fun _ => .string own k) (len := [bs.length]) (byt := [bs]) (A := A) (fun i hi => by rw [show i = 0 by omega]; exact hN) (fun i hi => h1) (fun i hi => h2) (fun i hi => h3) (fun i hi => by rw [show i = 0 by omega]; exact h4) (fun i hi j hj => by
      have e : i = 0 := by omega
      subst e
      exact h5 j hj) (fun i j hi hj hij => absurd (by omega) hij) hA
  obtain ⟨g1, g2, g3, g4⟩ := hS.1 0 (by omega)
  have he := hev 0 (by omega)
  exact ⟨adK 0, adV 0, vk_R.of hr he, g1, g2, g3, g4⟩
theorem stat_of {args : Array Value} {s : State} {C n : String} {bs : List Int32} {A : Nat → Prop} (hN : bs.length < 2 ^ 31) (hl : (Cond.laysStatic C n "[I").before args s = true) (hini : (Cond.initialized C).before args s = true) (h1 : (Cond.arrayOf (.static C n "[I") .int).before args s = true) (h2 : (Cond.eq (.length (.static C n "[I")) (.int (Int32.ofNat bs.length))).before args s = true)
    (h3 : ∀ j : Nat, j < bs.length → (Cond.eq (.elem (.static C n "[I") (.int (Int32.ofNat j))) (.int (bs.getD j 0))).before args s = true) (hA : ∀ a : Nat, a < s.heap.size → ¬ A a) :
    ∃ t : Nat, va_Z C n "[I" (.ref t) A s s.heap ∧ va_T .int t bs.length (fun i => .int (bs.getD i 0)) A s s.heap := by
  obtain ⟨t, ht, hT⟩ := va_Tof (f := fun j => .int (bs.getD j 0)) (A := A) hN h1 (va_eqt h2) (fun j hj => va_eqt (h3 j hj)) hA
  exact ⟨t, va_Zof hl hini ht hA, hT⟩
set_option maxRecDepth 20000 in
theorem zz_0 {b : Nat} {s : State} (hts : ∀ w ∈ lw_tbl, w.before #[Value.ref b] s = true) (hgv : (Jvm.Cond.and given_1 narrow_1).before #[Value.ref b] s = true) : ∃ t : Nat, va_Z "FreeAlderman$CityText" "RULE_LOW" "[I" (.ref t) (fun q : Nat => s.heap.size ≤ q) s s.heap ∧ va_T .int t ([1, 1, 0] : List Int32).length (fun i => .int (([1, 1, 0] : List Int32).getD i 0)) (fun q : Nat => s.heap.size ≤ q) s s.heap := by
  have hs := flat_of_before _ hgv
  exact stat_of (by decide) (hts _ (List.mem_append_right _ (show _ ∈ tables_1_1 ++ (tables_1_2 ++ (tables_1_3 ++ (tables_1_4 ++ (tables_1_5 ++ (tables_1_6 ++ (tables_1_7 ++ tables_1_8)))))) from List.mem_append_right _ (List.mem_append_left _ (List.mem_of_getElem? (i := 155) rfl))))) (hts _ (List.mem_append_right _ (show _ ∈ tables_1_1 ++ (tables_1_2 ++ (tables_1_3 ++ (tables_1_4 ++ (tables_1_5 ++ (tables_1_6 ++ (tables_1_7 ++ tables_1_8)))))) from List.mem_append_left _ (List.mem_of_getElem? (i := 4) rfl)))) (hs _ (by decide +kernel)) (hs _ (by decide +kernel)) (fun j hj => by
    rcases (show j = 0 ∨ j = 1 ∨ j = 2 by simp at hj; omega) with rfl | rfl | rfl <;> exact hs _ (by decide +kernel)) (fun a h => Nat.not_le.mpr h)
set_option maxRecDepth 20000 in
theorem zz_1 {b : Nat} {s : State} (hts : ∀ w ∈ lw_tbl, w.before #[Value.ref b] s = true) (hgv : (Jvm.Cond.and given_1 narrow_1).before #[Value.ref b] s = true) : ∃ t : Nat, va_Z "FreeAlderman$CityText" "RULE_HIGH" "[I" (.ref t) (fun q : Nat => s.heap.size ≤ q) s s.heap ∧ va_T .int t ([60, 60, 9] : List Int32).length (fun i => .int (([60, 60, 9] : List Int32).getD i 0)) (fun q : Nat => s.heap.size ≤ q) s s.heap := by
  have hs := flat_of_before _ hgv
  exact stat_of (by decide) (hts _ (List.mem_append_right _ (show _ ∈ tables_1_1 ++ (tables_1_2 ++ (tables_1_3 ++ (tables_1_4 ++ (tables_1_5 ++ (tables_1_6 ++ (tables_1_7 ++ tables_1_8)))))) from List.mem_append_right _ (List.mem_append_left _ (List.mem_of_getElem? (i := 157) rfl))))) (hts _ (List.mem_append_right _ (show _ ∈ tables_1_1 ++ (tables_1_2 ++ (tables_1_3 ++ (tables_1_4 ++ (tables_1_5 ++ (tables_1_6 ++ (tables_1_7 ++ tables_1_8)))))) from List.mem_append_left _ (List.mem_of_getElem? (i := 4) rfl)))) (hs _ (by decide +kernel)) (hs _ (by decide +kernel)) (fun j hj => by
    rcases (show j = 0 ∨ j = 1 ∨ j = 2 by simp at hj; omega) with rfl | rfl | rfl <;> exact hs _ (by decide +kernel)) (fun a h => Nat.not_le.mpr h)
set_option maxRecDepth 20000 in
theorem zz_2 {b : Nat} {s : State} (hts : ∀ w ∈ lw_tbl, w.before #[Value.ref b] s = true) (hgv : (Jvm.Cond.and given_1 narrow_1).before #[Value.ref b] s = true) : ∃ t : Nat, va_Z "FreeAlderman$CityText" "RULE_WITHOUT" "[I" (.ref t) (fun q : Nat => s.heap.size ≤ q) s s.heap ∧ va_T .int t ([30, 40, 2] : List Int32).length (fun i => .int (([30, 40, 2] : List Int32).getD i 0)) (fun q : Nat => s.heap.size ≤ q) s s.heap := by
  have hs := flat_of_before _ hgv
  exact stat_of (by decide) (hts _ (List.mem_append_right _ (show _ ∈ tables_1_1 ++ (tables_1_2 ++ (tables_1_3 ++ (tables_1_4 ++ (tables_1_5 ++ (tables_1_6 ++ (tables_1_7 ++ tables_1_8)))))) from List.mem_append_right _ (List.mem_append_left _ (List.mem_of_getElem? (i := 141) rfl))))) (hts _ (List.mem_append_right _ (show _ ∈ tables_1_1 ++ (tables_1_2 ++ (tables_1_3 ++ (tables_1_4 ++ (tables_1_5 ++ (tables_1_6 ++ (tables_1_7 ++ tables_1_8)))))) from List.mem_append_left _ (List.mem_of_getElem? (i := 4) rfl)))) (hs _ (by decide +kernel)) (hs _ (by decide +kernel)) (fun j hj => by
    rcases (show j = 0 ∨ j = 1 ∨ j = 2 by simp at hj; omega) with rfl | rfl | rfl <;> exact hs _ (by decide +kernel)) (fun a h => Nat.not_le.mpr h)
set_option maxRecDepth 20000 in
theorem zz_3 {b : Nat} {s : State} (hts : ∀ w ∈ lw_tbl, w.before #[Value.ref b] s = true) (hgv : (Jvm.Cond.and given_1 narrow_1).before #[Value.ref b] s = true) : ∃ t : Nat, va_Z "FreeAlderman$CityText" "SPOT_LOW" "[I" (.ref t) (fun q : Nat => s.heap.size ≤ q) s s.heap ∧ va_T .int t ([0, 0, 0, 0, 0] : List Int32).length (fun i => .int (([0, 0, 0, 0, 0] : List Int32).getD i 0)) (fun q : Nat => s.heap.size ≤ q) s s.heap := by
  have hs := flat_of_before _ hgv
  exact stat_of (by decide) (hts _ (List.mem_append_right _ (show _ ∈ tables_1_1 ++ (tables_1_2 ++ (tables_1_3 ++ (tables_1_4 ++ (tables_1_5 ++ (tables_1_6 ++ (tables_1_7 ++ tables_1_8)))))) from List.mem_append_right _ (List.mem_append_left _ (List.mem_of_getElem? (i := 229) rfl))))) (hts _ (List.mem_append_right _ (show _ ∈ tables_1_1 ++ (tables_1_2 ++ (tables_1_3 ++ (tables_1_4 ++ (tables_1_5 ++ (tables_1_6 ++ (tables_1_7 ++ tables_1_8)))))) from List.mem_append_left _ (List.mem_of_getElem? (i := 4) rfl)))) (hs _ (by decide +kernel)) (hs _ (by decide +kernel)) (fun j hj => by
    rcases (show j = 0 ∨ j = 1 ∨ j = 2 ∨ j = 3 ∨ j = 4 by simp at hj; omega) with rfl | rfl | rfl | rfl | rfl <;> exact hs _ (by decide +kernel)) (fun a h => Nat.not_le.mpr h)
set_option maxRecDepth 20000 in
theorem zz_4 {b : Nat} {s : State} (hts : ∀ w ∈ lw_tbl, w.before #[Value.ref b] s = true) (hgv : (Jvm.Cond.and given_1 narrow_1).before #[Value.ref b] s = true) : ∃ t : Nat, va_Z "FreeAlderman$CityText" "SPOT_HIGH" "[I" (.ref t) (fun q : Nat => s.heap.size ≤ q) s s.heap ∧ va_T .int t ([9, 9, 3, 9, 30] : List Int32).length (fun i => .int (([9, 9, 3, 9, 30] : List Int32).getD i 0)) (fun q : Nat => s.heap.size ≤ q) s s.heap := by
  have hs := flat_of_before _ hgv
  exact stat_of (by decide) (hts _ (List.mem_append_right _ (show _ ∈ tables_1_1 ++ (tables_1_2 ++ (tables_1_3 ++ (tables_1_4 ++ (tables_1_5 ++ (tables_1_6 ++ (tables_1_7 ++ tables_1_8)))))) from List.mem_append_right _ (List.mem_append_left _ (List.mem_of_getElem? (i := 231) rfl))))) (hts _ (List.mem_append_right _ (show _ ∈ tables_1_1 ++ (tables_1_2 ++ (tables_1_3 ++ (tables_1_4 ++ (tables_1_5 ++ (tables_1_6 ++ (tables_1_7 ++ tables_1_8)))))) from List.mem_append_left _ (List.mem_of_getElem? (i := 4) rfl)))) (hs _ (by decide +kernel)) (hs _ (by decide +kernel)) (fun j hj => by
    rcases (show j = 0 ∨ j = 1 ∨ j = 2 ∨ j = 3 ∨ j = 4 by simp at hj; omega) with rfl | rfl | rfl | rfl | rfl <;> exact hs _ (by decide +kernel)) (fun a h => Nat.not_le.mpr h)
set_option maxRecDepth 20000 in
theorem zz_5 {b : Nat} {s : State} (hts : ∀ w ∈ lw_tbl, w.before #[Value.ref b] s = true) (hgv : (Jvm.Cond.and given_1 narrow_1).before #[Value.ref b] s = true) : ∃ t : Nat, va_Z "FreeAlderman$CityText" "SPOT_WITHOUT" "[I" (.ref t) (fun q : Nat => s.heap.size ≤ q) s s.heap ∧ va_T .int t ([0, 0, 0, 3, 6] : List Int32).length (fun i => .int (([0, 0, 0, 3, 6] : List Int32).getD i 0)) (fun q : Nat => s.heap.size ≤ q) s s.heap := by
  have hs := flat_of_before _ hgv
  exact stat_of (by decide) (hts _ (List.mem_append_right _ (show _ ∈ tables_1_1 ++ (tables_1_2 ++ (tables_1_3 ++ (tables_1_4 ++ (tables_1_5 ++ (tables_1_6 ++ (tables_1_7 ++ tables_1_8)))))) from List.mem_append_right _ (List.mem_append_left _ (List.mem_of_getElem? (i := 226) rfl))))) (hts _ (List.mem_append_right _ (show _ ∈ tables_1_1 ++ (tables_1_2 ++ (tables_1_3 ++ (tables_1_4 ++ (tables_1_5 ++ (tables_1_6 ++ (tables_1_7 ++ tables_1_8)))))) from List.mem_append_left _ (List.mem_of_getElem? (i := 4) rfl)))) (hs _ (by decide +kernel)) (hs _ (by decide +kernel)) (fun j hj => by
    rcases (show j = 0 ∨ j = 1 ∨ j = 2 ∨ j = 3 ∨ j = 4 by simp at hj; omega) with rfl | rfl | rfl | rfl | rfl <;> exact hs _ (by decide +kernel)) (fun a h => Nat.not_le.mpr h)
set_option maxRecDepth 20000 in
theorem kk_0 {b : Nat} {s : State} (hts : ∀ w ∈ lw_tbl, w.before #[Value.ref b] s = true) (hgv : (Jvm.Cond.and given_1 narrow_1).before #[Value.ref b] s = true) : ∃ a v : Nat, vk_R "FreeAlderman$CityText" 68 "bhc" a s ∧ va_O "java/lang/String" a (fun q : Nat => s.heap.size ≤ q) s s.heap ∧ va_OF "java/lang/String" "coder" "B" (.int 0) a (fun q : Nat => s.heap.size ≤ q) s s.heap ∧ va_OF "java/lang/String" "value" "[B" (.ref v) a (fun q : Nat => s.heap.size ≤ q) s s.heap ∧ va_T .byte v ([98, 104, 99] : List Int32).length (fun i => .int (([98, 104, 99] : List Int32).getD i 0)) (fun q : Nat => s.heap.size ≤ q) s s.heap := by
  have hs := flat_of_before _ hgv
  exact str_of (by decide) (hts _ (List.mem_append_right _ (show _ ∈ tables_1_1 ++ (tables_1_2 ++ (tables_1_3 ++ (tables_1_4 ++ (tables_1_5 ++ (tables_1_6 ++ (tables_1_7 ++ tables_1_8)))))) from List.mem_append_right _ (List.mem_append_left _ (List.mem_of_getElem? (i := 153) rfl))))) (hs _ (by decide +kernel)) (hs _ (by decide +kernel)) (hs _ (by decide +kernel)) (hs _ (by decide +kernel)) (fun j hj => by
    rcases (show j = 0 ∨ j = 1 ∨ j = 2 by simp at hj; omega) with rfl | rfl | rfl <;> exact hs _ (by decide +kernel)) (fun a h => Nat.not_le.mpr h)
set_option maxRecDepth 20000 in
theorem kk_1 {b : Nat} {s : State} (hts : ∀ w ∈ lw_tbl, w.before #[Value.ref b] s = true) (hgv : (Jvm.Cond.and given_1 narrow_1).before #[Value.ref b] s = true) : ∃ a v : Nat, vk_R "FreeAlderman$CityText" 87 "xykvo" a s ∧ va_O "java/lang/String" a (fun q : Nat => s.heap.size ≤ q) s s.heap ∧ va_OF "java/lang/String" "coder" "B" (.int 0) a (fun q : Nat => s.heap.size ≤ q) s s.heap ∧ va_OF "java/lang/String" "value" "[B" (.ref v) a (fun q : Nat => s.heap.size ≤ q) s s.heap ∧ va_T .byte v ([120, 121, 107, 118, 111] : List Int32).length (fun i => .int (([120, 121, 107, 118, 111] : List Int32).getD i 0)) (fun q : Nat => s.heap.size ≤ q) s s.heap := by
  have hs := flat_of_before _ hgv
  exact str_of (by decide) (hts _ (List.mem_append_right _ (show _ ∈ tables_1_1 ++ (tables_1_2 ++ (tables_1_3 ++ (tables_1_4 ++ (tables_1_5 ++ (tables_1_6 ++ (tables_1_7 ++ tables_1_8)))))) from List.mem_append_right _ (List.mem_append_left _ (List.mem_of_getElem? (i := 227) rfl))))) (hs _ (by decide +kernel)) (hs _ (by decide +kernel)) (hs _ (by decide +kernel)) (hs _ (by decide +kernel)) (fun j hj => by
    rcases (show j = 0 ∨ j = 1 ∨ j = 2 ∨ j = 3 ∨ j = 4 by simp at hj; omega) with rfl | rfl | rfl | rfl | rfl <;> exact hs _ (by decide +kernel)) (fun a h => Nat.not_le.mpr h)
set_option maxRecDepth 20000 in
theorem kk_2 {b : Nat} {s : State} (hts : ∀ w ∈ lw_tbl, w.before #[Value.ref b] s = true) (hgv : (Jvm.Cond.and given_1 narrow_1).before #[Value.ref b] s = true) : ∃ a v : Nat, vk_R "FreeAlderman$LawBook" 87 "kvohnt" a s ∧ va_O "java/lang/String" a (fun q : Nat => s.heap.size ≤ q) s s.heap ∧ va_OF "java/lang/String" "coder" "B" (.int 0) a (fun q : Nat => s.heap.size ≤ q) s s.heap ∧ va_OF "java/lang/String" "value" "[B" (.ref v) a (fun q : Nat => s.heap.size ≤ q) s s.heap ∧ va_T .byte v ([107, 118, 111, 104, 110, 116] : List Int32).length (fun i => .int (([107, 118, 111, 104, 110, 116] : List Int32).getD i 0)) (fun q : Nat => s.heap.size ≤ q) s s.heap := by
  have hs := flat_of_before _ hgv
  exact str_of (by decide) (hts _ (List.mem_append_right _ (show _ ∈ tables_1_1 ++ (tables_1_2 ++ (tables_1_3 ++ (tables_1_4 ++ (tables_1_5 ++ (tables_1_6 ++ (tables_1_7 ++ tables_1_8)))))) from List.mem_append_right _ (List.mem_append_right _ (List.mem_append_left _ (List.mem_of_getElem? (i := 44) rfl)))))) (hs _ (by decide +kernel)) (hs _ (by decide +kernel)) (hs _ (by decide +kernel)) (hs _ (by decide +kernel)) (fun j hj => by
    rcases (show j = 0 ∨ j = 1 ∨ j = 2 ∨ j = 3 ∨ j = 4 ∨ j = 5 by simp at hj; omega) with rfl | rfl | rfl | rfl | rfl | rfl <;> exact hs _ (by decide +kernel)) (fun a h => Nat.not_le.mpr h)
set_option maxRecDepth 20000 in
theorem kk_3 {b : Nat} {s : State} (hts : ∀ w ∈ lw_tbl, w.before #[Value.ref b] s = true) (hgv : (Jvm.Cond.and given_1 narrow_1).before #[Value.ref b] s = true) : ∃ a v : Nat, vk_R "FreeAlderman$DayBook" 55 "wrbd" a s ∧ va_O "java/lang/String" a (fun q : Nat => s.heap.size ≤ q) s s.heap ∧ va_OF "java/lang/String" "coder" "B" (.int 0) a (fun q : Nat => s.heap.size ≤ q) s s.heap ∧ va_OF "java/lang/String" "value" "[B" (.ref v) a (fun q : Nat => s.heap.size ≤ q) s s.heap ∧ va_T .byte v ([119, 114, 98, 100] : List Int32).length (fun i => .int (([119, 114, 98, 100] : List Int32).getD i 0)) (fun q : Nat => s.heap.size ≤ q) s s.heap := by
  have hs := flat_of_before _ hgv
  exact str_of (by decide) (hts _ (List.mem_append_right _ (show _ ∈ tables_1_1 ++ (tables_1_2 ++ (tables_1_3 ++ (tables_1_4 ++ (tables_1_5 ++ (tables_1_6 ++ (tables_1_7 ++ tables_1_8)))))) from List.mem_append_right _ (List.mem_append_right _ (List.mem_append_left _ (List.mem_of_getElem? (i := 78) rfl)))))) (hs _ (by decide +kernel)) (hs _ (by decide +kernel)) (hs _ (by decide +kernel)) (hs _ (by decide +kernel)) (fun j hj => by
    rcases (show j = 0 ∨ j = 1 ∨ j = 2 ∨ j = 3 by simp at hj; omega) with rfl | rfl | rfl | rfl <;> exact hs _ (by decide +kernel)) (fun a h => Nat.not_le.mpr h)
set_option maxRecDepth 20000 in
theorem kk_4 {b : Nat} {s : State} (hts : ∀ w ∈ lw_tbl, w.before #[Value.ref b] s = true) (hgv : (Jvm.Cond.and given_1 narrow_1).before #[Value.ref b] s = true) : ∃ a v : Nat, vk_R "FreeAldermanModel" 26 "y" a s ∧ va_O "java/lang/String" a (fun q : Nat => s.heap.size ≤ q) s s.heap ∧ va_OF "java/lang/String" "coder" "B" (.int 0) a (fun q : Nat => s.heap.size ≤ q) s s.heap ∧ va_OF "java/lang/String" "value" "[B" (.ref v) a (fun q : Nat => s.heap.size ≤ q) s s.heap ∧ va_T .byte v ([121] : List Int32).length (fun i => .int (([121] : List Int32).getD i 0)) (fun q : Nat => s.heap.size ≤ q) s s.heap := by
  have hs := flat_of_before _ hgv
  exact str_of (by decide) (hts _ (List.mem_append_right _ (show _ ∈ tables_1_1 ++ (tables_1_2 ++ (tables_1_3 ++ (tables_1_4 ++ (tables_1_5 ++ (tables_1_6 ++ (tables_1_7 ++ tables_1_8)))))) from List.mem_append_right _ (List.mem_append_right _ (List.mem_append_right _ (List.mem_append_right _ (List.mem_append_left _ (List.mem_of_getElem? (i := 237) rfl)))))))) (hs _ (by decide +kernel)) (hs _ (by decide +kernel)) (hs _ (by decide +kernel)) (hs _ (by decide +kernel)) (fun j hj => by
    rcases (show j = 0 by simp at hj; omega) with rfl <;> exact hs _ (by decide +kernel)) (fun a h => Nat.not_le.mpr h)
set_option maxRecDepth 20000 in
theorem kk_5 {b : Nat} {s : State} (hts : ∀ w ∈ lw_tbl, w.before #[Value.ref b] s = true) (hgv : (Jvm.Cond.and given_1 narrow_1).before #[Value.ref b] s = true) : ∃ a v : Nat, vk_R "FreeAldermanModel" 32 "kvohnt" a s ∧ va_O "java/lang/String" a (fun q : Nat => s.heap.size ≤ q) s s.heap ∧ va_OF "java/lang/String" "coder" "B" (.int 0) a (fun q : Nat => s.heap.size ≤ q) s s.heap ∧ va_OF "java/lang/String" "value" "[B" (.ref v) a (fun q : Nat => s.heap.size ≤ q) s s.heap ∧ va_T .byte v ([107, 118, 111, 104, 110, 116] : List Int32).length (fun i => .int (([107, 118, 111, 104, 110, 116] : List Int32).getD i 0)) (fun q : Nat => s.heap.size ≤ q) s s.heap := by
  have hs := flat_of_before _ hgv
  exact str_of (by decide) (hts _ (List.mem_append_right _ (show _ ∈ tables_1_1 ++ (tables_1_2 ++ (tables_1_3 ++ (tables_1_4 ++ (tables_1_5 ++ (tables_1_6 ++ (tables_1_7 ++ tables_1_8)))))) from List.mem_append_right _ (List.mem_append_right _ (List.mem_append_right _ (List.mem_append_right _ (List.mem_append_left _ (List.mem_of_getElem? (i := 238) rfl)))))))) (hs _ (by decide +kernel)) (hs _ (by decide +kernel)) (hs _ (by decide +kernel)) (hs _ (by decide +kernel)) (fun j hj => by
    rcases (show j = 0 ∨ j = 1 ∨ j = 2 ∨ j = 3 ∨ j = 4 ∨ j = 5 by simp at hj; omega) with rfl | rfl | rfl | rfl | rfl | rfl <;> exact hs _ (by decide +kernel)) (fun a h => Nat.not_le.mpr h)
set_option maxRecDepth 20000 in
theorem kk_6 {b : Nat} {s : State} (hts : ∀ w ∈ lw_tbl, w.before #[Value.ref b] s = true) (hgv : (Jvm.Cond.and given_1 narrow_1).before #[Value.ref b] s = true) : ∃ a v : Nat, vk_R "FreeAldermanModel" 255 "bhc" a s ∧ va_O "java/lang/String" a (fun q : Nat => s.heap.size ≤ q) s s.heap ∧ va_OF "java/lang/String" "coder" "B" (.int 0) a (fun q : Nat => s.heap.size ≤ q) s s.heap ∧ va_OF "java/lang/String" "value" "[B" (.ref v) a (fun q : Nat => s.heap.size ≤ q) s s.heap ∧ va_T .byte v ([98, 104, 99] : List Int32).length (fun i => .int (([98, 104, 99] : List Int32).getD i 0)) (fun q : Nat => s.heap.size ≤ q) s s.heap := by
  have hs := flat_of_before _ hgv
  exact str_of (by decide) (hts _ (List.mem_append_right _ (show _ ∈ tables_1_1 ++ (tables_1_2 ++ (tables_1_3 ++ (tables_1_4 ++ (tables_1_5 ++ (tables_1_6 ++ (tables_1_7 ++ tables_1_8)))))) from List.mem_append_right _ (List.mem_append_right _ (List.mem_append_right _ (List.mem_append_right _ (List.mem_append_right _ (List.mem_append_left _ (List.mem_of_getElem? (i := 216) rfl))))))))) (hs _ (by decide +kernel)) (hs _ (by decide +kernel)) (hs _ (by decide +kernel)) (hs _ (by decide +kernel)) (fun j hj => by
    rcases (show j = 0 ∨ j = 1 ∨ j = 2 by simp at hj; omega) with rfl | rfl | rfl <;> exact hs _ (by decide +kernel)) (fun a h => Nat.not_le.mpr h)
set_option maxRecDepth 20000 in
theorem kk_7 {b : Nat} {s : State} (hts : ∀ w ∈ lw_tbl, w.before #[Value.ref b] s = true) (hgv : (Jvm.Cond.and given_1 narrow_1).before #[Value.ref b] s = true) : ∃ a v : Nat, vk_R "FreeAldermanModel" 261 "xykvo" a s ∧ va_O "java/lang/String" a (fun q : Nat => s.heap.size ≤ q) s s.heap ∧ va_OF "java/lang/String" "coder" "B" (.int 0) a (fun q : Nat => s.heap.size ≤ q) s s.heap ∧ va_OF "java/lang/String" "value" "[B" (.ref v) a (fun q : Nat => s.heap.size ≤ q) s s.heap ∧ va_T .byte v ([120, 121, 107, 118, 111] : List Int32).length (fun i => .int (([120, 121, 107, 118, 111] : List Int32).getD i 0)) (fun q : Nat => s.heap.size ≤ q) s s.heap := by
  have hs := flat_of_before _ hgv
  exact str_of (by decide) (hts _ (List.mem_append_right _ (show _ ∈ tables_1_1 ++ (tables_1_2 ++ (tables_1_3 ++ (tables_1_4 ++ (tables_1_5 ++ (tables_1_6 ++ (tables_1_7 ++ tables_1_8)))))) from List.mem_append_right _ (List.mem_append_right _ (List.mem_append_right _ (List.mem_append_right _ (List.mem_append_right _ (List.mem_append_right _ (List.mem_append_left _ (List.mem_of_getElem? (i := 7) rfl)))))))))) (hs _ (by decide +kernel)) (hs _ (by decide +kernel)) (hs _ (by decide +kernel)) (hs _ (by decide +kernel)) (fun j hj => by
    rcases (show j = 0 ∨ j = 1 ∨ j = 2 ∨ j = 3 ∨ j = 4 by simp at hj; omega) with rfl | rfl | rfl | rfl | rfl <;> exact hs _ (by decide +kernel)) (fun a h => Nat.not_le.mpr h)
set_option maxRecDepth 20000 in
theorem kk_8 {b : Nat} {s : State} (hts : ∀ w ∈ lw_tbl, w.before #[Value.ref b] s = true) (hgv : (Jvm.Cond.and given_1 narrow_1).before #[Value.ref b] s = true) : ∃ a v : Nat, vk_R "FreeAldermanModel" 269 "wrbd" a s ∧ va_O "java/lang/String" a (fun q : Nat => s.heap.size ≤ q) s s.heap ∧ va_OF "java/lang/String" "coder" "B" (.int 0) a (fun q : Nat => s.heap.size ≤ q) s s.heap ∧ va_OF "java/lang/String" "value" "[B" (.ref v) a (fun q : Nat => s.heap.size ≤ q) s s.heap ∧ va_T .byte v ([119, 114, 98, 100] : List Int32).length (fun i => .int (([119, 114, 98, 100] : List Int32).getD i 0)) (fun q : Nat => s.heap.size ≤ q) s s.heap := by
  have hs := flat_of_before _ hgv
  exact str_of (by decide) (hts _ (List.mem_append_right _ (show _ ∈ tables_1_1 ++ (tables_1_2 ++ (tables_1_3 ++ (tables_1_4 ++ (tables_1_5 ++ (tables_1_6 ++ (tables_1_7 ++ tables_1_8)))))) from List.mem_append_right _ (List.mem_append_right _ (List.mem_append_right _ (List.mem_append_right _ (List.mem_append_right _ (List.mem_append_right _ (List.mem_append_left _ (List.mem_of_getElem? (i := 81) rfl)))))))))) (hs _ (by decide +kernel)) (hs _ (by decide +kernel)) (hs _ (by decide +kernel)) (hs _ (by decide +kernel)) (fun j hj => by
    rcases (show j = 0 ∨ j = 1 ∨ j = 2 ∨ j = 3 by simp at hj; omega) with rfl | rfl | rfl | rfl <;> exact hs _ (by decide +kernel)) (fun a h => Nat.not_le.mpr h)
set_option maxRecDepth 20000 in
theorem dE_start {b : Nat} {s : State} (hts : ∀ w ∈ lw_tbl, w.before #[Value.ref b] s = true) (hgv : (Jvm.Cond.and given_1 narrow_1).before #[Value.ref b] s = true) : ∃ ext : Nat → Nat, ∀ G : dG, (∀ k, 1000 ≤ k → G.2.2 k = ext k) → dE G (fun q : Nat => s.heap.size ≤ q) s s.heap := by
  have hs := flat_of_before _ hgv
  obtain ⟨t0, z0⟩ := zz_0 hts hgv
  obtain ⟨t1, z1⟩ := zz_1 hts hgv
  obtain ⟨t2, z2⟩ := zz_2 hts hgv
  obtain ⟨t3, z3⟩ := zz_3 hts hgv
  obtain ⟨t4, z4⟩ := zz_4 hts hgv
  obtain ⟨t5, z5⟩ := zz_5 hts hgv
  obtain ⟨a0, v0, w0⟩ := kk_0 hts hgv
  obtain ⟨a1, v1, w1⟩ := kk_1 hts hgv
  obtain ⟨a2, v2, w2⟩ := kk_2 hts hgv
  obtain ⟨a3, v3, w3⟩ := kk_3 hts hgv
  obtain ⟨a4, v4, w4⟩ := kk_4 hts hgv
  obtain ⟨a5, v5, w5⟩ := kk_5 hts hgv
  obtain ⟨a6, v6, w6⟩ := kk_6 hts hgv
  obtain ⟨a7, v7, w7⟩ := kk_7 hts hgv
  obtain ⟨a8, v8, w8⟩ := kk_8 hts hgv
  have hq := va_Zqof (C := "jdk/internal/util/Preconditions") (n := "SIOOBE_FORMATTER") (d := "Ljava/util/function/BiFunction;") (A := fun q : Nat => s.heap.size ≤ q) (hts _ (List.mem_append_right _ (show _ ∈ tables_1_1 ++ (tables_1_2 ++ (tables_1_3 ++ (tables_1_4 ++ (tables_1_5 ++ (tables_1_6 ++ (tables_1_7 ++ tables_1_8)))))) from List.mem_append_right _ (List.mem_append_left _ (List.mem_of_getElem? (i := 191) rfl))))) (hts _ (List.mem_append_right _ (show _ ∈ tables_1_1 ++ (tables_1_2 ++ (tables_1_3 ++ (tables_1_4 ++ (tables_1_5 ++ (tables_1_6 ++ (tables_1_7 ++ tables_1_8)))))) from List.mem_append_left _ (List.mem_of_getElem? (i := 17) rfl)))) (hs _ (by decide +kernel)) (fun a h => Nat.not_le.mpr h)
  obtain ⟨f, hf⟩ : ∃ f : Nat, va_Z "jdk/internal/util/Preconditions" "SIOOBE_FORMATTER" "Ljava/util/function/BiFunction;" .null (fun q : Nat => s.heap.size ≤ q) s s.heap ∨ va_Z "jdk/internal/util/Preconditions" "SIOOBE_FORMATTER" "Ljava/util/function/BiFunction;" (.ref f) (fun q : Nat => s.heap.size ≤ q) s s.heap := by
    rcases hq with q | ⟨t, q⟩
    · exact ⟨0, Or.inl q⟩
    · exact ⟨t, Or.inr q⟩
  refine ⟨fun k => if k = 4000 then f else if k < 2000 then [t0, t1, t2, t3, t4, t5].getD (k - 1000) 0 else if k < 3000 then [a0, a1, a2, a3, a4, a5, a6, a7, a8].getD (k - 2000) 0 else [v0, v1, v2, v3, v4, v5, v6, v7, v8].getD (k - 3000) 0, fun G hG => ⟨fun j q hq => ?_, fun j q hq => ?_, ?_, ?_, ?_, ?_⟩⟩
  · rw [hG (1000 + j) (by omega)]
    have hj : j < 6 := (List.getElem?_eq_some_iff.mp hq).1
    rcases (show j = 0 ∨ j = 1 ∨ j = 2 ∨ j = 3 ∨ j = 4 ∨ j = 5 by omega) with rfl | rfl | rfl | rfl | rfl | rfl <;> cases hq
    · exact z0
    · exact z1
    · exact z2
    · exact z3
    · exact z4
    · exact z5
  · rw [hG (2000 + j) (by omega), hG (3000 + j) (by omega)]
    have hj : j < 9 := (List.getElem?_eq_some_iff.mp hq).1
    rcases (show j = 0 ∨ j = 1 ∨ j = 2 ∨ j = 3 ∨ j = 4 ∨ j = 5 ∨ j = 6 ∨ j = 7 ∨ j = 8 by omega) with rfl | rfl | rfl | rfl | rfl | rfl | rfl | rfl | rfl <;> cases hq
    · exact w0
    · exact w1
    · exact w2
    · exact w3
    · exact w4
    · exact w5
    · exact w6
    · exact w7
    · exact w8
  · exact va_Zof (hts _ (List.mem_append_right _ (show _ ∈ tables_1_1 ++ (tables_1_2 ++ (tables_1_3 ++ (tables_1_4 ++ (tables_1_5 ++ (tables_1_6 ++ (tables_1_7 ++ tables_1_8)))))) from List.mem_append_right _ (List.mem_append_left _ (List.mem_of_getElem? (i := 171) rfl))))) (hts _ (List.mem_append_right _ (show _ ∈ tables_1_1 ++ (tables_1_2 ++ (tables_1_3 ++ (tables_1_4 ++ (tables_1_5 ++ (tables_1_6 ++ (tables_1_7 ++ tables_1_8)))))) from List.mem_append_left _ (List.mem_of_getElem? (i := 15) rfl)))) (va_eqt (hs _ (by decide +kernel))) (fun a h => Nat.not_le.mpr h)
  · intro q hq
    simp only [dNs, List.mem_cons, List.not_mem_nil, or_false] at hq
    rcases hq with rfl | rfl | rfl | rfl | rfl | rfl | rfl | rfl | rfl | rfl | rfl | rfl | rfl | rfl
    · exact va_Nw.of rfl (hts _ (List.mem_append_right _ (show _ ∈ tables_1_1 ++ (tables_1_2 ++ (tables_1_3 ++ (tables_1_4 ++ (tables_1_5 ++ (tables_1_6 ++ (tables_1_7 ++ tables_1_8)))))) from List.mem_append_right _ (List.mem_append_left _ (List.mem_of_getElem? (i := 214) rfl)))))
    · exact va_Nw.of rfl (hts _ (List.mem_append_right _ (show _ ∈ tables_1_1 ++ (tables_1_2 ++ (tables_1_3 ++ (tables_1_4 ++ (tables_1_5 ++ (tables_1_6 ++ (tables_1_7 ++ tables_1_8)))))) from List.mem_append_right _ (List.mem_append_left _ (List.mem_of_getElem? (i := 172) rfl)))))
    · exact va_Nw.of rfl (hts _ (List.mem_append_right _ (show _ ∈ tables_1_1 ++ (tables_1_2 ++ (tables_1_3 ++ (tables_1_4 ++ (tables_1_5 ++ (tables_1_6 ++ (tables_1_7 ++ tables_1_8)))))) from List.mem_append_right _ (List.mem_append_right _ (List.mem_append_left _ (List.mem_of_getElem? (i := 80) rfl))))))
    · exact va_Nw.of rfl (hts _ (List.mem_append_right _ (show _ ∈ tables_1_1 ++ (tables_1_2 ++ (tables_1_3 ++ (tables_1_4 ++ (tables_1_5 ++ (tables_1_6 ++ (tables_1_7 ++ tables_1_8)))))) from List.mem_append_right _ (List.mem_append_right _ (List.mem_append_right _ (List.mem_append_left _ (List.mem_of_getElem? (i := 7) rfl)))))))
    · exact va_Nw.of rfl (hts _ (List.mem_append_right _ (show _ ∈ tables_1_1 ++ (tables_1_2 ++ (tables_1_3 ++ (tables_1_4 ++ (tables_1_5 ++ (tables_1_6 ++ (tables_1_7 ++ tables_1_8)))))) from List.mem_append_right _ (List.mem_append_right _ (List.mem_append_left _ (List.mem_of_getElem? (i := 45) rfl))))))
    · exact va_Nw.of rfl (hts _ (List.mem_append_right _ (show _ ∈ tables_1_1 ++ (tables_1_2 ++ (tables_1_3 ++ (tables_1_4 ++ (tables_1_5 ++ (tables_1_6 ++ (tables_1_7 ++ tables_1_8)))))) from List.mem_append_right _ (List.mem_append_right _ (List.mem_append_right _ (List.mem_append_right _ (List.mem_append_left _ (List.mem_of_getElem? (i := 42) rfl))))))))
    · exact va_Nw.of rfl (hts _ (List.mem_append_right _ (show _ ∈ tables_1_1 ++ (tables_1_2 ++ (tables_1_3 ++ (tables_1_4 ++ (tables_1_5 ++ (tables_1_6 ++ (tables_1_7 ++ tables_1_8)))))) from List.mem_append_right _ (List.mem_append_right _ (List.mem_append_right _ (List.mem_append_left _ (List.mem_of_getElem? (i := 169) rfl)))))))
    · exact va_Nw.of rfl (hts _ (List.mem_append_right _ (show _ ∈ tables_1_1 ++ (tables_1_2 ++ (tables_1_3 ++ (tables_1_4 ++ (tables_1_5 ++ (tables_1_6 ++ (tables_1_7 ++ tables_1_8)))))) from List.mem_append_right _ (List.mem_append_right _ (List.mem_append_left _ (List.mem_of_getElem? (i := 235) rfl))))))
    · exact va_Nw.of rfl (hts _ (List.mem_append_right _ (show _ ∈ tables_1_1 ++ (tables_1_2 ++ (tables_1_3 ++ (tables_1_4 ++ (tables_1_5 ++ (tables_1_6 ++ (tables_1_7 ++ tables_1_8)))))) from List.mem_append_right _ (List.mem_append_right _ (List.mem_append_left _ (List.mem_of_getElem? (i := 164) rfl))))))
    · exact va_Nw.of rfl (hts _ (List.mem_append_right _ (show _ ∈ tables_1_1 ++ (tables_1_2 ++ (tables_1_3 ++ (tables_1_4 ++ (tables_1_5 ++ (tables_1_6 ++ (tables_1_7 ++ tables_1_8)))))) from List.mem_append_right _ (List.mem_append_right _ (List.mem_append_right _ (List.mem_append_right _ (List.mem_append_left _ (List.mem_of_getElem? (i := 10) rfl))))))))
    · exact va_Nw.of rfl (hts _ (List.mem_append_right _ (show _ ∈ tables_1_1 ++ (tables_1_2 ++ (tables_1_3 ++ (tables_1_4 ++ (tables_1_5 ++ (tables_1_6 ++ (tables_1_7 ++ tables_1_8)))))) from List.mem_append_left _ (List.mem_of_getElem? (i := 35) rfl))))
    · exact va_Nw.of rfl (hts _ (List.mem_append_right _ (show _ ∈ tables_1_1 ++ (tables_1_2 ++ (tables_1_3 ++ (tables_1_4 ++ (tables_1_5 ++ (tables_1_6 ++ (tables_1_7 ++ tables_1_8)))))) from List.mem_append_left _ (List.mem_of_getElem? (i := 62) rfl))))
    · exact va_Nw.of rfl (hts _ (List.mem_append_right _ (show _ ∈ tables_1_1 ++ (tables_1_2 ++ (tables_1_3 ++ (tables_1_4 ++ (tables_1_5 ++ (tables_1_6 ++ (tables_1_7 ++ tables_1_8)))))) from List.mem_append_left _ (List.mem_of_getElem? (i := 182) rfl))))
    · exact va_Nw.of rfl (hts _ (List.mem_append_right _ (show _ ∈ tables_1_1 ++ (tables_1_2 ++ (tables_1_3 ++ (tables_1_4 ++ (tables_1_5 ++ (tables_1_6 ++ (tables_1_7 ++ tables_1_8)))))) from List.mem_append_left _ (List.mem_of_getElem? (i := 199) rfl))))
  · rw [hG 4000 (by omega)]
    exact hf
  · have h0 := hts _ (List.mem_append_right _ (show _ ∈ tables_1_1 ++ (tables_1_2 ++ (tables_1_3 ++ (tables_1_4 ++ (tables_1_5 ++ (tables_1_6 ++ (tables_1_7 ++ tables_1_8)))))) from List.mem_append_left _ (List.mem_of_getElem? (i := 67) rfl)))
    unfold Cond.before Cond.holds at h0
    unfold va_AOA Cond.before Cond.holds
    simp only [Cond.value] at h0 ⊢
    exact h0
