section BI
variable {α : Type} {X : dX} {D : Nat} {own : String} {cc : ByteArray} {nL : Nat} {rt : Option FieldType} {φ : α → Option Value × dH} {pc : Nat} {ls st : List Value} {h : dH} {o : Option α}
theorem B_iconst {n : Int} {v : Int32} (hd : decode cc pc = .ok (.iconst n, 1)) (hv : Int32.ofInt n = v) (k : B X D own cc nL rt φ (pc + 1) ls (.int v :: st) h o) : B X D own cc nL rt φ pc ls st h o := by
  intro x hx p l e s m args below meth c G A H locs lsA F S L
  exact lv_iconst F.1 F.2.1 hd hv (k x hx p l e s m args below meth c G A H locs lsA F S L)
theorem B_bipush {n : Int} {v : Int32} (hd : decode cc pc = .ok (.bipush n, 2)) (hv : (Int8.ofInt n).toInt32 = v) (k : B X D own cc nL rt φ (pc + 2) ls (.int v :: st) h o) : B X D own cc nL rt φ pc ls st h o := by
  intro x hx p l e s m args below meth c G A H locs lsA F S L
  exact lv_bipush F.1 F.2.1 hd hv (k x hx p l e s m args below meth c G A H locs lsA F S L)
theorem B_sipush {n : Int} {v : Int32} (hd : decode cc pc = .ok (.sipush n, 3)) (hv : (Int16.ofInt n).toInt32 = v) (k : B X D own cc nL rt φ (pc + 3) ls (.int v :: st) h o) : B X D own cc nL rt φ pc ls st h o := by
  intro x hx p l e s m args below meth c G A H locs lsA F S L
  exact lv_sipush F.1 F.2.1 hd hv (k x hx p l e s m args below meth c G A H locs lsA F S L)
theorem B_lconst {n : Fin 2} {v : Int64} (hd : decode cc pc = .ok (.lconst n, 1)) (hv : Int64.ofNat (n : Nat) = v) (k : B X D own cc nL rt φ (pc + 1) ls (.long v :: st) h o) : B X D own cc nL rt φ pc ls st h o := by
  intro x hx p l e s m args below meth c G A H locs lsA F S L
  exact lv_lconst F.1 F.2.1 hd hv (k x hx p l e s m args below meth c G A H locs lsA F S L)
theorem B_ldc {i : Nat} {v : Int32} (hd : decode cc pc = .ok (.ldc i, 2)) (hc : Cond.constant own i v ∈ dWs) (k : B X D own cc nL rt φ (pc + 2) ls (.int v :: st) h o) : B X D own cc nL rt φ pc ls st h o := by
  intro x hx p l e s m args below meth c G A H locs lsA F S L
  exact lv_ldc F.1 F.2.1 F.2.2.2.1 (F.2.2.2.2.1 _ hc) hd (k x hx p l e s m args below meth c G A H locs lsA F S L)
theorem B_ldcw {i : Nat} {v : Int32} (hd : decode cc pc = .ok (.ldc_w i, 3)) (hc : Cond.constant own i v ∈ dWs) (k : B X D own cc nL rt φ (pc + 3) ls (.int v :: st) h o) : B X D own cc nL rt φ pc ls st h o := by
  intro x hx p l e s m args below meth c G A H locs lsA F S L
  exact lv_ldcw F.1 F.2.1 F.2.2.2.1 (F.2.2.2.2.1 _ hc) hd (k x hx p l e s m args below meth c G A H locs lsA F S L)
theorem B_ldc2 {i : Nat} {v : Int64} (hd : decode cc pc = .ok (.ldc2_w i, 3)) (hc : Cond.constantLong own i v ∈ dWs) (k : B X D own cc nL rt φ (pc + 3) ls (.long v :: st) h o) : B X D own cc nL rt φ pc ls st h o := by
  intro x hx p l e s m args below meth c G A H locs lsA F S L
  exact lv_ldc2 F.1 F.2.1 F.2.2.2.1 (F.2.2.2.2.1 _ hc) hd (k x hx p l e s m args below meth c G A H locs lsA F S L)
theorem B_iload_n {k0 : Fin 4} {i : Nat} {v : Int32} (hd : decode cc pc = .ok (.iload_n k0, 1)) (hi : (k0 : Nat) = i) (hl : dget ls i = some (.int v)) (k : B X D own cc nL rt φ (pc + 1) ls (.int v :: st) h o) : B X D own cc nL rt φ pc ls st h o := by
  intro x hx p l e s m args below meth c G A H locs lsA F S L
  exact lv_iload_n F.1 F.2.1 hd hi (dL_at L hl (by simp)) (k x hx p l e s m args below meth c G A H locs lsA F S L)
theorem B_iload {i : Nat} {v : Int32} (hd : decode cc pc = .ok (.iload i, 2)) (hl : dget ls i = some (.int v)) (k : B X D own cc nL rt φ (pc + 2) ls (.int v :: st) h o) : B X D own cc nL rt φ pc ls st h o := by
  intro x hx p l e s m args below meth c G A H locs lsA F S L
  exact lv_iload F.1 F.2.1 hd (dL_at L hl (by simp)) (k x hx p l e s m args below meth c G A H locs lsA F S L)
theorem B_lload_n {k0 : Fin 4} {i : Nat} {v : Int64} (hd : decode cc pc = .ok (.lload_n k0, 1)) (hi : (k0 : Nat) = i) (hl : dget ls i = some (.long v)) (k : B X D own cc nL rt φ (pc + 1) ls (.long v :: st) h o) : B X D own cc nL rt φ pc ls st h o := by
  intro x hx p l e s m args below meth c G A H locs lsA F S L
  exact lv_lload_n F.1 F.2.1 hd hi (dL_at L hl (by simp)) (k x hx p l e s m args below meth c G A H locs lsA F S L)
theorem B_lload {i : Nat} {v : Int64} (hd : decode cc pc = .ok (.lload i, 2)) (hl : dget ls i = some (.long v)) (k : B X D own cc nL rt φ (pc + 2) ls (.long v :: st) h o) : B X D own cc nL rt φ pc ls st h o := by
  intro x hx p l e s m args below meth c G A H locs lsA F S L
  exact lv_lload F.1 F.2.1 hd (dL_at L hl (by simp)) (k x hx p l e s m args below meth c G A H locs lsA F S L)
theorem B_aload_n {k0 : Fin 4} {i : Nat} {v : Nat} (hd : decode cc pc = .ok (.aload_n k0, 1)) (hi : (k0 : Nat) = i) (hl : dget ls i = some (.ref v)) (k : B X D own cc nL rt φ (pc + 1) ls (.ref v :: st) h o) : B X D own cc nL rt φ pc ls st h o := by
  intro x hx p l e s m args below meth c G A H locs lsA F S L
  exact lv_aload_n F.1 F.2.1 hd hi (dL_at L hl (by simp)) (k x hx p l e s m args below meth c G A H locs lsA F S L)
theorem B_aload {i : Nat} {v : Nat} (hd : decode cc pc = .ok (.aload i, 2)) (hl : dget ls i = some (.ref v)) (k : B X D own cc nL rt φ (pc + 2) ls (.ref v :: st) h o) : B X D own cc nL rt φ pc ls st h o := by
  intro x hx p l e s m args below meth c G A H locs lsA F S L
  exact lv_aload F.1 F.2.1 hd (dL_at L hl (by simp)) (k x hx p l e s m args below meth c G A H locs lsA F S L)
theorem B_istore_n {k0 : Fin 4} {i : Nat} {v : Int32} {ls' : List Value} (hd : decode cc pc = .ok (.istore_n k0, 1)) (hi : (k0 : Nat) = i) (hn : i < nL) (h2 : dno2 ls i = true) (hs : dset ls i (.int v) = ls') (k : B X D own cc nL rt φ (pc + 1) ls' st h o) : B X D own cc nL rt φ pc ls (.int v :: st) h o := by
  intro x hx p l e s m args below meth c G A H locs lsA F S L
  subst hs
  exact lv_istore_n F.1 F.2.1 hd hi L hn rfl (fun lsB LB => k x hx p l e s m args below meth c G A H locs lsB F S (lv_less LB (dL_store h2)))
theorem B_istore {i : Nat} {v : Int32} {ls' : List Value} (hd : decode cc pc = .ok (.istore i, 2)) (hn : i < nL) (h2 : dno2 ls i = true) (hs : dset ls i (.int v) = ls') (k : B X D own cc nL rt φ (pc + 2) ls' st h o) : B X D own cc nL rt φ pc ls (.int v :: st) h o := by
  intro x hx p l e s m args below meth c G A H locs lsA F S L
  subst hs
  exact lv_istore F.1 F.2.1 hd L hn rfl (fun lsB LB => k x hx p l e s m args below meth c G A H locs lsB F S (lv_less LB (dL_store h2)))
theorem B_astore_n {k0 : Fin 4} {i : Nat} {v : Nat} {ls' : List Value} (hd : decode cc pc = .ok (.astore_n k0, 1)) (hi : (k0 : Nat) = i) (hn : i < nL) (h2 : dno2 ls i = true) (hs : dset ls i (.ref v) = ls') (k : B X D own cc nL rt φ (pc + 1) ls' st h o) : B X D own cc nL rt φ pc ls (.ref v :: st) h o := by
  intro x hx p l e s m args below meth c G A H locs lsA F S L
  subst hs
  exact lv_astore_n F.1 F.2.1 hd hi L hn rfl (fun lsB LB => k x hx p l e s m args below meth c G A H locs lsB F S (lv_less LB (dL_store h2)))
theorem B_astore {i : Nat} {v : Nat} {ls' : List Value} (hd : decode cc pc = .ok (.astore i, 2)) (hn : i < nL) (h2 : dno2 ls i = true) (hs : dset ls i (.ref v) = ls') (k : B X D own cc nL rt φ (pc + 2) ls' st h o) : B X D own cc nL rt φ pc ls (.ref v :: st) h o := by
  intro x hx p l e s m args below meth c G A H locs lsA F S L
  subst hs
  exact lv_astore F.1 F.2.1 hd L hn rfl (fun lsB LB => k x hx p l e s m args below meth c G A H locs lsB F S (lv_less LB (dL_store h2)))
theorem B_lstore_n {k0 : Fin 4} {i : Nat} {v : Int64} {ls' : List Value} (hd : decode cc pc = .ok (.lstore_n k0, 1)) (hi : (k0 : Nat) = i) (hn : i + 1 < nL) (h2 : dno2 ls i = true) (hs : dset (dset ls i (.long v)) (i + 1) .null = ls') (k : B X D own cc nL rt φ (pc + 1) ls' st h o) : B X D own cc nL rt φ pc ls (.long v :: st) h o := by
  intro x hx p l e s m args below meth c G A H locs lsA F S L
  subst hs
  exact lv_lstore_n F.1 F.2.1 hd hi L hn rfl (fun lsB LB => k x hx p l e s m args below meth c G A H locs lsB F S (lv_less LB (dL_store2 h2)))
theorem B_lstore {i : Nat} {v : Int64} {ls' : List Value} (hd : decode cc pc = .ok (.lstore i, 2)) (hn : i + 1 < nL) (h2 : dno2 ls i = true) (hs : dset (dset ls i (.long v)) (i + 1) .null = ls') (k : B X D own cc nL rt φ (pc + 2) ls' st h o) : B X D own cc nL rt φ pc ls (.long v :: st) h o := by
  intro x hx p l e s m args below meth c G A H locs lsA F S L
  subst hs
  exact lv_lstore F.1 F.2.1 hd L hn rfl (fun lsB LB => k x hx p l e s m args below meth c G A H locs lsB F S (lv_less LB (dL_store2 h2)))
theorem B_iinc {i : Nat} {n : Int} {v w : Int32} {ls' : List Value} (hd : decode cc pc = .ok (.iinc i n, 3)) (hl : dget ls i = some (.int v)) (hv : v + Int32.ofInt n = w) (hn : i < nL) (h2 : dno2 ls i = true) (hs : dset ls i (.int w) = ls') (k : B X D own cc nL rt φ (pc + 3) ls' st h o) : B X D own cc nL rt φ pc ls st h o := by
  intro x hx p l e s m args below meth c G A H locs lsA F S L
  subst hs
  have hm : (i, Value.int v) ∈ dL G 0 ls := (dL_mem G ls 0).mpr ⟨i, .int v, by rw [← dget_eq]; exact hl, by simp, by rw [Nat.zero_add]; rfl⟩
  obtain ⟨kk, hk⟩ := List.getElem?_of_mem hm
  exact lv_iinc F.1 F.2.1 hd L hk hv hn rfl (fun lsB LB => k x hx p l e s m args below meth c G A H locs lsB F S (lv_less LB (dL_store h2)))
theorem B_iadd {x0 y0 : Int32} (hd : decode cc pc = .ok (.iadd, 1)) (k : B X D own cc nL rt φ (pc + 1) ls (.int (x0 + y0) :: st) h o) : B X D own cc nL rt φ pc ls (.int y0 :: .int x0 :: st) h o := by
  intro x hx p l e s m args below meth c G A H locs lsA F S L
  exact lv_iadd F.1 F.2.1 hd (k x hx p l e s m args below meth c G A H locs lsA F S L)
theorem B_isub {x0 y0 : Int32} (hd : decode cc pc = .ok (.isub, 1)) (k : B X D own cc nL rt φ (pc + 1) ls (.int (x0 - y0) :: st) h o) : B X D own cc nL rt φ pc ls (.int y0 :: .int x0 :: st) h o := by
  intro x hx p l e s m args below meth c G A H locs lsA F S L
  exact lv_isub F.1 F.2.1 hd (k x hx p l e s m args below meth c G A H locs lsA F S L)
theorem B_imul {x0 y0 : Int32} (hd : decode cc pc = .ok (.imul, 1)) (k : B X D own cc nL rt φ (pc + 1) ls (.int (x0 * y0) :: st) h o) : B X D own cc nL rt φ pc ls (.int y0 :: .int x0 :: st) h o := by
  intro x hx p l e s m args below meth c G A H locs lsA F S L
  exact lv_imul F.1 F.2.1 hd (k x hx p l e s m args below meth c G A H locs lsA F S L)
theorem B_iand {x0 y0 : Int32} (hd : decode cc pc = .ok (.iand, 1)) (k : B X D own cc nL rt φ (pc + 1) ls (.int (x0 &&& y0) :: st) h o) : B X D own cc nL rt φ pc ls (.int y0 :: .int x0 :: st) h o := by
  intro x hx p l e s m args below meth c G A H locs lsA F S L
  exact lv_iand F.1 F.2.1 hd (k x hx p l e s m args below meth c G A H locs lsA F S L)
theorem B_ior {x0 y0 : Int32} (hd : decode cc pc = .ok (.ior, 1)) (k : B X D own cc nL rt φ (pc + 1) ls (.int (x0 ||| y0) :: st) h o) : B X D own cc nL rt φ pc ls (.int y0 :: .int x0 :: st) h o := by
  intro x hx p l e s m args below meth c G A H locs lsA F S L
  exact lv_ior F.1 F.2.1 hd (k x hx p l e s m args below meth c G A H locs lsA F S L)
theorem B_ixor {x0 y0 : Int32} (hd : decode cc pc = .ok (.ixor, 1)) (k : B X D own cc nL rt φ (pc + 1) ls (.int (x0 ^^^ y0) :: st) h o) : B X D own cc nL rt φ pc ls (.int y0 :: .int x0 :: st) h o := by
  intro x hx p l e s m args below meth c G A H locs lsA F S L
  exact lv_ixor F.1 F.2.1 hd (k x hx p l e s m args below meth c G A H locs lsA F S L)
theorem B_ishl {x0 y0 : Int32} (hd : decode cc pc = .ok (.ishl, 1)) (k : B X D own cc nL rt φ (pc + 1) ls (.int (x0 <<< (y0 &&& 31)) :: st) h o) : B X D own cc nL rt φ pc ls (.int y0 :: .int x0 :: st) h o := by
  intro x hx p l e s m args below meth c G A H locs lsA F S L
  exact lv_ishl F.1 F.2.1 hd (k x hx p l e s m args below meth c G A H locs lsA F S L)
theorem B_ishr {x0 y0 : Int32} (hd : decode cc pc = .ok (.ishr, 1)) (k : B X D own cc nL rt φ (pc + 1) ls (.int (x0 >>> (y0 &&& 31)) :: st) h o) : B X D own cc nL rt φ pc ls (.int y0 :: .int x0 :: st) h o := by
  intro x hx p l e s m args below meth c G A H locs lsA F S L
  exact lv_ishr F.1 F.2.1 hd (k x hx p l e s m args below meth c G A H locs lsA F S L)
theorem B_iushr {x0 y0 : Int32} (hd : decode cc pc = .ok (.iushr, 1)) (k : B X D own cc nL rt φ (pc + 1) ls (.int ((x0.toUInt32 >>> (y0.toUInt32 &&& Int32.toUInt32 31)).toInt32) :: st) h o) : B X D own cc nL rt φ pc ls (.int y0 :: .int x0 :: st) h o := by
  intro x hx p l e s m args below meth c G A H locs lsA F S L
  exact lv_iushr F.1 F.2.1 hd rfl (k x hx p l e s m args below meth c G A H locs lsA F S L)
theorem B_ineg {x0 : Int32} (hd : decode cc pc = .ok (.ineg, 1)) (k : B X D own cc nL rt φ (pc + 1) ls (.int (-x0) :: st) h o) : B X D own cc nL rt φ pc ls (.int x0 :: st) h o := by
  intro x hx p l e s m args below meth c G A H locs lsA F S L
  exact lv_ineg F.1 F.2.1 hd (k x hx p l e s m args below meth c G A H locs lsA F S L)
theorem B_idiv {x0 y0 : Int32} (hd : decode cc pc = .ok (.idiv, 1)) (hz : ¬ y0 = 0) (k : B X D own cc nL rt φ (pc + 1) ls (.int (x0 / y0) :: st) h o) : B X D own cc nL rt φ pc ls (.int y0 :: .int x0 :: st) h o := by
  intro x hx p l e s m args below meth c G A H locs lsA F S L
  exact lv_idiv F.1 F.2.1 hd hz (k x hx p l e s m args below meth c G A H locs lsA F S L)
theorem B_irem {x0 y0 : Int32} (hd : decode cc pc = .ok (.irem, 1)) (hz : ¬ y0 = 0) (k : B X D own cc nL rt φ (pc + 1) ls (.int (x0 - x0 / y0 * y0) :: st) h o) : B X D own cc nL rt φ pc ls (.int y0 :: .int x0 :: st) h o := by
  intro x hx p l e s m args below meth c G A H locs lsA F S L
  exact lv_irem F.1 F.2.1 hd hz (k x hx p l e s m args below meth c G A H locs lsA F S L)
theorem B_ladd {x0 y0 : Int64} (hd : decode cc pc = .ok (.ladd, 1)) (k : B X D own cc nL rt φ (pc + 1) ls (.long (x0 + y0) :: st) h o) : B X D own cc nL rt φ pc ls (.long y0 :: .long x0 :: st) h o := by
  intro x hx p l e s m args below meth c G A H locs lsA F S L
  exact lv_ladd F.1 F.2.1 hd (k x hx p l e s m args below meth c G A H locs lsA F S L)
theorem B_lsub {x0 y0 : Int64} (hd : decode cc pc = .ok (.lsub, 1)) (k : B X D own cc nL rt φ (pc + 1) ls (.long (x0 - y0) :: st) h o) : B X D own cc nL rt φ pc ls (.long y0 :: .long x0 :: st) h o := by
  intro x hx p l e s m args below meth c G A H locs lsA F S L
  exact lv_lsub F.1 F.2.1 hd (k x hx p l e s m args below meth c G A H locs lsA F S L)
theorem B_lmul {x0 y0 : Int64} (hd : decode cc pc = .ok (.lmul, 1)) (k : B X D own cc nL rt φ (pc + 1) ls (.long (x0 * y0) :: st) h o) : B X D own cc nL rt φ pc ls (.long y0 :: .long x0 :: st) h o := by
  intro x hx p l e s m args below meth c G A H locs lsA F S L
  exact lv_lmul F.1 F.2.1 hd (k x hx p l e s m args below meth c G A H locs lsA F S L)
theorem B_land {x0 y0 : Int64} (hd : decode cc pc = .ok (.land, 1)) (k : B X D own cc nL rt φ (pc + 1) ls (.long (x0 &&& y0) :: st) h o) : B X D own cc nL rt φ pc ls (.long y0 :: .long x0 :: st) h o := by
  intro x hx p l e s m args below meth c G A H locs lsA F S L
  exact lv_land F.1 F.2.1 hd (k x hx p l e s m args below meth c G A H locs lsA F S L)
theorem B_lor {x0 y0 : Int64} (hd : decode cc pc = .ok (.lor, 1)) (k : B X D own cc nL rt φ (pc + 1) ls (.long (x0 ||| y0) :: st) h o) : B X D own cc nL rt φ pc ls (.long y0 :: .long x0 :: st) h o := by
  intro x hx p l e s m args below meth c G A H locs lsA F S L
  exact lv_lor F.1 F.2.1 hd (k x hx p l e s m args below meth c G A H locs lsA F S L)
theorem B_ldiv {x0 y0 : Int64} (hd : decode cc pc = .ok (.ldiv, 1)) (hz : ¬ y0 = 0) (k : B X D own cc nL rt φ (pc + 1) ls (.long (x0 / y0) :: st) h o) : B X D own cc nL rt φ pc ls (.long y0 :: .long x0 :: st) h o := by
  intro x hx p l e s m args below meth c G A H locs lsA F S L
  exact lv_ldiv F.1 F.2.1 hd hz (k x hx p l e s m args below meth c G A H locs lsA F S L)
theorem B_lrem {x0 y0 : Int64} (hd : decode cc pc = .ok (.lrem, 1)) (hz : ¬ y0 = 0) (k : B X D own cc nL rt φ (pc + 1) ls (.long (x0 - x0 / y0 * y0) :: st) h o) : B X D own cc nL rt φ pc ls (.long y0 :: .long x0 :: st) h o := by
  intro x hx p l e s m args below meth c G A H locs lsA F S L
  exact lv_lrem F.1 F.2.1 hd hz (k x hx p l e s m args below meth c G A H locs lsA F S L)
theorem B_lushr {x0 : Int64} {y0 : Int32} (hd : decode cc pc = .ok (.lushr, 1)) (k : B X D own cc nL rt φ (pc + 1) ls (.long ((x0.toUInt64 >>> (y0.toInt64.toUInt64 &&& Int64.toUInt64 63)).toInt64) :: st) h o) : B X D own cc nL rt φ pc ls (.int y0 :: .long x0 :: st) h o := by
  intro x hx p l e s m args below meth c G A H locs lsA F S L
  exact lv_lushr F.1 F.2.1 hd rfl (k x hx p l e s m args below meth c G A H locs lsA F S L)
theorem B_lshl {x0 : Int64} {y0 : Int32} (hd : decode cc pc = .ok (.lshl, 1)) (k : B X D own cc nL rt φ (pc + 1) ls (.long (x0 <<< (y0.toInt64 &&& 63)) :: st) h o) : B X D own cc nL rt φ pc ls (.int y0 :: .long x0 :: st) h o := by
  intro x hx p l e s m args below meth c G A H locs lsA F S L
  exact lv_lshl F.1 F.2.1 hd rfl (k x hx p l e s m args below meth c G A H locs lsA F S L)
theorem B_i2l {x0 : Int32} (hd : decode cc pc = .ok (.i2l, 1)) (k : B X D own cc nL rt φ (pc + 1) ls (.long x0.toInt64 :: st) h o) : B X D own cc nL rt φ pc ls (.int x0 :: st) h o := by
  intro x hx p l e s m args below meth c G A H locs lsA F S L
  exact lv_i2l F.1 F.2.1 hd rfl (k x hx p l e s m args below meth c G A H locs lsA F S L)
theorem B_l2i {x0 : Int64} (hd : decode cc pc = .ok (.l2i, 1)) (k : B X D own cc nL rt φ (pc + 1) ls (.int x0.toInt32 :: st) h o) : B X D own cc nL rt φ pc ls (.long x0 :: st) h o := by
  intro x hx p l e s m args below meth c G A H locs lsA F S L
  exact lv_l2i F.1 F.2.1 hd rfl (k x hx p l e s m args below meth c G A H locs lsA F S L)
theorem B_i2b {x0 : Int32} (hd : decode cc pc = .ok (.i2b, 1)) (k : B X D own cc nL rt φ (pc + 1) ls (.int x0.toInt8.toInt32 :: st) h o) : B X D own cc nL rt φ pc ls (.int x0 :: st) h o := by
  intro x hx p l e s m args below meth c G A H locs lsA F S L
  exact lv_i2b F.1 F.2.1 hd rfl (k x hx p l e s m args below meth c G A H locs lsA F S L)
theorem B_lcmp {x0 y0 : Int64} (hd : decode cc pc = .ok (.lcmp, 1)) (k : B X D own cc nL rt φ (pc + 1) ls (.int (lg_cmp x0 y0) :: st) h o) : B X D own cc nL rt φ pc ls (.long y0 :: .long x0 :: st) h o := by
  intro x hx p l e s m args below meth c G A H locs lsA F S L
  exact W.lcmp F.1 F.2.1 hd (k x hx p l e s m args below meth c G A H locs lsA F S L)
theorem B_dup {v : Value} (hd : decode cc pc = .ok (.dup, 1)) (hv : v.category = 1) (k : B X D own cc nL rt φ (pc + 1) ls (v :: v :: st) h o) : B X D own cc nL rt φ pc ls (v :: st) h o := by
  intro x hx p l e s m args below meth c G A H locs lsA F S L
  exact lv_dup F.1 F.2.1 hd ((dv_cat G v).trans hv) (k x hx p l e s m args below meth c G A H locs lsA F S L)
theorem B_pop {v : Value} (hd : decode cc pc = .ok (.pop, 1)) (hv : v.category = 1) (k : B X D own cc nL rt φ (pc + 1) ls st h o) : B X D own cc nL rt φ pc ls (v :: st) h o := by
  intro x hx p l e s m args below meth c G A H locs lsA F S L
  exact lv_pop F.1 F.2.1 hd ((dv_cat G v).trans hv) (k x hx p l e s m args below meth c G A H locs lsA F S L)
theorem B_dup2 {v w : Value} (hd : decode cc pc = .ok (.dup2, 1)) (hv : v.category = 1) (hw : w.category = 1) (k : B X D own cc nL rt φ (pc + 1) ls (v :: w :: v :: w :: st) h o) : B X D own cc nL rt φ pc ls (v :: w :: st) h o := by
  intro x hx p l e s m args below meth c G A H locs lsA F S L
  exact lv_dup2_11 F.1 F.2.1 hd ((dv_cat G v).trans hv) ((dv_cat G w).trans hw) (k x hx p l e s m args below meth c G A H locs lsA F S L)
theorem B_goto {off : Int} {tgt : Nat} (hd : decode cc pc = .ok (.goto off, 3)) (ht : (pc : Int) + off = (tgt : Int)) (k : B X D own cc nL rt φ tgt ls st h o) : B X D own cc nL rt φ pc ls st h o := by
  intro x hx p l e s m args below meth c G A H locs lsA F S L
  exact lv_goto F.1 F.2.1 hd ht (k x hx p l e s m args below meth c G A H locs lsA F S L)
theorem B_icmp_eq {x0 y0 : Int32} {off : Int} {tgt : Nat} {c : Prop} [Decidable c] {o1 o2 : Option α} (hd : decode cc pc = .ok (.if_icmp .eq off, 3)) (ht : (pc : Int) + off = (tgt : Int)) (hc : (x0 = y0) ↔ ¬ c) (kt : ¬ c → B X D own cc nL rt φ tgt ls st h o2) (kf : c → B X D own cc nL rt φ (pc + 3) ls st h o1) : B X D own cc nL rt φ pc ls (.int y0 :: .int x0 :: st) h (if c then o1 else o2) := by
  intro x hx p l e s m args below meth c_ G A H locs lsA F S L
  refine lv_icmp_eq F.1 F.2.1 hd ht (fun q => ?_) (fun q => ?_)
  · have n := hc.mp q
    rw [if_neg n] at hx
    exact kt n x hx p l e s m args below meth c_ G A H locs lsA F S L
  · have n : c := Decidable.not_not.mp fun z => q (hc.mpr z)
    rw [if_pos n] at hx
    exact kf n x hx p l e s m args below meth c_ G A H locs lsA F S L
theorem B_icmp_eq_s {x0 y0 : Int32} {off : Int} {tgt : Nat} (hd : decode cc pc = .ok (.if_icmp .eq off, 3)) (ht : (pc : Int) + off = (tgt : Int)) (kt : x0 = y0 → B X D own cc nL rt φ tgt ls st h o) (kf : ¬ (x0 = y0) → B X D own cc nL rt φ (pc + 3) ls st h o) : B X D own cc nL rt φ pc ls (.int y0 :: .int x0 :: st) h o := by
  intro x hx p l e s m args below meth c G A H locs lsA F S L
  exact lv_icmp_eq F.1 F.2.1 hd ht (fun q => kt q x hx p l e s m args below meth c G A H locs lsA F S L) (fun q => kf q x hx p l e s m args below meth c G A H locs lsA F S L)
theorem B_if_eq {x0 : Int32} {off : Int} {tgt : Nat} {c : Prop} [Decidable c] {o1 o2 : Option α} (hd : decode cc pc = .ok (.ifCond .eq off, 3)) (ht : (pc : Int) + off = (tgt : Int)) (hc : (x0 = 0) ↔ ¬ c) (kt : ¬ c → B X D own cc nL rt φ tgt ls st h o2) (kf : c → B X D own cc nL rt φ (pc + 3) ls st h o1) : B X D own cc nL rt φ pc ls (.int x0 :: st) h (if c then o1 else o2) := by
  intro x hx p l e s m args below meth c_ G A H locs lsA F S L
  refine lv_if_eq F.1 F.2.1 hd ht (fun q => ?_) (fun q => ?_)
  · have n := hc.mp q
    rw [if_neg n] at hx
    exact kt n x hx p l e s m args below meth c_ G A H locs lsA F S L
  · have n : c := Decidable.not_not.mp fun z => q (hc.mpr z)
    rw [if_pos n] at hx
    exact kf n x hx p l e s m args below meth c_ G A H locs lsA F S L
theorem B_if_eq_s {x0 : Int32} {off : Int} {tgt : Nat} (hd : decode cc pc = .ok (.ifCond .eq off, 3)) (ht : (pc : Int) + off = (tgt : Int)) (kt : x0 = 0 → B X D own cc nL rt φ tgt ls st h o) (kf : ¬ (x0 = 0) → B X D own cc nL rt φ (pc + 3) ls st h o) : B X D own cc nL rt φ pc ls (.int x0 :: st) h o := by
  intro x hx p l e s m args below meth c G A H locs lsA F S L
  exact lv_if_eq F.1 F.2.1 hd ht (fun q => kt q x hx p l e s m args below meth c G A H locs lsA F S L) (fun q => kf q x hx p l e s m args below meth c G A H locs lsA F S L)
theorem B_icmp_ne {x0 y0 : Int32} {off : Int} {tgt : Nat} {c : Prop} [Decidable c] {o1 o2 : Option α} (hd : decode cc pc = .ok (.if_icmp .ne off, 3)) (ht : (pc : Int) + off = (tgt : Int)) (hc : (x0 ≠ y0) ↔ ¬ c) (kt : ¬ c → B X D own cc nL rt φ tgt ls st h o2) (kf : c → B X D own cc nL rt φ (pc + 3) ls st h o1) : B X D own cc nL rt φ pc ls (.int y0 :: .int x0 :: st) h (if c then o1 else o2) := by
  intro x hx p l e s m args below meth c_ G A H locs lsA F S L
  refine lv_icmp_ne F.1 F.2.1 hd ht (fun q => ?_) (fun q => ?_)
  · have n := hc.mp q
    rw [if_neg n] at hx
    exact kt n x hx p l e s m args below meth c_ G A H locs lsA F S L
  · have n : c := Decidable.not_not.mp fun z => (fun w => w q) (hc.mpr z)
    rw [if_pos n] at hx
    exact kf n x hx p l e s m args below meth c_ G A H locs lsA F S L
theorem B_icmp_ne_s {x0 y0 : Int32} {off : Int} {tgt : Nat} (hd : decode cc pc = .ok (.if_icmp .ne off, 3)) (ht : (pc : Int) + off = (tgt : Int)) (kt : x0 ≠ y0 → B X D own cc nL rt φ tgt ls st h o) (kf : ¬ (x0 ≠ y0) → B X D own cc nL rt φ (pc + 3) ls st h o) : B X D own cc nL rt φ pc ls (.int y0 :: .int x0 :: st) h o := by
  intro x hx p l e s m args below meth c G A H locs lsA F S L
  exact lv_icmp_ne F.1 F.2.1 hd ht (fun q => kt q x hx p l e s m args below meth c G A H locs lsA F S L) (fun q => kf (fun w => w q) x hx p l e s m args below meth c G A H locs lsA F S L)
theorem B_if_ne {x0 : Int32} {off : Int} {tgt : Nat} {c : Prop} [Decidable c] {o1 o2 : Option α} (hd : decode cc pc = .ok (.ifCond .ne off, 3)) (ht : (pc : Int) + off = (tgt : Int)) (hc : (x0 ≠ 0) ↔ ¬ c) (kt : ¬ c → B X D own cc nL rt φ tgt ls st h o2) (kf : c → B X D own cc nL rt φ (pc + 3) ls st h o1) : B X D own cc nL rt φ pc ls (.int x0 :: st) h (if c then o1 else o2) := by
  intro x hx p l e s m args below meth c_ G A H locs lsA F S L
  refine lv_if_ne F.1 F.2.1 hd ht (fun q => ?_) (fun q => ?_)
  · have n := hc.mp q
    rw [if_neg n] at hx
    exact kt n x hx p l e s m args below meth c_ G A H locs lsA F S L
  · have n : c := Decidable.not_not.mp fun z => (fun w => w q) (hc.mpr z)
    rw [if_pos n] at hx
    exact kf n x hx p l e s m args below meth c_ G A H locs lsA F S L
theorem B_if_ne_s {x0 : Int32} {off : Int} {tgt : Nat} (hd : decode cc pc = .ok (.ifCond .ne off, 3)) (ht : (pc : Int) + off = (tgt : Int)) (kt : x0 ≠ 0 → B X D own cc nL rt φ tgt ls st h o) (kf : ¬ (x0 ≠ 0) → B X D own cc nL rt φ (pc + 3) ls st h o) : B X D own cc nL rt φ pc ls (.int x0 :: st) h o := by
  intro x hx p l e s m args below meth c G A H locs lsA F S L
  exact lv_if_ne F.1 F.2.1 hd ht (fun q => kt q x hx p l e s m args below meth c G A H locs lsA F S L) (fun q => kf (fun w => w q) x hx p l e s m args below meth c G A H locs lsA F S L)
theorem B_icmp_lt {x0 y0 : Int32} {off : Int} {tgt : Nat} {c : Prop} [Decidable c] {o1 o2 : Option α} (hd : decode cc pc = .ok (.if_icmp .lt off, 3)) (ht : (pc : Int) + off = (tgt : Int)) (hc : (x0 < y0) ↔ ¬ c) (kt : ¬ c → B X D own cc nL rt φ tgt ls st h o2) (kf : c → B X D own cc nL rt φ (pc + 3) ls st h o1) : B X D own cc nL rt φ pc ls (.int y0 :: .int x0 :: st) h (if c then o1 else o2) := by
  intro x hx p l e s m args below meth c_ G A H locs lsA F S L
  refine lv_icmp_lt F.1 F.2.1 hd ht (fun q => ?_) (fun q => ?_)
  · have n := hc.mp q
    rw [if_neg n] at hx
    exact kt n x hx p l e s m args below meth c_ G A H locs lsA F S L
  · have n : c := Decidable.not_not.mp fun z => q (hc.mpr z)
    rw [if_pos n] at hx
    exact kf n x hx p l e s m args below meth c_ G A H locs lsA F S L
theorem B_icmp_lt_s {x0 y0 : Int32} {off : Int} {tgt : Nat} (hd : decode cc pc = .ok (.if_icmp .lt off, 3)) (ht : (pc : Int) + off = (tgt : Int)) (kt : x0 < y0 → B X D own cc nL rt φ tgt ls st h o) (kf : ¬ (x0 < y0) → B X D own cc nL rt φ (pc + 3) ls st h o) : B X D own cc nL rt φ pc ls (.int y0 :: .int x0 :: st) h o := by
  intro x hx p l e s m args below meth c G A H locs lsA F S L
  exact lv_icmp_lt F.1 F.2.1 hd ht (fun q => kt q x hx p l e s m args below meth c G A H locs lsA F S L) (fun q => kf q x hx p l e s m args below meth c G A H locs lsA F S L)
theorem B_if_lt {x0 : Int32} {off : Int} {tgt : Nat} {c : Prop} [Decidable c] {o1 o2 : Option α} (hd : decode cc pc = .ok (.ifCond .lt off, 3)) (ht : (pc : Int) + off = (tgt : Int)) (hc : (x0 < 0) ↔ ¬ c) (kt : ¬ c → B X D own cc nL rt φ tgt ls st h o2) (kf : c → B X D own cc nL rt φ (pc + 3) ls st h o1) : B X D own cc nL rt φ pc ls (.int x0 :: st) h (if c then o1 else o2) := by
  intro x hx p l e s m args below meth c_ G A H locs lsA F S L
  refine lv_if_lt F.1 F.2.1 hd ht (fun q => ?_) (fun q => ?_)
  · have n := hc.mp q
    rw [if_neg n] at hx
    exact kt n x hx p l e s m args below meth c_ G A H locs lsA F S L
  · have n : c := Decidable.not_not.mp fun z => q (hc.mpr z)
    rw [if_pos n] at hx
    exact kf n x hx p l e s m args below meth c_ G A H locs lsA F S L
theorem B_if_lt_s {x0 : Int32} {off : Int} {tgt : Nat} (hd : decode cc pc = .ok (.ifCond .lt off, 3)) (ht : (pc : Int) + off = (tgt : Int)) (kt : x0 < 0 → B X D own cc nL rt φ tgt ls st h o) (kf : ¬ (x0 < 0) → B X D own cc nL rt φ (pc + 3) ls st h o) : B X D own cc nL rt φ pc ls (.int x0 :: st) h o := by
  intro x hx p l e s m args below meth c G A H locs lsA F S L
  exact lv_if_lt F.1 F.2.1 hd ht (fun q => kt q x hx p l e s m args below meth c G A H locs lsA F S L) (fun q => kf q x hx p l e s m args below meth c G A H locs lsA F S L)
theorem B_icmp_ge {x0 y0 : Int32} {off : Int} {tgt : Nat} {c : Prop} [Decidable c] {o1 o2 : Option α} (hd : decode cc pc = .ok (.if_icmp .ge off, 3)) (ht : (pc : Int) + off = (tgt : Int)) (hc : (y0 ≤ x0) ↔ ¬ c) (kt : ¬ c → B X D own cc nL rt φ tgt ls st h o2) (kf : c → B X D own cc nL rt φ (pc + 3) ls st h o1) : B X D own cc nL rt φ pc ls (.int y0 :: .int x0 :: st) h (if c then o1 else o2) := by
  intro x hx p l e s m args below meth c_ G A H locs lsA F S L
  refine lv_icmp_ge F.1 F.2.1 hd ht (fun q => ?_) (fun q => ?_)
  · have n := hc.mp q
    rw [if_neg n] at hx
    exact kt n x hx p l e s m args below meth c_ G A H locs lsA F S L
  · have n : c := Decidable.not_not.mp fun z => q (hc.mpr z)
    rw [if_pos n] at hx
    exact kf n x hx p l e s m args below meth c_ G A H locs lsA F S L
theorem B_icmp_ge_s {x0 y0 : Int32} {off : Int} {tgt : Nat} (hd : decode cc pc = .ok (.if_icmp .ge off, 3)) (ht : (pc : Int) + off = (tgt : Int)) (kt : y0 ≤ x0 → B X D own cc nL rt φ tgt ls st h o) (kf : ¬ (y0 ≤ x0) → B X D own cc nL rt φ (pc + 3) ls st h o) : B X D own cc nL rt φ pc ls (.int y0 :: .int x0 :: st) h o := by
  intro x hx p l e s m args below meth c G A H locs lsA F S L
  exact lv_icmp_ge F.1 F.2.1 hd ht (fun q => kt q x hx p l e s m args below meth c G A H locs lsA F S L) (fun q => kf q x hx p l e s m args below meth c G A H locs lsA F S L)
theorem B_if_ge {x0 : Int32} {off : Int} {tgt : Nat} {c : Prop} [Decidable c] {o1 o2 : Option α} (hd : decode cc pc = .ok (.ifCond .ge off, 3)) (ht : (pc : Int) + off = (tgt : Int)) (hc : (0 ≤ x0) ↔ ¬ c) (kt : ¬ c → B X D own cc nL rt φ tgt ls st h o2) (kf : c → B X D own cc nL rt φ (pc + 3) ls st h o1) : B X D own cc nL rt φ pc ls (.int x0 :: st) h (if c then o1 else o2) := by
  intro x hx p l e s m args below meth c_ G A H locs lsA F S L
  refine lv_if_ge F.1 F.2.1 hd ht (fun q => ?_) (fun q => ?_)
  · have n := hc.mp q
    rw [if_neg n] at hx
    exact kt n x hx p l e s m args below meth c_ G A H locs lsA F S L
  · have n : c := Decidable.not_not.mp fun z => q (hc.mpr z)
    rw [if_pos n] at hx
    exact kf n x hx p l e s m args below meth c_ G A H locs lsA F S L
theorem B_if_ge_s {x0 : Int32} {off : Int} {tgt : Nat} (hd : decode cc pc = .ok (.ifCond .ge off, 3)) (ht : (pc : Int) + off = (tgt : Int)) (kt : 0 ≤ x0 → B X D own cc nL rt φ tgt ls st h o) (kf : ¬ (0 ≤ x0) → B X D own cc nL rt φ (pc + 3) ls st h o) : B X D own cc nL rt φ pc ls (.int x0 :: st) h o := by
  intro x hx p l e s m args below meth c G A H locs lsA F S L
  exact lv_if_ge F.1 F.2.1 hd ht (fun q => kt q x hx p l e s m args below meth c G A H locs lsA F S L) (fun q => kf q x hx p l e s m args below meth c G A H locs lsA F S L)
theorem B_icmp_gt {x0 y0 : Int32} {off : Int} {tgt : Nat} {c : Prop} [Decidable c] {o1 o2 : Option α} (hd : decode cc pc = .ok (.if_icmp .gt off, 3)) (ht : (pc : Int) + off = (tgt : Int)) (hc : (y0 < x0) ↔ ¬ c) (kt : ¬ c → B X D own cc nL rt φ tgt ls st h o2) (kf : c → B X D own cc nL rt φ (pc + 3) ls st h o1) : B X D own cc nL rt φ pc ls (.int y0 :: .int x0 :: st) h (if c then o1 else o2) := by
  intro x hx p l e s m args below meth c_ G A H locs lsA F S L
  refine lv_icmp_gt F.1 F.2.1 hd ht (fun q => ?_) (fun q => ?_)
  · have n := hc.mp q
    rw [if_neg n] at hx
    exact kt n x hx p l e s m args below meth c_ G A H locs lsA F S L
  · have n : c := Decidable.not_not.mp fun z => q (hc.mpr z)
    rw [if_pos n] at hx
    exact kf n x hx p l e s m args below meth c_ G A H locs lsA F S L
theorem B_icmp_gt_s {x0 y0 : Int32} {off : Int} {tgt : Nat} (hd : decode cc pc = .ok (.if_icmp .gt off, 3)) (ht : (pc : Int) + off = (tgt : Int)) (kt : y0 < x0 → B X D own cc nL rt φ tgt ls st h o) (kf : ¬ (y0 < x0) → B X D own cc nL rt φ (pc + 3) ls st h o) : B X D own cc nL rt φ pc ls (.int y0 :: .int x0 :: st) h o := by
  intro x hx p l e s m args below meth c G A H locs lsA F S L
  exact lv_icmp_gt F.1 F.2.1 hd ht (fun q => kt q x hx p l e s m args below meth c G A H locs lsA F S L) (fun q => kf q x hx p l e s m args below meth c G A H locs lsA F S L)
theorem B_if_gt {x0 : Int32} {off : Int} {tgt : Nat} {c : Prop} [Decidable c] {o1 o2 : Option α} (hd : decode cc pc = .ok (.ifCond .gt off, 3)) (ht : (pc : Int) + off = (tgt : Int)) (hc : (0 < x0) ↔ ¬ c) (kt : ¬ c → B X D own cc nL rt φ tgt ls st h o2) (kf : c → B X D own cc nL rt φ (pc + 3) ls st h o1) : B X D own cc nL rt φ pc ls (.int x0 :: st) h (if c then o1 else o2) := by
  intro x hx p l e s m args below meth c_ G A H locs lsA F S L
  refine lv_if_gt F.1 F.2.1 hd ht (fun q => ?_) (fun q => ?_)
  · have n := hc.mp q
    rw [if_neg n] at hx
    exact kt n x hx p l e s m args below meth c_ G A H locs lsA F S L
  · have n : c := Decidable.not_not.mp fun z => q (hc.mpr z)
    rw [if_pos n] at hx
    exact kf n x hx p l e s m args below meth c_ G A H locs lsA F S L
theorem B_if_gt_s {x0 : Int32} {off : Int} {tgt : Nat} (hd : decode cc pc = .ok (.ifCond .gt off, 3)) (ht : (pc : Int) + off = (tgt : Int)) (kt : 0 < x0 → B X D own cc nL rt φ tgt ls st h o) (kf : ¬ (0 < x0) → B X D own cc nL rt φ (pc + 3) ls st h o) : B X D own cc nL rt φ pc ls (.int x0 :: st) h o := by
  intro x hx p l e s m args below meth c G A H locs lsA F S L
  exact lv_if_gt F.1 F.2.1 hd ht (fun q => kt q x hx p l e s m args below meth c G A H locs lsA F S L) (fun q => kf q x hx p l e s m args below meth c G A H locs lsA F S L)
theorem B_icmp_le {x0 y0 : Int32} {off : Int} {tgt : Nat} {c : Prop} [Decidable c] {o1 o2 : Option α} (hd : decode cc pc = .ok (.if_icmp .le off, 3)) (ht : (pc : Int) + off = (tgt : Int)) (hc : (x0 ≤ y0) ↔ ¬ c) (kt : ¬ c → B X D own cc nL rt φ tgt ls st h o2) (kf : c → B X D own cc nL rt φ (pc + 3) ls st h o1) : B X D own cc nL rt φ pc ls (.int y0 :: .int x0 :: st) h (if c then o1 else o2) := by
  intro x hx p l e s m args below meth c_ G A H locs lsA F S L
  refine lv_icmp_le F.1 F.2.1 hd ht (fun q => ?_) (fun q => ?_)
  · have n := hc.mp q
    rw [if_neg n] at hx
    exact kt n x hx p l e s m args below meth c_ G A H locs lsA F S L
  · have n : c := Decidable.not_not.mp fun z => q (hc.mpr z)
    rw [if_pos n] at hx
    exact kf n x hx p l e s m args below meth c_ G A H locs lsA F S L
theorem B_icmp_le_s {x0 y0 : Int32} {off : Int} {tgt : Nat} (hd : decode cc pc = .ok (.if_icmp .le off, 3)) (ht : (pc : Int) + off = (tgt : Int)) (kt : x0 ≤ y0 → B X D own cc nL rt φ tgt ls st h o) (kf : ¬ (x0 ≤ y0) → B X D own cc nL rt φ (pc + 3) ls st h o) : B X D own cc nL rt φ pc ls (.int y0 :: .int x0 :: st) h o := by
  intro x hx p l e s m args below meth c G A H locs lsA F S L
  exact lv_icmp_le F.1 F.2.1 hd ht (fun q => kt q x hx p l e s m args below meth c G A H locs lsA F S L) (fun q => kf q x hx p l e s m args below meth c G A H locs lsA F S L)
theorem B_if_le {x0 : Int32} {off : Int} {tgt : Nat} {c : Prop} [Decidable c] {o1 o2 : Option α} (hd : decode cc pc = .ok (.ifCond .le off, 3)) (ht : (pc : Int) + off = (tgt : Int)) (hc : (x0 ≤ 0) ↔ ¬ c) (kt : ¬ c → B X D own cc nL rt φ tgt ls st h o2) (kf : c → B X D own cc nL rt φ (pc + 3) ls st h o1) : B X D own cc nL rt φ pc ls (.int x0 :: st) h (if c then o1 else o2) := by
  intro x hx p l e s m args below meth c_ G A H locs lsA F S L
  refine lv_if_le F.1 F.2.1 hd ht (fun q => ?_) (fun q => ?_)
  · have n := hc.mp q
    rw [if_neg n] at hx
    exact kt n x hx p l e s m args below meth c_ G A H locs lsA F S L
  · have n : c := Decidable.not_not.mp fun z => q (hc.mpr z)
    rw [if_pos n] at hx
    exact kf n x hx p l e s m args below meth c_ G A H locs lsA F S L
theorem B_if_le_s {x0 : Int32} {off : Int} {tgt : Nat} (hd : decode cc pc = .ok (.ifCond .le off, 3)) (ht : (pc : Int) + off = (tgt : Int)) (kt : x0 ≤ 0 → B X D own cc nL rt φ tgt ls st h o) (kf : ¬ (x0 ≤ 0) → B X D own cc nL rt φ (pc + 3) ls st h o) : B X D own cc nL rt φ pc ls (.int x0 :: st) h o := by
  intro x hx p l e s m args below meth c G A H locs lsA F S L
  exact lv_if_le F.1 F.2.1 hd ht (fun q => kt q x hx p l e s m args below meth c G A H locs lsA F S L) (fun q => kf q x hx p l e s m args below meth c G A H locs lsA F S L)
theorem B_ireturn {v : Int32} {x : α} (hd : decode cc pc = .ok (.ireturn, 1)) (hr : rt = some .int) (e : φ x = (some (.int v), h)) : B X D own cc nL rt φ pc ls [.int v] h (some x) := by
  intro x2 hx p l e1 s m args below meth c G A H locs lsA F S L
  cases hx
  rw [e]
  exact W.iret F.1 F.2.1 (F.2.2.2.2.2.1.trans hr) (fun t ht hW => ⟨rfl, by rw [ht]; exact S.2.1, S.2.2.2.2.1.F ht, S.2.2.2.2.2.2.2.2⟩) S.2.2.2.2.1.2.2 hd F.2.2.2.2.2.2
theorem B_zreturn {v : Int32} {x : α} (hd : decode cc pc = .ok (.ireturn, 1)) (hr : rt = some .boolean) (hv : narrow .boolean (.int v) = .int v) (e : φ x = (some (.int v), h)) : B X D own cc nL rt φ pc ls [.int v] h (some x) := by
  intro x2 hx p l e1 s m args below meth c G A H locs lsA F S L
  cases hx
  rw [e]
  exact W.zret F.1 F.2.1 (F.2.2.2.2.2.1.trans hr) hv (fun t ht hW => ⟨rfl, by rw [ht]; exact S.2.1, S.2.2.2.2.1.F ht, S.2.2.2.2.2.2.2.2⟩) S.2.2.2.2.1.2.2 hd F.2.2.2.2.2.2
theorem B_lreturn {v : Int64} {x : α} (hd : decode cc pc = .ok (.lreturn, 1)) (hr : rt = some .long) (e : φ x = (some (.long v), h)) : B X D own cc nL rt φ pc ls [.long v] h (some x) := by
  intro x2 hx p l e1 s m args below meth c G A H locs lsA F S L
  cases hx
  rw [e]
  exact W.lret F.1 F.2.1 (F.2.2.2.2.2.1.trans hr) (fun t ht hW => ⟨rfl, by rw [ht]; exact S.2.1, S.2.2.2.2.1.F ht, S.2.2.2.2.2.2.2.2⟩) S.2.2.2.2.1.2.2 hd F.2.2.2.2.2.2
theorem B_return {x : α} (hd : decode cc pc = .ok (.return_, 1)) (hr : rt = none) (e : φ x = (none, h)) : B X D own cc nL rt φ pc ls [] h (some x) := by
  intro x2 hx p l e1 s m args below meth c G A H locs lsA F S L
  cases hx
  rw [e]
  exact W.vret F.1 F.2.1 (F.2.2.2.2.2.1.trans hr) (fun t ht hW => ⟨rfl, by rw [ht]; exact S.2.1, S.2.2.2.2.1.F ht, S.2.2.2.2.2.2.2.2⟩) S.2.2.2.2.1.2.2 hd F.2.2.2.2.2.2
end BI
