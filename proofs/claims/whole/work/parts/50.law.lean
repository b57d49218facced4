/-! the law: two worlds, a row of one long, the script -/
def LWd (GC GM : dG) (qo : Nat) (s : State) (hC hM : dH) (ov : Nat → Int64) (H : Heap) (locs : List Loc) : Prop :=
  dSt XC GC (fun q : Nat => s.heap.size ≤ q) s hC H locs ∧ dSt XM GM (fun q : Nat => s.heap.size ≤ q) s hM H locs ∧ (GM.1 = GC.1 ∧ GM.2.1 = GC.2.1) ∧ (H[qo]? = some (vp_cell (GC.2.1 3) (1, .inr (.inl ov))) ∧ s.heap.size ≤ qo) ∧
  (∀ i j : Nat, i < 86 → j < 24 → GC.2.2 i ≠ GM.2.2 j) ∧ (∀ i : Nat, i < 86 → GC.2.2 i ≠ qo) ∧ (∀ j : Nat, j < 24 → GM.2.2 j ≠ qo)
def lvv (b : Nat) (GC GM : dG) (qo : Nat) : Value → Value
  | .ref 0 => .ref b
  | .ref 1 => .ref (GC.2.2 0)
  | .ref 2 => .ref (GM.2.2 0)
  | .ref _ => .ref qo
  | v => v
theorem lvv_cat (b : Nat) (GC GM : dG) (qo : Nat) (v : Value) : (lvv b GC GM qo v).category = v.category := by
  cases v with
  | ref k =>
    match k with
    | 0 => rfl
    | 1 => rfl
    | 2 => rfl
    | k + 3 => rfl
  | _ => rfl
theorem lvv_wd (b : Nat) (GC GM : dG) (qo : Nat) (st : List Value) : ((st.map (lvv b GC GM qo)).map fun v => v.category).sum = dwd st := by
  unfold dwd
  rw [List.map_map]
  congr 1
  apply List.map_congr_left
  intro v _
  exact lvv_cat b GC GM qo v
def LB (l : Launch) (b L : Nat) (xs : Nat → Int32) (n pc : Nat) (i : Int32) (st : List Value) (hC hM : dH) : Prop :=
  ∀ (p : Program) (e : Env) (s : State) (m : MethodId) (below : List Frame) (meth : Method) (c : Code) (GC GM : dG) (qo : Nat) (ov : Nat → Int64) (H : Heap) (locs : List Loc) (lsA : Array Slot) (cells slots : Nat),
    lw_At p s m meth c b L xs → LWd GC GM qo s hC hM ov H locs → lv_has lsA 7 [(4, .int i), (0, .ref b), (1, .ref (GC.2.2 0)), (2, .ref (GM.2.2 0)), (3, .ref qo)] → (cells ≤ 200 + n ∧ n ≤ 600) → slots ≤ 40000 + 6 * n →
    W p l e room_1 s m #[Value.ref b] below meth c H locs cells slots (lw_Z below #[Value.ref b] s) (F0 m pc lsA (st.map (lvv b GC GM qo)))
section LW
variable {l : Launch} {b L : Nat} {xs : Nat → Int32} {n pc : Nat} {i : Int32} {st : List Value} {hC hM : dH}
theorem L_aload0 (hd : decode code pc = .ok (.aload_n 0, 1)) (k : LB l b L xs n (pc + 1) i (.ref 0 :: st) hC hM) : LB l b L xs n pc i st hC hM := by
  intro p e s m below meth c GC GM qo ov H locs lsA cells slots C0 Wd hl hc hs
  exact lv_aload_n C0.1 C0.2.1 hd rfl (lv_at hl 1 rfl) (k p e s m below meth c GC GM qo ov H locs lsA cells slots C0 Wd hl hc hs)
theorem L_aload1 (hd : decode code pc = .ok (.aload_n 1, 1)) (k : LB l b L xs n (pc + 1) i (.ref 1 :: st) hC hM) : LB l b L xs n pc i st hC hM := by
  intro p e s m below meth c GC GM qo ov H locs lsA cells slots C0 Wd hl hc hs
  exact lv_aload_n C0.1 C0.2.1 hd rfl (lv_at hl 2 rfl) (k p e s m below meth c GC GM qo ov H locs lsA cells slots C0 Wd hl hc hs)
theorem L_aload2 (hd : decode code pc = .ok (.aload_n 2, 1)) (k : LB l b L xs n (pc + 1) i (.ref 2 :: st) hC hM) : LB l b L xs n pc i st hC hM := by
  intro p e s m below meth c GC GM qo ov H locs lsA cells slots C0 Wd hl hc hs
  exact lv_aload_n C0.1 C0.2.1 hd rfl (lv_at hl 3 rfl) (k p e s m below meth c GC GM qo ov H locs lsA cells slots C0 Wd hl hc hs)
theorem L_aload3 (hd : decode code pc = .ok (.aload_n 3, 1)) (k : LB l b L xs n (pc + 1) i (.ref 3 :: st) hC hM) : LB l b L xs n pc i st hC hM := by
  intro p e s m below meth c GC GM qo ov H locs lsA cells slots C0 Wd hl hc hs
  exact lv_aload_n C0.1 C0.2.1 hd rfl (lv_at hl 4 rfl) (k p e s m below meth c GC GM qo ov H locs lsA cells slots C0 Wd hl hc hs)
theorem L_iload4 (hd : decode code pc = .ok (.iload 4, 2)) (k : LB l b L xs n (pc + 2) i (.int i :: st) hC hM) : LB l b L xs n pc i st hC hM := by
  intro p e s m below meth c GC GM qo ov H locs lsA cells slots C0 Wd hl hc hs
  exact lv_iload C0.1 C0.2.1 hd (lv_at hl 0 rfl) (k p e s m below meth c GC GM qo ov H locs lsA cells slots C0 Wd hl hc hs)
theorem L_iconst {v0 : Int} {v : Int32} (hd : decode code pc = .ok (.iconst v0, 1)) (hv : Int32.ofInt v0 = v) (k : LB l b L xs n (pc + 1) i (.int v :: st) hC hM) : LB l b L xs n pc i st hC hM := by
  intro p e s m below meth c GC GM qo ov H locs lsA cells slots C0 Wd hl hc hs
  exact lv_iconst C0.1 C0.2.1 hd hv (k p e s m below meth c GC GM qo ov H locs lsA cells slots C0 Wd hl hc hs)
theorem L_bipush {v0 : Int} {v : Int32} (hd : decode code pc = .ok (.bipush v0, 2)) (hv : (Int8.ofInt v0).toInt32 = v) (k : LB l b L xs n (pc + 2) i (.int v :: st) hC hM) : LB l b L xs n pc i st hC hM := by
  intro p e s m below meth c GC GM qo ov H locs lsA cells slots C0 Wd hl hc hs
  exact lv_bipush C0.1 C0.2.1 hd hv (k p e s m below meth c GC GM qo ov H locs lsA cells slots C0 Wd hl hc hs)
theorem L_iadd {x y : Int32} (hd : decode code pc = .ok (.iadd, 1)) (k : LB l b L xs n (pc + 1) i (.int (x + y) :: st) hC hM) : LB l b L xs n pc i (.int y :: .int x :: st) hC hM := by
  intro p e s m below meth c GC GM qo ov H locs lsA cells slots C0 Wd hl hc hs
  exact lv_iadd C0.1 C0.2.1 hd (k p e s m below meth c GC GM qo ov H locs lsA cells slots C0 Wd hl hc hs)
theorem L_isub {x y : Int32} (hd : decode code pc = .ok (.isub, 1)) (k : LB l b L xs n (pc + 1) i (.int (x - y) :: st) hC hM) : LB l b L xs n pc i (.int y :: .int x :: st) hC hM := by
  intro p e s m below meth c GC GM qo ov H locs lsA cells slots C0 Wd hl hc hs
  exact lv_isub C0.1 C0.2.1 hd (k p e s m below meth c GC GM qo ov H locs lsA cells slots C0 Wd hl hc hs)
theorem L_iand {x y : Int32} (hd : decode code pc = .ok (.iand, 1)) (k : LB l b L xs n (pc + 1) i (.int (x &&& y) :: st) hC hM) : LB l b L xs n pc i (.int y :: .int x :: st) hC hM := by
  intro p e s m below meth c GC GM qo ov H locs lsA cells slots C0 Wd hl hc hs
  exact lv_iand C0.1 C0.2.1 hd (k p e s m below meth c GC GM qo ov H locs lsA cells slots C0 Wd hl hc hs)
theorem L_i2l {x : Int32} (hd : decode code pc = .ok (.i2l, 1)) (k : LB l b L xs n (pc + 1) i (.long x.toInt64 :: st) hC hM) : LB l b L xs n pc i (.int x :: st) hC hM := by
  intro p e s m below meth c GC GM qo ov H locs lsA cells slots C0 Wd hl hc hs
  exact lv_i2l C0.1 C0.2.1 hd rfl (k p e s m below meth c GC GM qo ov H locs lsA cells slots C0 Wd hl hc hs)
theorem L_lshl {x : Int64} {y : Int32} (hd : decode code pc = .ok (.lshl, 1)) (k : LB l b L xs n (pc + 1) i (.long (x <<< (y.toInt64 &&& 63)) :: st) hC hM) : LB l b L xs n pc i (.int y :: .long x :: st) hC hM := by
  intro p e s m below meth c GC GM qo ov H locs lsA cells slots C0 Wd hl hc hs
  exact lv_lshl C0.1 C0.2.1 hd rfl (k p e s m below meth c GC GM qo ov H locs lsA cells slots C0 Wd hl hc hs)
theorem L_land {x y : Int64} (hd : decode code pc = .ok (.land, 1)) (k : LB l b L xs n (pc + 1) i (.long (x &&& y) :: st) hC hM) : LB l b L xs n pc i (.long y :: .long x :: st) hC hM := by
  intro p e s m below meth c GC GM qo ov H locs lsA cells slots C0 Wd hl hc hs
  exact lv_land C0.1 C0.2.1 hd (k p e s m below meth c GC GM qo ov H locs lsA cells slots C0 Wd hl hc hs)
theorem L_lor {x y : Int64} (hd : decode code pc = .ok (.lor, 1)) (k : LB l b L xs n (pc + 1) i (.long (x ||| y) :: st) hC hM) : LB l b L xs n pc i (.long y :: .long x :: st) hC hM := by
  intro p e s m below meth c GC GM qo ov H locs lsA cells slots C0 Wd hl hc hs
  exact lv_lor C0.1 C0.2.1 hd (k p e s m below meth c GC GM qo ov H locs lsA cells slots C0 Wd hl hc hs)
theorem L_ldc2 {idx : Nat} {v : Int64} (hd : decode code pc = .ok (.ldc2_w idx, 3)) (hcw : Cond.constantLong R_law idx v ∈ lw_tbl) (k : LB l b L xs n (pc + 3) i (.long v :: st) hC hM) : LB l b L xs n pc i st hC hM := by
  intro p e s m below meth c GC GM qo ov H locs lsA cells slots C0 Wd hl hc hs
  exact lv_ldc2 C0.1 C0.2.1 C0.2.2.2.2.1 (C0.2.2.2.2.2.1 _ hcw) hd (k p e s m below meth c GC GM qo ov H locs lsA cells slots C0 Wd hl hc hs)
theorem L_goto {off : Int} {tgt : Nat} (hd : decode code pc = .ok (.goto off, 3)) (ht : (pc : Int) + off = (tgt : Int)) (k : LB l b L xs n tgt i st hC hM) : LB l b L xs n pc i st hC hM := by
  intro p e s m below meth c GC GM qo ov H locs lsA cells slots C0 Wd hl hc hs
  exact lv_goto C0.1 C0.2.1 hd ht (k p e s m below meth c GC GM qo ov H locs lsA cells slots C0 Wd hl hc hs)
theorem L_icmp_eq {x y : Int32} {off : Int} {tgt : Nat} (hd : decode code pc = .ok (.if_icmp .eq off, 3)) (ht : (pc : Int) + off = (tgt : Int)) (kt : x = y → LB l b L xs n tgt i st hC hM) (kf : ¬ x = y → LB l b L xs n (pc + 3) i st hC hM) : LB l b L xs n pc i (.int y :: .int x :: st) hC hM := by
  intro p e s m below meth c GC GM qo ov H locs lsA cells slots C0 Wd hl hc hs
  exact lv_icmp_eq C0.1 C0.2.1 hd ht (fun q => kt q p e s m below meth c GC GM qo ov H locs lsA cells slots C0 Wd hl hc hs) (fun q => kf q p e s m below meth c GC GM qo ov H locs lsA cells slots C0 Wd hl hc hs)
theorem L_icmp_gt {x y : Int32} {off : Int} {tgt : Nat} (hd : decode code pc = .ok (.if_icmp .gt off, 3)) (ht : (pc : Int) + off = (tgt : Int)) (kt : y < x → LB l b L xs n tgt i st hC hM) (kf : ¬ y < x → LB l b L xs n (pc + 3) i st hC hM) : LB l b L xs n pc i (.int y :: .int x :: st) hC hM := by
  intro p e s m below meth c GC GM qo ov H locs lsA cells slots C0 Wd hl hc hs
  exact lv_icmp_gt C0.1 C0.2.1 hd ht (fun q => kt q p e s m below meth c GC GM qo ov H locs lsA cells slots C0 Wd hl hc hs) (fun q => kf q p e s m below meth c GC GM qo ov H locs lsA cells slots C0 Wd hl hc hs)
theorem L_if_eq {x : Int32} {off : Int} {tgt : Nat} (hd : decode code pc = .ok (.ifCond .eq off, 3)) (ht : (pc : Int) + off = (tgt : Int)) (kt : x = 0 → LB l b L xs n tgt i st hC hM) (kf : ¬ x = 0 → LB l b L xs n (pc + 3) i st hC hM) : LB l b L xs n pc i (.int x :: st) hC hM := by
  intro p e s m below meth c GC GM qo ov H locs lsA cells slots C0 Wd hl hc hs
  exact lv_if_eq C0.1 C0.2.1 hd ht (fun q => kt q p e s m below meth c GC GM qo ov H locs lsA cells slots C0 Wd hl hc hs) (fun q => kf q p e s m below meth c GC GM qo ov H locs lsA cells slots C0 Wd hl hc hs)
theorem L_sld {j : Int32} (hd : decode code pc = .ok (.iaload, 1)) (hin : dIn j L) (k : LB l b L xs n (pc + 1) i (.int (xs (dI j)) :: st) hC hM) : LB l b L xs n pc i (.int j :: .ref 0 :: st) hC hM := by
  intro p e s m below meth c GC GM qo ov H locs lsA cells slots C0 Wd hl hc hs
  exact va_sld (A := fun q : Nat => s.heap.size ≤ q) C0.1 C0.2.1 C0.2.2.2.2.2.2.1 C0.2.2.2.2.2.2.2.1 (Nat.not_le.mpr C0.2.2.2.2.2.2.2.1) Wd.1.2.2.2.2.1 (dIn_vp hin) hd (k p e s m below meth c GC GM qo ov H locs lsA cells slots C0 Wd hl hc hs)
theorem L_slen (hd : decode code pc = .ok (.arraylength, 1)) (k : LB l b L xs n (pc + 1) i (.int (Int32.ofNat L) :: st) hC hM) : LB l b L xs n pc i (.ref 0 :: st) hC hM := by
  intro p e s m below meth c GC GM qo ov H locs lsA cells slots C0 Wd hl hc hs
  exact va_slen (A := fun q : Nat => s.heap.size ≤ q) C0.1 C0.2.1 C0.2.2.2.2.2.2.1 C0.2.2.2.2.2.2.2.1 (Nat.not_le.mpr C0.2.2.2.2.2.2.2.1) Wd.1.2.2.2.2.1 hd (k p e s m below meth c GC GM qo ov H locs lsA cells slots C0 Wd hl hc hs)
theorem L_iinc {v : Int32} (hd : decode code pc = .ok (.iinc 4 6, 3)) (hv : i + Int32.ofInt 6 = v) (k : LB l b L xs n (pc + 3) v st hC hM) : LB l b L xs n pc i st hC hM := by
  intro p e s m below meth c GC GM qo ov H locs lsA cells slots C0 Wd hl hc hs
  exact lv_iinc (v := v) (lv' := [(4, .int v), (0, .ref b), (1, .ref (GC.2.2 0)), (2, .ref (GM.2.2 0)), (3, .ref qo)]) C0.1 C0.2.1 hd hl (k := 0) rfl hv (by decide) rfl (fun lsB hl2 => k p e s m below meth c GC GM qo ov H locs lsB cells slots C0 Wd hl2 hc hs)
theorem L_tswIn {dflt lo hi off : Int} {offs : Array Int} {len tgt : Nat} {v : Int32} (hd : decode code pc = .ok (.tableswitch dflt lo hi offs, len)) (h1 : ¬ v.toInt < lo) (h2 : ¬ hi < v.toInt) (ho : offs[(v.toInt - lo).toNat]? = some off) (ht : (pc : Int) + off = (tgt : Int)) (k : LB l b L xs n tgt i st hC hM) : LB l b L xs n pc i (.int v :: st) hC hM := by
  intro p e s m below meth c GC GM qo ov H locs lsA cells slots C0 Wd hl hc hs
  exact lv_tableIn C0.1 C0.2.1 hd h1 h2 ho ht (k p e s m below meth c GC GM qo ov H locs lsA cells slots C0 Wd hl hc hs)
theorem L_tswOut {dflt lo hi : Int} {offs : Array Int} {len tgt : Nat} {v : Int32} (hd : decode code pc = .ok (.tableswitch dflt lo hi offs, len)) (hh : v.toInt < lo ∨ hi < v.toInt) (ht : (pc : Int) + dflt = (tgt : Int)) (k : LB l b L xs n tgt i st hC hM) : LB l b L xs n pc i (.int v :: st) hC hM := by
  intro p e s m below meth c GC GM qo ov H locs lsA cells slots C0 Wd hl hc hs
  exact lv_tableOut C0.1 C0.2.1 hd hh ht (k p e s m below meth c GC GM qo ov H locs lsA cells slots C0 Wd hl hc hs)
theorem L_end (hd : decode code pc = .ok (.ireturn, 1)) : LB l b L xs n pc i [.int 1] hC hM := by
  intro p e s m below meth c GC GM qo ov H locs lsA cells slots C0 Wd hl hc hs
  refine va_forget (fun q hq => Wd.1.2.2.2.2.1.2.2 q hq) ?_
  refine W.widen (k := 601024) (n := 7293034) (by omega) (by omega) ?_
  exact lw_ret C0.1 C0.2.1 C0.2.2.1 C0.2.2.2.2.2.2.2.2.1 hd
theorem LB_more {n' : Nat} (hn : n ≤ n') (hn2 : n' ≤ 600) (k : LB l b L xs n' pc i st hC hM) : LB l b L xs n pc i st hC hM := by
  intro p e s m below meth c GC GM qo ov H locs lsA cells slots C0 Wd hl hc hs
  exact k p e s m below meth c GC GM qo ov H locs lsA cells slots C0 Wd hl (by omega) (by omega)
/-- no reference among them -/
def dPl : List Value → Bool
  | [] => true
  | .ref _ :: _ => false
  | _ :: t => dPl t
theorem dPl_map : ∀ (as : List Value) (b : Nat) (G GC GM : dG) (qo : Nat), dPl as = true → as.map (dv G) = as.map (lvv b GC GM qo)
  | [], _, _, _, _, _, _ => rfl
  | v :: t, b, G, GC, GM, qo, h => by
    cases v with
    | ref k => cases h
    | _ => rw [List.map_cons, List.map_cons, dPl_map t b G GC GM qo h]; rfl
theorem lw_ts {p : Program} {s : State} {m : MethodId} {meth : Method} {c : Code} (C0 : lw_At p s m meth c b L xs) : ∀ w ∈ dWs, w.before #[Value.ref b] s = true := fun w hw => C0.2.2.2.2.2.1 w (List.mem_filter.mp hw).1
theorem lRoom {D' ny : Nat} (hD : D' ≤ 1000) (hn : ny ≤ 41) : (dRm D').frames + 1 ≤ room_1.frames ∧ 8 + (ny + 11) + (dRm D').locals ≤ room_1.locals := by
  refine ⟨show D' + 1 ≤ 2048 by omega, ?_⟩
  show 8 + (ny + 11) + 60 * D' ≤ 84000
  omega
/-- cells that a call has not touched -/
theorem dP_kept {X : dX} {G : dG} {h : dH} {H H1 : Heap} {B : Nat → Prop} (hP : va_P G.1 vwCl (dW X G h) H) (hk : ∀ q : Nat, q < H.size → ¬ B q → H1[q]? = H[q]?) (hB : ∀ j, j < X.1.length → ¬ B (G.2.2 j)) : va_P G.1 vwCl (dW X G h) H1 := by
  intro k q hq
  have h1 := hP k q hq
  unfold dW at hq
  rw [List.getElem?_mapIdx] at hq
  cases hx : X.1[k]? with
  | none => rw [hx] at hq; cases hq
  | some z =>
    rw [hx] at hq
    cases hq
    exact h1.kept (hk _ h1.lt (hB k (List.getElem?_eq_some_iff.mp hx).1))
section LC
variable {β : Type} {D' : Nat} {ψ : β → Option Value × dH} {ob : Option β} {as st0 : List Value} {y : MethodName} {cy : ByteArray} {ny na idx : Nat} {ry : Option FieldType}
theorem L_callC {z : β} (hd : decode code pc = .ok (.invokevirtual idx, 3)) (hc : dCV R_law idx y cy ny ry na 11) (hT : T XC D' y cy ny ry ψ (.ref 0 :: as) hC ob) (hz : ob = some z) (hD : D' ≤ 1000) (hn : as.length = na) (hst : st0 = as.reverse ++ .ref 1 :: st) (hp : dPl as = true) (hw : dwd st ≤ 8) (hr : dPl ((ψ z).1.toList) = true)
    (k : LB l b L xs n (pc + 3) i ((ψ z).1.toList ++ st) (ψ z).2 hM) : LB l b L xs n pc i st0 hC hM := by
  intro p e s m below meth c GC GM qo ov H locs lsA cells slots C0 Wd hl hcl hsl
  obtain ⟨c1, ⟨m1, m2, m3, m4⟩, hv, q, c4, c5⟩ := hc
  have hts := lw_ts C0
  obtain ⟨W1, W2, W3, W4, W5, W6, W7⟩ := id Wd
  have hpre := dPre (p := p) (m := m) (meth := meth) (c := c) (args := #[Value.ref b]) (as := .ref 0 :: as) W1
  have eas := dPl_map as b GC GC GM qo hp
  have hrun := va_runV (e := e) (As := as.map (dv GC)) (rest := st.map (lvv b GC GM qo)) (b := GC.2.2 0) (g := F0 m pc lsA (st0.map (lvv b GC GM qo))) (C := y.cls) (R := room_1) (cells := cells) (slots := slots) (locs := locs) (below := below) (meth := meth) ⟨C0.1, C0.2.1, C0.2.2.2.1, C0.2.2.2.2.1, hts⟩ (hT z hz l GC H.size)
    (⟨callB_of na hts (dGood y cy ny ry m1) rfl rfl rfl (hts _ m2) (hts _ c1) m3 (lRoom hD m4), hts _ hv.1, hts _ hv.2⟩ : CallW room_1 s #[Value.ref b] R_law y.cls idx y cy ny ry _ _ 0 0 na)
    ⟨hpre.1, by rw [← c5]; exact va_recv W1.1 W1.2.1 c4 (dW_get shC_0), hpre.2⟩ rfl (by rw [List.length_map]; exact hn) hl.1 (by subst hst; show List.map (lvv b GC GM qo) _ = _; rw [List.map_append, List.map_reverse, ← eas]; rfl) (by rw [lvv_wd]; show 2 * 0 + dwd st ≤ 8; omega) hd ⟨by show cells + 0 ≤ 601024; omega, by show slots + 0 ≤ 7293034; omega⟩
  obtain ⟨S1, S2, S3, S4, S5, S6, S7, S8, S9⟩ := W1
  obtain ⟨M1, M2, M3, M4, M5, M6, M7, M8, M9⟩ := W2
  have hAA : ∀ q, dA XC GC H.size q → s.heap.size ≤ q := by
    rintro q (⟨k, hk, rfl⟩ | hq)
    · exact S4 k hk
    · exact S7 q (Nat.le_trans S5.1 hq)
  intro U hU XX
  obtain ⟨v, st₀, t, U', LL, h0, X', hL, e1, e2, ⟨hvv, hP, ⟨hz1, hk⟩, hex⟩, stp⟩ := hrun U hU XX
  rw [h0] at hz1 hk
  have hv2 : v = (ψ z).1.map (dv GC) := by cases hvv; rfl
  have hk1 : ∀ q : Nat, q < H.size → ¬ dA XC GC H.size q → U'.heap[q]? = H[q]? := fun q g1 g2 => by rw [e1]; exact hk q g1 g2
  have hSS : va_S (fun q : Nat => s.heap.size ≤ q) s.heap U'.heap (locs ++ LL) := ⟨Nat.le_trans S5.1 (by rw [e1]; exact hz1), fun q g1 g2 => by rw [hk1 q (Nat.lt_of_lt_of_le g1 S5.1) (fun w => g2 (hAA q w))]; exact S5.2.1 q g1 g2, fun q hq => by
      rcases List.mem_append.mp hq with w | w
      · exact S5.2.2 q w
      · exact hAA _ (hL q w)⟩
  have hqo : qo < H.size := (Array.getElem?_eq_some_iff.mp W4.1).1
  have nB : ∀ q, q < H.size → (∀ k, k < 86 → q ≠ GC.2.2 k) → ¬ dA XC GC H.size q := by
    rintro q g1 g2 (⟨k, hk, rfl⟩ | g3)
    · exact g2 k hk rfl
    · omega
  have Wd2 : LWd GC GM qo s (ψ z).2 hM ov U'.heap (locs ++ LL) := by
    refine ⟨⟨S1, by rw [e1]; exact hP, S3, S4, hSS, S6, S7, S8, hex⟩, ⟨M1, ?_, M3, M4, hSS, M6, M7, M8, M9⟩, W3, ⟨?_, W4.2⟩, W5, W6, W7⟩
    · refine dP_kept M2 hk1 (fun j hj => ?_)
      have hlt : GM.2.2 j < H.size := (M2 j _ (dW_get (List.getElem?_eq_getElem hj))).lt
      exact nB _ hlt (fun k hk e => W5 k j hk hj e.symm)
    · rw [hk1 qo hqo (nB qo hqo (fun k hk e => W6 k hk e.symm))]
      exact W4.1
  obtain ⟨t2, a1, b1⟩ := k p e s m below meth c GC GM qo ov U'.heap (locs ++ LL) lsA (cells + 0) (slots + 0) C0 Wd2 hl hcl hsl U' rfl X'
  refine ⟨t2, stp t2 ?_, b1⟩
  have e3 : ((ψ z).1.toList ++ st).map (lvv b GC GM qo) = v.toList ++ st.map (lvv b GC GM qo) := by
    rw [List.map_append, ← dPl_map _ b GC GC GM qo hr, hv2]
    cases (ψ z).1 <;> rfl
  rw [e3] at a1
  exact a1
theorem L_callM {z : β} (hd : decode code pc = .ok (.invokevirtual idx, 3)) (hc : dCV R_law idx y cy ny ry na 12) (hT : T XM D' y cy ny ry ψ (.ref 0 :: as) hM ob) (hz : ob = some z) (hD : D' ≤ 1000) (hn : as.length = na) (hst : st0 = as.reverse ++ .ref 2 :: st) (hp : dPl as = true) (hw : dwd st ≤ 8) (hr : dPl ((ψ z).1.toList) = true)
    (k : LB l b L xs n (pc + 3) i ((ψ z).1.toList ++ st) hC (ψ z).2) : LB l b L xs n pc i st0 hC hM := by
  intro p e s m below meth c GC GM qo ov H locs lsA cells slots C0 Wd hl hcl hsl
  obtain ⟨c1, ⟨m1, m2, m3, m4⟩, hv, q, c4, c5⟩ := hc
  have hts := lw_ts C0
  obtain ⟨W1, W2, W3, W4, W5, W6, W7⟩ := id Wd
  have hpre := dPre (p := p) (m := m) (meth := meth) (c := c) (args := #[Value.ref b]) (as := .ref 0 :: as) W2
  have eas := dPl_map as b GM GC GM qo hp
  have hrun := va_runV (e := e) (As := as.map (dv GM)) (rest := st.map (lvv b GC GM qo)) (b := GM.2.2 0) (g := F0 m pc lsA (st0.map (lvv b GC GM qo))) (C := y.cls) (R := room_1) (cells := cells) (slots := slots) (locs := locs) (below := below) (meth := meth) ⟨C0.1, C0.2.1, C0.2.2.2.1, C0.2.2.2.2.1, hts⟩ (hT z hz l GM H.size)
    (⟨callB_of na hts (dGood y cy ny ry m1) rfl rfl rfl (hts _ m2) (hts _ c1) m3 (lRoom hD m4), hts _ hv.1, hts _ hv.2⟩ : CallW room_1 s #[Value.ref b] R_law y.cls idx y cy ny ry _ _ 0 0 na)
    ⟨hpre.1, by rw [← c5]; exact va_recv W2.1 W2.2.1 c4 (dW_get shM_0), hpre.2⟩ rfl (by rw [List.length_map]; exact hn) hl.1 (by subst hst; show List.map (lvv b GC GM qo) _ = _; rw [List.map_append, List.map_reverse, ← eas]; rfl) (by rw [lvv_wd]; show 2 * 0 + dwd st ≤ 8; omega) hd ⟨by show cells + 0 ≤ 601024; omega, by show slots + 0 ≤ 7293034; omega⟩
  obtain ⟨S1, S2, S3, S4, S5, S6, S7, S8, S9⟩ := W2
  obtain ⟨M1, M2, M3, M4, M5, M6, M7, M8, M9⟩ := W1
  have hAA : ∀ q, dA XM GM H.size q → s.heap.size ≤ q := by
    rintro q (⟨k, hk, rfl⟩ | hq)
    · exact S4 k hk
    · exact S7 q (Nat.le_trans S5.1 hq)
  intro U hU XX
  obtain ⟨v, st₀, t, U', LL, h0, X', hL, e1, e2, ⟨hvv, hP, ⟨hz1, hk⟩, hex⟩, stp⟩ := hrun U hU XX
  rw [h0] at hz1 hk
  have hv2 : v = (ψ z).1.map (dv GM) := by cases hvv; rfl
  have hk1 : ∀ q : Nat, q < H.size → ¬ dA XM GM H.size q → U'.heap[q]? = H[q]? := fun q g1 g2 => by rw [e1]; exact hk q g1 g2
  have hSS : va_S (fun q : Nat => s.heap.size ≤ q) s.heap U'.heap (locs ++ LL) := ⟨Nat.le_trans S5.1 (by rw [e1]; exact hz1), fun q g1 g2 => by rw [hk1 q (Nat.lt_of_lt_of_le g1 S5.1) (fun w => g2 (hAA q w))]; exact S5.2.1 q g1 g2, fun q hq => by
      rcases List.mem_append.mp hq with w | w
      · exact S5.2.2 q w
      · exact hAA _ (hL q w)⟩
  have hqo : qo < H.size := (Array.getElem?_eq_some_iff.mp W4.1).1
  have nB : ∀ q, q < H.size → (∀ k, k < 24 → q ≠ GM.2.2 k) → ¬ dA XM GM H.size q := by
    rintro q g1 g2 (⟨k, hk, rfl⟩ | g3)
    · exact g2 k hk rfl
    · omega
  have Wd2 : LWd GC GM qo s hC (ψ z).2 ov U'.heap (locs ++ LL) := by
    refine ⟨⟨M1, ?_, M3, M4, hSS, M6, M7, M8, M9⟩, ⟨S1, by rw [e1]; exact hP, S3, S4, hSS, S6, S7, S8, hex⟩, W3, ⟨?_, W4.2⟩, W5, W6, W7⟩
    · refine dP_kept M2 hk1 (fun j hj => ?_)
      have hlt : GC.2.2 j < H.size := (M2 j _ (dW_get (List.getElem?_eq_getElem hj))).lt
      exact nB _ hlt (fun k hk e => W5 j k hj hk e)
    · rw [hk1 qo hqo (nB qo hqo (fun k hk e => W7 k hk e.symm))]
      exact W4.1
  obtain ⟨t2, a1, b1⟩ := k p e s m below meth c GC GM qo ov U'.heap (locs ++ LL) lsA (cells + 0) (slots + 0) C0 Wd2 hl hcl hsl U' rfl X'
  refine ⟨t2, stp t2 ?_, b1⟩
  have e3 : ((ψ z).1.toList ++ st).map (lvv b GC GM qo) = v.toList ++ st.map (lvv b GC GM qo) := by
    rw [List.map_append, ← dPl_map _ b GM GC GM qo hr, hv2]
    cases (ψ z).1 <;> rfl
  rw [e3] at a1
  exact a1
end LC
end LW
