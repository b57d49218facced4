/-! the law with its locals 5 and 6, and what is known of out's cell -/
def LE (l : Launch) (b L : Nat) (xs : Nat → Int32) (n : Nat) (ex : List (Nat × Value)) (Po : (Nat → Int64) → Prop) (pc : Nat) (i : Int32) (st : List Value) (hC hM : dH) : Prop :=
  ∀ (p : Program) (e : Env) (s : State) (m : MethodId) (below : List Frame) (meth : Method) (c : Code) (GC GM : dG) (qo : Nat) (ov : Nat → Int64) (H : Heap) (locs : List Loc) (lsA : Array Slot) (cells slots : Nat),
    lw_At p s m meth c b L xs → LWd GC GM qo s hC hM ov H locs → lv_has lsA 7 ((4, .int i) :: (0, .ref b) :: (1, .ref (GC.2.2 0)) :: (2, .ref (GM.2.2 0)) :: (3, .ref qo) :: ex) → Po ov → (cells ≤ 200 + n ∧ n ≤ 600) → slots ≤ 40000 + 6 * n →
    W p l e room_1 s m #[Value.ref b] below meth c H locs cells slots (lw_Z below #[Value.ref b] s) (F0 m pc lsA (st.map (lvv b GC GM qo)))
section LEW
variable {l : Launch} {b L : Nat} {xs : Nat → Int32} {n pc : Nat} {i : Int32} {st : List Value} {hC hM : dH} {ex : List (Nat × Value)} {Po : (Nat → Int64) → Prop}
theorem E_aload0 (hd : decode code pc = .ok (.aload_n 0, 1)) (k : LE l b L xs n ex Po (pc + 1) i (.ref 0 :: st) hC hM) : LE l b L xs n ex Po pc i st hC hM := by
  intro p e s m below meth c GC GM qo ov H locs lsA cells slots C0 Wd hl hpo hc hs
  exact lv_aload_n C0.1 C0.2.1 hd rfl (lv_at hl 1 rfl) (k p e s m below meth c GC GM qo ov H locs lsA cells slots C0 Wd hl hpo hc hs)
theorem E_aload2 (hd : decode code pc = .ok (.aload_n 2, 1)) (k : LE l b L xs n ex Po (pc + 1) i (.ref 2 :: st) hC hM) : LE l b L xs n ex Po pc i st hC hM := by
  intro p e s m below meth c GC GM qo ov H locs lsA cells slots C0 Wd hl hpo hc hs
  exact lv_aload_n C0.1 C0.2.1 hd rfl (lv_at hl 3 rfl) (k p e s m below meth c GC GM qo ov H locs lsA cells slots C0 Wd hl hpo hc hs)
theorem E_aload3 (hd : decode code pc = .ok (.aload_n 3, 1)) (k : LE l b L xs n ex Po (pc + 1) i (.ref 3 :: st) hC hM) : LE l b L xs n ex Po pc i st hC hM := by
  intro p e s m below meth c GC GM qo ov H locs lsA cells slots C0 Wd hl hpo hc hs
  exact lv_aload_n C0.1 C0.2.1 hd rfl (lv_at hl 4 rfl) (k p e s m below meth c GC GM qo ov H locs lsA cells slots C0 Wd hl hpo hc hs)
theorem E_iload4 (hd : decode code pc = .ok (.iload 4, 2)) (k : LE l b L xs n ex Po (pc + 2) i (.int i :: st) hC hM) : LE l b L xs n ex Po pc i st hC hM := by
  intro p e s m below meth c GC GM qo ov H locs lsA cells slots C0 Wd hl hpo hc hs
  exact lv_iload C0.1 C0.2.1 hd (lv_at hl 0 rfl) (k p e s m below meth c GC GM qo ov H locs lsA cells slots C0 Wd hl hpo hc hs)
theorem E_iconst {v0 : Int} {v : Int32} (hd : decode code pc = .ok (.iconst v0, 1)) (hv : Int32.ofInt v0 = v) (k : LE l b L xs n ex Po (pc + 1) i (.int v :: st) hC hM) : LE l b L xs n ex Po pc i st hC hM := by
  intro p e s m below meth c GC GM qo ov H locs lsA cells slots C0 Wd hl hpo hc hs
  exact lv_iconst C0.1 C0.2.1 hd hv (k p e s m below meth c GC GM qo ov H locs lsA cells slots C0 Wd hl hpo hc hs)
theorem E_iadd {x y : Int32} (hd : decode code pc = .ok (.iadd, 1)) (k : LE l b L xs n ex Po (pc + 1) i (.int (x + y) :: st) hC hM) : LE l b L xs n ex Po pc i (.int y :: .int x :: st) hC hM := by
  intro p e s m below meth c GC GM qo ov H locs lsA cells slots C0 Wd hl hpo hc hs
  exact lv_iadd C0.1 C0.2.1 hd (k p e s m below meth c GC GM qo ov H locs lsA cells slots C0 Wd hl hpo hc hs)
theorem E_i2l {x : Int32} (hd : decode code pc = .ok (.i2l, 1)) (k : LE l b L xs n ex Po (pc + 1) i (.long x.toInt64 :: st) hC hM) : LE l b L xs n ex Po pc i (.int x :: st) hC hM := by
  intro p e s m below meth c GC GM qo ov H locs lsA cells slots C0 Wd hl hpo hc hs
  exact lv_i2l C0.1 C0.2.1 hd rfl (k p e s m below meth c GC GM qo ov H locs lsA cells slots C0 Wd hl hpo hc hs)
theorem E_goto {off : Int} {tgt : Nat} (hd : decode code pc = .ok (.goto off, 3)) (ht : (pc : Int) + off = (tgt : Int)) (k : LE l b L xs n ex Po tgt i st hC hM) : LE l b L xs n ex Po pc i st hC hM := by
  intro p e s m below meth c GC GM qo ov H locs lsA cells slots C0 Wd hl hpo hc hs
  exact lv_goto C0.1 C0.2.1 hd ht (k p e s m below meth c GC GM qo ov H locs lsA cells slots C0 Wd hl hpo hc hs)
theorem E_icmp_eq {x y : Int32} {off : Int} {tgt : Nat} (hd : decode code pc = .ok (.if_icmp .eq off, 3)) (ht : (pc : Int) + off = (tgt : Int)) (kt : x = y → LE l b L xs n ex Po tgt i st hC hM) (kf : ¬ x = y → LE l b L xs n ex Po (pc + 3) i st hC hM) : LE l b L xs n ex Po pc i (.int y :: .int x :: st) hC hM := by
  intro p e s m below meth c GC GM qo ov H locs lsA cells slots C0 Wd hl hpo hc hs
  exact lv_icmp_eq C0.1 C0.2.1 hd ht (fun q => kt q p e s m below meth c GC GM qo ov H locs lsA cells slots C0 Wd hl hpo hc hs) (fun q => kf q p e s m below meth c GC GM qo ov H locs lsA cells slots C0 Wd hl hpo hc hs)
theorem E_if_eq {x : Int32} {off : Int} {tgt : Nat} (hd : decode code pc = .ok (.ifCond .eq off, 3)) (ht : (pc : Int) + off = (tgt : Int)) (kt : x = 0 → LE l b L xs n ex Po tgt i st hC hM) (kf : ¬ x = 0 → LE l b L xs n ex Po (pc + 3) i st hC hM) : LE l b L xs n ex Po pc i (.int x :: st) hC hM := by
  intro p e s m below meth c GC GM qo ov H locs lsA cells slots C0 Wd hl hpo hc hs
  exact lv_if_eq C0.1 C0.2.1 hd ht (fun q => kt q p e s m below meth c GC GM qo ov H locs lsA cells slots C0 Wd hl hpo hc hs) (fun q => kf q p e s m below meth c GC GM qo ov H locs lsA cells slots C0 Wd hl hpo hc hs)
theorem E_sld {j : Int32} (hd : decode code pc = .ok (.iaload, 1)) (hin : dIn j L) (k : LE l b L xs n ex Po (pc + 1) i (.int (xs (dI j)) :: st) hC hM) : LE l b L xs n ex Po pc i (.int j :: .ref 0 :: st) hC hM := by
  intro p e s m below meth c GC GM qo ov H locs lsA cells slots C0 Wd hl hpo hc hs
  exact va_sld (A := fun q : Nat => s.heap.size ≤ q) C0.1 C0.2.1 C0.2.2.2.2.2.2.1 C0.2.2.2.2.2.2.2.1 (Nat.not_le.mpr C0.2.2.2.2.2.2.2.1) Wd.1.2.2.2.2.1 (dIn_vp hin) hd (k p e s m below meth c GC GM qo ov H locs lsA cells slots C0 Wd hl hpo hc hs)
theorem E_istore5 {v : Int32} (hd : decode code pc = .ok (.istore 5, 2)) (k : LE l b L xs n [(5, .int v)] Po (pc + 2) i st hC hM) : LE l b L xs n [] Po pc i (.int v :: st) hC hM := by
  intro p e s m below meth c GC GM qo ov H locs lsA cells slots C0 Wd hl hpo hc hs
  refine lv_istore (lv' := [(5, .int v), (4, .int i), (0, .ref b), (1, .ref (GC.2.2 0)), (2, .ref (GM.2.2 0)), (3, .ref qo)]) C0.1 C0.2.1 hd hl (by decide) rfl (fun lsB hl2 => ?_)
  exact k p e s m below meth c GC GM qo ov H locs lsB cells slots C0 Wd (lv_sub hl2 [1, 2, 3, 4, 5, 0] rfl) hpo hc hs
theorem E_istore6 {u v : Int32} (hd : decode code pc = .ok (.istore 6, 2)) (k : LE l b L xs n [(5, .int u), (6, .int v)] Po (pc + 2) i st hC hM) : LE l b L xs n [(5, .int u)] Po pc i (.int v :: st) hC hM := by
  intro p e s m below meth c GC GM qo ov H locs lsA cells slots C0 Wd hl hpo hc hs
  refine lv_istore (lv' := [(6, .int v), (4, .int i), (0, .ref b), (1, .ref (GC.2.2 0)), (2, .ref (GM.2.2 0)), (3, .ref qo), (5, .int u)]) C0.1 C0.2.1 hd hl (by decide) rfl (fun lsB hl2 => ?_)
  exact k p e s m below meth c GC GM qo ov H locs lsB cells slots C0 Wd (lv_sub hl2 [1, 2, 3, 4, 5, 6, 0] rfl) hpo hc hs
theorem E_iload5 {u v : Int32} (hd : decode code pc = .ok (.iload 5, 2)) (k : LE l b L xs n [(5, .int u), (6, .int v)] Po (pc + 2) i (.int u :: st) hC hM) : LE l b L xs n [(5, .int u), (6, .int v)] Po pc i st hC hM := by
  intro p e s m below meth c GC GM qo ov H locs lsA cells slots C0 Wd hl hpo hc hs
  exact lv_iload C0.1 C0.2.1 hd (lv_at hl 5 rfl) (k p e s m below meth c GC GM qo ov H locs lsA cells slots C0 Wd hl hpo hc hs)
theorem E_iload6 {u v : Int32} (hd : decode code pc = .ok (.iload 6, 2)) (k : LE l b L xs n [(5, .int u), (6, .int v)] Po (pc + 2) i (.int v :: st) hC hM) : LE l b L xs n [(5, .int u), (6, .int v)] Po pc i st hC hM := by
  intro p e s m below meth c GC GM qo ov H locs lsA cells slots C0 Wd hl hpo hc hs
  exact lv_iload C0.1 C0.2.1 hd (lv_at hl 6 rfl) (k p e s m below meth c GC GM qo ov H locs lsA cells slots C0 Wd hl hpo hc hs)
theorem E_if_ne {x : Int32} {off : Int} {tgt : Nat} (hd : decode code pc = .ok (.ifCond .ne off, 3)) (ht : (pc : Int) + off = (tgt : Int)) (kt : x ≠ 0 → LE l b L xs n ex Po tgt i st hC hM) (kf : x = 0 → LE l b L xs n ex Po (pc + 3) i st hC hM) : LE l b L xs n ex Po pc i (.int x :: st) hC hM := by
  intro p e s m below meth c GC GM qo ov H locs lsA cells slots C0 Wd hl hpo hc hs
  exact lv_if_ne C0.1 C0.2.1 hd ht (fun q => kt q p e s m below meth c GC GM qo ov H locs lsA cells slots C0 Wd hl hpo hc hs) (fun q => kf q p e s m below meth c GC GM qo ov H locs lsA cells slots C0 Wd hl hpo hc hs)
theorem E_lcmp {x y : Int64} (hd : decode code pc = .ok (.lcmp, 1)) (k : LE l b L xs n ex Po (pc + 1) i (.int (lg_cmp x y) :: st) hC hM) : LE l b L xs n ex Po pc i (.long y :: .long x :: st) hC hM := by
  intro p e s m below meth c GC GM qo ov H locs lsA cells slots C0 Wd hl hpo hc hs
  exact W.lcmp C0.1 C0.2.1 hd (k p e s m below meth c GC GM qo ov H locs lsA cells slots C0 Wd hl hpo hc hs)
theorem E_lald {w : Int64} (hd : decode code pc = .ok (.laload, 1)) (hw : ∀ ov, Po ov → ov 0 = w) (k : LE l b L xs n ex Po (pc + 1) i (.long w :: st) hC hM) : LE l b L xs n ex Po pc i (.int 0 :: .ref 3 :: st) hC hM := by
  intro p e s m below meth c GC GM qo ov H locs lsA cells slots C0 Wd hl hpo hc hs
  have k1 := k p e s m below meth c GC GM qo ov H locs lsA cells slots C0 Wd hl hpo hc hs
  rw [← hw ov hpo] at k1
  refine va_lald (D := GC.1) (cl := vwCl) (tys := dTys GC) (ws := [(qo, .inl (GC.2.1 3, 1, .inr (.inl ov)))]) (f := ov) C0.1 C0.2.1 Wd.1.1 (fun k q hk => ?_) 0 3 rfl rfl (i := 0) (by unfold vp_in; decide) hd k1
  have hk1 : k < 1 := (List.getElem?_eq_some_iff.mp hk).1
  have hk0 : k = 0 := by omega
  subst hk0
  cases hk
  exact Wd.2.2.2.1.1
theorem E_of (k : LB l b L xs n pc i st hC hM) : LE l b L xs n ex Po pc i st hC hM := by
  intro p e s m below meth c GC GM qo ov H locs lsA cells slots C0 Wd hl _ hc hs
  refine k p e s m below meth c GC GM qo ov H locs lsA cells slots C0 Wd ⟨hl.1, hl.2.1, fun q hq => hl.2.2 q ?_⟩ hc hs
  simp only [List.mem_cons, List.not_mem_nil, or_false] at hq ⊢
  rcases hq with h | h | h | h | h
  · exact Or.inl h
  · exact Or.inr (Or.inl h)
  · exact Or.inr (Or.inr (Or.inl h))
  · exact Or.inr (Or.inr (Or.inr (Or.inl h)))
  · exact Or.inr (Or.inr (Or.inr (Or.inr (Or.inl h))))
section LCM
variable {β : Type} {D' : Nat} {ψ : β → Option Value × dH} {ob : Option β} {as st0 : List Value} {y : MethodName} {cy : ByteArray} {ny na idx : Nat} {ry : Option FieldType}
theorem E_callM {z : β} (hd : decode code pc = .ok (.invokevirtual idx, 3)) (hc : dCV R_law idx y cy ny ry na 12) (hT : T XM D' y cy ny ry ψ (.ref 0 :: as) hM ob) (hz : ob = some z) (hD : D' ≤ 1000) (hn : as.length = na) (hst : st0 = as.reverse ++ .ref 2 :: st) (hp : dPl as = true) (hw : dwd st ≤ 8) (hr : dPl ((ψ z).1.toList) = true)
    (k : LE l b L xs n ex Po (pc + 3) i ((ψ z).1.toList ++ st) hC (ψ z).2) : LE l b L xs n ex Po pc i st0 hC hM := by
  intro p e s m below meth c GC GM qo ov H locs lsA cells slots C0 Wd hl hpo hcl hsl
  obtain ⟨c1, ⟨m1, m2, m3, m4⟩, hv, q, c4, c5⟩ := hc
  have hts := lw_ts C0
  obtain ⟨W1, W2, W3, W4, W5, W6, W7⟩ := id Wd
  have hpre := dPre (p := p) (m := m) (meth := meth) (c := c) (args := #[Value.ref b]) (as := .ref 0 :: as) W2
  have eas := dPl_map as b GM GC GM qo hp
  have hrun := va_runV (e := e) (As := as.map (dv GM)) (rest := st.map (lvv b GC GM qo)) (b := GM.2.2 0) (g := F0 m pc lsA (st0.map (lvv b GC GM qo))) (C := y.cls) (R := room_1) (cells := cells) (slots := slots) (locs := locs) (below := below) (meth := meth) ⟨C0.1, C0.2.1, C0.2.2.2.1, C0.2.2.2.2.1, hts⟩ (hT z hz l GM H.size)
    (⟨callB_of na hts (dGood y cy ny ry m1) rfl rfl rfl (hts _ m2) (hts _ c1) m3 (lRoom hD m4), hts _ hv.1, hts _ hv.2⟩ : CallW room_1 s #[Value.ref b] R_law y.cls idx y cy ny ry _ _ 0 0 na)
    ⟨hpre.1, by rw [← c5]; exact va_recv W2.1 W2.2.1 c4 (dW_get shM_0), hpre.2⟩ rfl (by rw [List.length_map]; exact hn) hl.1 (by subst hst; show List.map (lvv b GC GM qo) _ = _; rw [List.map_append, List.map_reverse, ← eas]; rfl) (by rw [lvv_wd]; show 2 * 0 + dwd st ≤ 8; omega) hd ⟨by show cells + 0 ≤ 601024; omega, by show slots + 0 ≤ 7293034; omega⟩
  obtain ⟨S1, S2, S3, S4, S5, S6, S7, S8, S9⟩ := W2
  obtain ⟨M1, M2, M3, M4, M5, M6, M7, M8, M9⟩ := W1
  have hAA : ∀ q, dA XM GM H.size q → s.heap.size ≤ q := by
    rintro q (⟨k, hk, rfl⟩ | hq)
    · exact S4 k hk
    · exact S7 q (Nat.le_trans S5.1 hq)
  intro U hU XX
  obtain ⟨v, st₀, t, U', LL, h0, X', hL, e1, e2, ⟨hvv, hP, ⟨hz1, hk⟩, hex⟩, stp⟩ := hrun U hU XX
  rw [h0] at hz1 hk
  have hv2 : v = (ψ z).1.map (dv GM) := by cases hvv; rfl
  have hk1 : ∀ q : Nat, q < H.size → ¬ dA XM GM H.size q → U'.heap[q]? = H[q]? := fun q g1 g2 => by rw [e1]; exact hk q g1 g2
  have hSS : va_S (fun q : Nat => s.heap.size ≤ q) s.heap U'.heap (locs ++ LL) := ⟨Nat.le_trans S5.1 (by rw [e1]; exact hz1), fun q g1 g2 => by rw [hk1 q (Nat.lt_of_lt_of_le g1 S5.1) (fun w => g2 (hAA q w))]; exact S5.2.1 q g1 g2, fun q hq => by
      rcases List.mem_append.mp hq with w | w
      · exact S5.2.2 q w
      · exact hAA _ (hL q w)⟩
  have hqo : qo < H.size := (Array.getElem?_eq_some_iff.mp W4.1).1
  have nB : ∀ q, q < H.size → (∀ k, k < 24 → q ≠ GM.2.2 k) → ¬ dA XM GM H.size q := by
    rintro q g1 g2 (⟨k, hk, rfl⟩ | g3)
    · exact g2 k hk rfl
    · omega
  have Wd2 : LWd GC GM qo s hC (ψ z).2 ov U'.heap (locs ++ LL) := by
    refine ⟨⟨M1, ?_, M3, M4, hSS, M6, M7, M8, M9⟩, ⟨S1, by rw [e1]; exact hP, S3, S4, hSS, S6, S7, S8, hex⟩, W3, ⟨?_, W4.2⟩, W5, W6, W7⟩
    · refine dP_kept M2 hk1 (fun j hj => ?_)
      have hlt : GC.2.2 j < H.size := (M2 j _ (dW_get (List.getElem?_eq_getElem hj))).lt
      exact nB _ hlt (fun k hk e => W5 j k hj hk e)
    · rw [hk1 qo hqo (nB qo hqo (fun k hk e => W7 k hk e.symm))]
      exact W4.1
  obtain ⟨t2, a1, b1⟩ := k p e s m below meth c GC GM qo ov U'.heap (locs ++ LL) lsA (cells + 0) (slots + 0) C0 Wd2 hl hpo hcl hsl U' rfl X'
  refine ⟨t2, stp t2 ?_, b1⟩
  have e3 : ((ψ z).1.toList ++ st).map (lvv b GC GM qo) = v.toList ++ st.map (lvv b GC GM qo) := by
    rw [List.map_append, ← dPl_map _ b GM GC GM qo hr, hv2]
    cases (ψ z).1 <;> rfl
  rw [e3] at a1
  exact a1
end LCM
end LEW
section LEX
variable {l : Launch} {b L : Nat} {xs : Nat → Int32} {n pc iN : Nat} {st : List Value} {hC hM : dH} {ex : List (Nat × Value)} {Po : (Nat → Int64) → Prop}
theorem E_arg (j : Nat) {v0 : Int} (d0 : decode code pc = .ok (.aload_n 0, 1)) (d1 : decode code (pc + 1) = .ok (.iload 4, 2)) (d3 : decode code (pc + 3) = .ok (.iconst v0, 1)) (d4 : decode code (pc + 4) = .ok (.iadd, 1)) (d5 : decode code (pc + 5) = .ok (.iaload, 1)) (hv : Int32.ofInt v0 = Int32.ofNat j) (hL : L ≤ 3072) (hj : iN + j < L) (k : LE l b L xs n ex Po (pc + 6) (Int32.ofNat iN) (.int (xs (iN + j)) :: st) hC hM) : LE l b L xs n ex Po pc (Int32.ofNat iN) st hC hM := by
  refine E_aload0 d0 ?_
  refine E_iload4 d1 ?_
  refine E_iconst d3 hv ?_
  refine E_iadd d4 ?_
  rw [oNadd]
  refine E_sld d5 ⟨by rw [oN_big (by omega)]; omega, by rw [oN_big (by omega)]; omega⟩ ?_
  have e : dI (Int32.ofNat (iN + j)) = iN + j := by
    show (Int32.ofNat (iN + j)).toInt.toNat = _
    rw [oN_big (by omega)]
    rfl
  rw [e]
  exact k
end LEX
