/-! texts: String.length, charAt and what they call; copies out of static rows -/
theorem sv_link : Cond.fieldLink RJ0 9 "java/lang/String" "value" "[B" ∈ dWs := dmT8 180 rfl rfl
theorem sc_link : Cond.fieldLink RJ0 15 "java/lang/String" "coder" "B" ∈ dWs := dmT8 181 rfl rfl
theorem sz_link : Cond.fieldLink RJ0 38 "java/lang/String" "COMPACT_STRINGS" "Z" ∈ dWs := dmT2 170 rfl rfl
theorem sf_link : Cond.fieldLink RJ0 1053 "jdk/internal/util/Preconditions" "SIOOBE_FORMATTER" "Ljava/util/function/BiFunction;" ∈ dWs := dmT2 190 rfl rfl
theorem lk_J0_335 : Cond.methodLink RJ0 335 yJ0_coder_7d493 ∈ dWs := dmT2 166 rfl rfl
theorem lk_J0_492 : Cond.methodLink RJ0 492 yJ0_isLatin1_aae02 ∈ dWs := dmT2 180 rfl rfl
theorem lk_J0_495 : Cond.methodLink RJ0 495 yJ1_charAt_3b067 ∈ dWs := dmT2 184 rfl rfl
theorem lk_J1_9 : Cond.methodLink RJ1 9 yJ0_checkIndex_df160 ∈ dWs := dmT2 187 rfl rfl
theorem lk_J0_1059 : Cond.methodLink RJ0 1059 yJ3_checkIndex_8e157 ∈ dWs := dmT2 192 rfl rfl
theorem mw_J0_coder_7d493 : dMw yJ0_coder_7d493 cJ0_coder_7d493 1 (some .byte) 0 := ⟨dmT2 169 rfl rfl, dmT1 15 rfl rfl, ⟨by decide, by decide, by decide +kernel⟩, by decide⟩
theorem mv_J0_coder_7d493 : dMv yJ0_coder_7d493 := ⟨dmT2 167 rfl rfl, dmT2 168 rfl rfl⟩
theorem mw_J0_isLatin1_aae02 : dMw yJ0_isLatin1_aae02 cJ0_isLatin1_aae02 1 (some .boolean) 0 := ⟨dmT2 183 rfl rfl, dmT1 15 rfl rfl, ⟨by decide, by decide, by decide +kernel⟩, by decide⟩
theorem mv_J0_isLatin1_aae02 : dMv yJ0_isLatin1_aae02 := ⟨dmT2 181 rfl rfl, dmT2 182 rfl rfl⟩
theorem mw_J1_charAt_3b067 : dMw yJ1_charAt_3b067 cJ1_charAt_3b067 2 (some .char) 2 := ⟨dmT2 186 rfl rfl, dmT1 16 rfl rfl, ⟨by decide, by decide, by decide +kernel⟩, by decide⟩
theorem ms_J1_charAt_3b067 : Cond.static yJ1_charAt_3b067 ∈ dWs := dmT2 185 rfl rfl
theorem mw_J0_checkIndex_df160 : dMw yJ0_checkIndex_df160 cJ0_checkIndex_df160 2 none 2 := ⟨dmT2 189 rfl rfl, dmT1 15 rfl rfl, ⟨by decide, by decide, by decide +kernel⟩, by decide⟩
theorem ms_J0_checkIndex_df160 : Cond.static yJ0_checkIndex_df160 ∈ dWs := dmT2 188 rfl rfl
theorem mw_J3_checkIndex_8e157 : dMw yJ3_checkIndex_8e157 cJ3_checkIndex_8e157 3 (some .int) 3 := ⟨dmT2 194 rfl rfl, dmT1 17 rfl rfl, ⟨by decide, by decide, by decide +kernel⟩, by decide⟩
theorem ms_J3_checkIndex_8e157 : Cond.static yJ3_checkIndex_8e157 ∈ dWs := dmT2 193 rfl rfl
theorem kget {j : Nat} (hj : j < 9) : ∃ q, dKs[j]? = some q ∧ stx j = q.2.2.2 := by
  have h : ∀ j, j < 9 → (dKs[j]?).isSome = true := by decide
  obtain ⟨q, hq⟩ := Option.isSome_iff_exists.mp (h j hj)
  exact ⟨q, hq, by unfold stx; rw [hq]⟩
/-- a contract out of a walk that forgets some of its arguments -/
theorem T_of2 {α : Type} {X : dX} {D : Nat} {y : MethodName} {cc : ByteArray} {nL : Nat} {rt : Option FieldType} {φ : α → Option Value × dH} {as : List Value} {h : dH} {o : Option α} (ls : List Value) (hy : plainName y.cls = true)
    (hl : ∀ G : dG, ∀ q ∈ dL G 0 ls, q ∈ lv_args 0 (as.map (dv G))) (hn : ∀ G : dG, (lg_sl (as.map (dv G))).length ≤ nL) (k : B X D y.cls cc nL rt φ 0 ls [] h o) : T X D y cc nL rt φ as h o := by
  intro x hx l G sz
  refine Met.ofW (cc := cc) (maxL := nL) (ret := rt) hy rfl ?_
  intro p e s m args below meth c s₁ Bd hml hv
  obtain ⟨rfl, hsz, hP, hK, hI, hE, hlen, hEx⟩ := hv
  subst hsz
  have hts := atoms_spec (ws := .code y cc nL rt :: dWs) Bd.pre
  have hown : s.vm.findClass y.cls = some m.cls := findClass_of_methodNamed Bd.named
  have hen := lv_entry (as.map (dv G)) (n := nL) (hn G)
  rw [lg_entry_eq]
  generalize (lg_sl (as.map (dv G)) ++ List.replicate (nL - (lg_sl (as.map (dv G))).length) Slot.unset).toArray = lsA at hen ⊢
  exact k x hx p l e s m _ below meth c G (dA X G s.heap.size) s.heap [] lsA ⟨Bd.exec, Bd.bytes, hml, hown, fun w hw => hts w (List.mem_cons_of_mem _ hw), Bd.returns, Bd.notSynchronized⟩
    ⟨hK, hP, hI, fun k hk => Or.inl ⟨k, hk, rfl⟩, va_S.rf, hE, fun q hq => Or.inr hq, hlen, hEx⟩ (lv_less hen (hl G))
section BS
variable {α β : Type} {X : dX} {D D' : Nat} {own : String} {cc : ByteArray} {nL : Nat} {rt : Option FieldType} {φ : α → Option Value × dH} {ψ : β → Option Value × dH} {pc : Nat} {ls st as : List Value} {h : dH} {o : Option α} {ob : Option β} {y : MethodName} {cy : ByteArray} {ny n idx : Nat} {ry : Option FieldType}
theorem B_getsZ (hd : decode cc pc = .ok (.getstatic 38, 3)) (ho : own = RJ0) (K : B X D own cc nL rt φ (pc + 3) ls (.int 1 :: st) h o) : B X D own cc nL rt φ pc ls st h o := by
  subst ho
  intro x hx p l e s m args below meth c G A H locs lsA F S L
  exact va_gets F.1 F.2.1 S.2.2.2.2.2.1.2.2.1 S.2.2.2.2.1 F.2.2.2.1 (F.2.2.2.2.1 _ sz_link) (fun _ z => z) hd (K x hx p l e s m args below meth c G A H locs lsA F S L)
theorem B_getsF (hd : decode cc pc = .ok (.getstatic 1053, 3)) (ho : own = RJ0) (K1 : B X D own cc nL rt φ (pc + 3) ls (.null :: st) h o) (K2 : B X D own cc nL rt φ (pc + 3) ls (.ref 4000 :: st) h o) : B X D own cc nL rt φ pc ls st h o := by
  subst ho
  intro x hx p l e s m args below meth c G A H locs lsA F S L
  rcases S.2.2.2.2.2.1.2.2.2.2.1 with z | z
  · exact va_gets F.1 F.2.1 z S.2.2.2.2.1 F.2.2.2.1 (F.2.2.2.2.1 _ sf_link) (fun _ z => z) hd (K1 x hx p l e s m args below meth c G A H locs lsA F S L)
  · exact va_gets F.1 F.2.1 z S.2.2.2.2.1 F.2.2.2.1 (F.2.2.2.2.1 _ sf_link) (fun _ z => z) hd (K2 x hx p l e s m args below meth c G A H locs lsA F S L)
theorem B_getSv {j : Nat} (hd : decode cc pc = .ok (.getfield 9, 3)) (ho : own = RJ0) (hj : j < 9) (K : B X D own cc nL rt φ (pc + 3) ls (.ref (3000 + j) :: st) h o) : B X D own cc nL rt φ pc ls (.ref (2000 + j) :: st) h o := by
  subst ho
  obtain ⟨q, h1, h2⟩ := kget hj
  intro x hx p l e s m args below meth c G A H locs lsA F S L
  exact vk_getf F.1 F.2.1 (S.2.2.2.2.2.1.2.1 j q h1).2.2.2.1 S.2.2.2.2.1 F.2.2.2.1 (F.2.2.2.2.1 _ sv_link) (fun _ z => z) hd (K x hx p l e s m args below meth c G A H locs lsA F S L)
theorem B_getSc {j : Nat} (hd : decode cc pc = .ok (.getfield 15, 3)) (ho : own = RJ0) (hj : j < 9) (K : B X D own cc nL rt φ (pc + 3) ls (.int 0 :: st) h o) : B X D own cc nL rt φ pc ls (.ref (2000 + j) :: st) h o := by
  subst ho
  obtain ⟨q, h1, h2⟩ := kget hj
  intro x hx p l e s m args below meth c G A H locs lsA F S L
  exact vk_getf F.1 F.2.1 (S.2.2.2.2.2.1.2.1 j q h1).2.2.1 S.2.2.2.2.1 F.2.2.2.1 (F.2.2.2.2.1 _ sc_link) (fun _ z => z) hd (K x hx p l e s m args below meth c G A H locs lsA F S L)
theorem B_alenS {j : Nat} (hd : decode cc pc = .ok (.arraylength, 1)) (hj : j < 9) (K : B X D own cc nL rt φ (pc + 1) ls (.int (sln j) :: st) h o) : B X D own cc nL rt φ pc ls (.ref (3000 + j) :: st) h o := by
  obtain ⟨q, h1, h2⟩ := kget hj
  intro x hx p l e s m args below meth c G A H locs lsA F S L
  exact va_tlen F.1 F.2.1 (S.2.2.2.2.2.1.2.1 j q h1).2.2.2.2 S.2.2.2.2.1 (by unfold sln; rw [h2]) hd (K x hx p l e s m args below meth c G A H locs lsA F S L)
theorem B_baldS {j : Nat} {i : Int32} (hd : decode cc pc = .ok (.baload, 1)) (hj : j < 9) (hin : dIn i (stx j).length) (K : B X D own cc nL rt φ (pc + 1) ls (.int ((stx j).getD (dI i) 0) :: st) h o) : B X D own cc nL rt φ pc ls (.int i :: .ref (3000 + j) :: st) h o := by
  obtain ⟨q, h1, h2⟩ := kget hj
  rw [h2] at hin K
  intro x hx p l e s m args below meth c G A H locs lsA F S L
  exact va_tb F.1 F.2.1 (S.2.2.2.2.2.1.2.1 j q h1).2.2.2.2 S.2.2.2.2.1 (dIn_vp hin) rfl hd (K x hx p l e s m args below meth c G A H locs lsA F S L)
theorem B_i2c {x0 : Int32} (hd : decode cc pc = .ok (.i2c, 1)) (K : B X D own cc nL rt φ (pc + 1) ls (.int ((x0.toUInt32 % 65536).toInt32) :: st) h o) : B X D own cc nL rt φ pc ls (.int x0 :: st) h o := by
  intro x hx p l e s m args below meth c G A H locs lsA F S L
  exact lv_i2c F.1 F.2.1 hd rfl (K x hx p l e s m args below meth c G A H locs lsA F S L)
theorem B_nreturn {ty : FieldType} {v : Int32} {x : α} (hd : decode cc pc = .ok (.ireturn, 1)) (hr : rt = some ty) (hv : narrow ty (.int v) = .int v) (e : φ x = (some (.int v), h)) : B X D own cc nL rt φ pc ls [.int v] h (some x) := by
  intro x2 hx p l e1 s m args below meth c G A H locs lsA F S L
  cases hx
  rw [e]
  exact W.zret F.1 F.2.1 (F.2.2.2.2.2.1.trans hr) hv (fun t ht hW => ⟨rfl, by rw [ht]; exact S.2.1, S.2.2.2.2.1.F ht, S.2.2.2.2.2.2.2.2⟩) S.2.2.2.2.1.2.2 hd F.2.2.2.2.2.2
/-- a call of a String's method -/
theorem B_callX {j : Nat} {e : β → Option α} {st0 : List Value} (hd : decode cc pc = .ok (.invokevirtual idx, 3)) (hl : Cond.methodLink own idx y ∈ dWs) (hm : dMw y cy ny ry n) (hv : dMv y) (hT : T X D' y cy ny ry ψ (.ref (2000 + j) :: as) h ob) (hD : D' + 1 ≤ D) (hj : j < 9) (hqc : y.cls = "java/lang/String") (hn : as.length = n) (hst : st0 = as.reverse ++ .ref (2000 + j) :: st) (hw : dwd st ≤ 8)
    (K : ∀ z : β, ob = some z → B X D own cc nL rt φ (pc + 3) ls ((ψ z).1.toList ++ st) (ψ z).2 (e z)) : B X D own cc nL rt φ pc ls st0 h (ob.bind e) := by
  obtain ⟨q, k1, k2⟩ := kget hj
  intro x hx p l e1 s m args below meth c G A H locs lsA F S L
  obtain ⟨z, hz, hx2⟩ := Option.bind_eq_some_iff.mp hx
  obtain ⟨m1, m2, m3, m4⟩ := hm
  have hpre := dPre (p := p) (m := m) (meth := meth) (c := c) (args := args) (as := .ref (2000 + j) :: as) S
  have hrecv : ∃ cell : Cell, H[G.2.2 (2000 + j)]? = some cell ∧ cell.vm.isStatics = false ∧ s.vm.findClass y.cls = some cell.cls := by
    obtain ⟨cell, r1, r2, r3, -⟩ := (S.2.2.2.2.2.1.2.1 j q k1).2.1.kept S.2.2.2.2.1.2.1
    exact ⟨cell, r1, r2, by rw [hqc]; exact r3⟩
  have hrun := va_runV (e := e1) (As := as.map (dv G)) (rest := st.map (dv G)) (b := G.2.2 (2000 + j)) (g := F0 m pc lsA (st0.map (dv G))) (C := y.cls) (cells := 0) (slots := 0) (locs := locs) (below := below) (meth := meth) ⟨F.1, F.2.1, F.2.2.1, F.2.2.2.1, F.2.2.2.2.1⟩ (hT z hz l G H.size)
    (⟨callB_of n F.2.2.2.2.1 (dGood y cy ny ry m1) rfl rfl rfl (F.2.2.2.2.1 _ m2) (F.2.2.2.2.1 _ hl) m3 (dRoom hD m4), F.2.2.2.2.1 _ hv.1, F.2.2.2.2.1 _ hv.2⟩ : CallW (dRm D) s args own y.cls idx y cy ny ry _ _ 0 0 n)
    ⟨hpre.1, hrecv, hpre.2⟩ rfl (by rw [List.length_map]; exact hn) L.1 (by subst hst; show List.map (dv G) _ = _; rw [List.map_append, List.map_reverse]; rfl) (dWst hw) hd ⟨Nat.le_refl _, Nat.le_refl _⟩
  exact dGo hrun S (fun H1 locs1 S2 => K z hz x hx2 p l e1 s m args below meth c G A H1 locs1 lsA F S2 L)
theorem B_Xt {j : Nat} {v : Int32} {st0 : List Value} (hd : decode cc pc = .ok (.invokevirtual idx, 3)) (hl : Cond.methodLink own idx y ∈ dWs) (hm : dMw y cy ny ry n) (hv : dMv y) (hT : T X D' y cy ny ry (fiP h) (.ref (2000 + j) :: as) h (some v)) (hD : D' + 1 ≤ D) (hj : j < 9) (hqc : y.cls = "java/lang/String") (hn : as.length = n) (hst : st0 = as.reverse ++ .ref (2000 + j) :: st) (hw : dwd st ≤ 8)
    (K : B X D own cc nL rt φ (pc + 3) ls (.int v :: st) h o) : B X D own cc nL rt φ pc ls st0 h o :=
  B_callX (ob := some v) (e := fun _ => o) hd hl hm hv hT hD hj hqc hn hst hw (fun z hz => by cases hz; exact K)
end BS
theorem sln_sh {j : Nat} (hj : j < 9) : sln j >>> ((0 : Int32) &&& 31) = sln j := by
  have h : ∀ j, j < 9 → sln j >>> ((0 : Int32) &&& 31) = sln j := by decide +kernel
  exact h j hj
theorem t_coder (X : dX) (j : Nat) (hj : j < 9) (h : dH) : T X 0 yJ0_coder_7d493 cJ0_coder_7d493 1 (some .byte) (fiP h) [.ref (2000 + j)] h (some 0) := by
  refine T_of [.ref (2000 + j)] (by decide) (fun _ => rfl) (fun _ => Nat.le_of_ble_eq_true rfl) ?_
  refine B_getsZ dJ0_coder_7d493_0 rfl ?_
  refine B_if_eq_s (tgt := 13) dJ0_coder_7d493_3 (by decide) (fun q => absurd q (by decide)) (fun _ => ?_)
  refine B_aload_n dJ0_coder_7d493_6 rfl rfl ?_
  refine B_getSc dJ0_coder_7d493_7 rfl hj ?_
  refine B_goto (tgt := 14) dJ0_coder_7d493_10 (by decide) ?_
  exact B_nreturn (ty := .byte) dJ0_coder_7d493_14 rfl rfl rfl
theorem t_isLatin1 (X : dX) (j : Nat) (hj : j < 9) (h : dH) : T X 0 yJ0_isLatin1_aae02 cJ0_isLatin1_aae02 1 (some .boolean) (fiP h) [.ref (2000 + j)] h (some 1) := by
  refine T_of [.ref (2000 + j)] (by decide) (fun _ => rfl) (fun _ => Nat.le_of_ble_eq_true rfl) ?_
  refine B_getsZ dJ0_isLatin1_aae02_0 rfl ?_
  refine B_if_eq_s (tgt := 17) dJ0_isLatin1_aae02_3 (by decide) (fun q => absurd q (by decide)) (fun _ => ?_)
  refine B_aload_n dJ0_isLatin1_aae02_6 rfl rfl ?_
  refine B_getSc dJ0_isLatin1_aae02_7 rfl hj ?_
  refine B_if_ne_s (tgt := 17) dJ0_isLatin1_aae02_10 (by decide) (fun q => absurd rfl q) (fun _ => ?_)
  refine B_iconst dJ0_isLatin1_aae02_13 ic_1 ?_
  refine B_goto (tgt := 18) dJ0_isLatin1_aae02_14 (by decide) ?_
  exact B_nreturn (ty := .boolean) dJ0_isLatin1_aae02_18 rfl rfl rfl
theorem t_length (X : dX) (j : Nat) (hj : j < 9) (h : dH) : T X 1 yJ0_length_8abf5 cJ0_length_8abf5 1 (some .int) (fiP h) [.ref (2000 + j)] h (some (sln j)) := by
  refine T_of [.ref (2000 + j)] (by decide) (fun _ => rfl) (fun _ => Nat.le_of_ble_eq_true rfl) ?_
  refine B_aload_n dJ0_length_8abf5_0 rfl rfl ?_
  refine B_getSv dJ0_length_8abf5_1 rfl hj ?_
  refine B_alenS dJ0_length_8abf5_4 hj ?_
  refine B_aload_n dJ0_length_8abf5_5 rfl rfl ?_
  refine B_Xt (st := [.int (sln j)]) dJ0_length_8abf5_6 lk_J0_335 mw_J0_coder_7d493 mv_J0_coder_7d493 (t_coder X j hj h) (Nat.le_refl _) hj rfl rfl rfl (Nat.le_of_ble_eq_true rfl) ?_
  refine B_ishr dJ0_length_8abf5_9 ?_
  rw [sln_sh hj]
  exact B_ireturn dJ0_length_8abf5_10 rfl rfl
theorem t_pcheck (X : dX) (i n : Int32) (v : Value) (hv : v = .null ∨ v = .ref 4000) (h0 : ¬ i < 0) (h1 : i < n) (h : dH) : T X 0 yJ3_checkIndex_8e157 cJ3_checkIndex_8e157 3 (some .int) (fiP h) [.int i, .int n, v] h (some i) := by
  refine T_of2 [.int i, .int n, .null] (by decide) ?_ ?_ ?_
  · intro G q hq
    have e : dL G 0 [.int i, .int n, .null] = [(0, .int i), (1, .int n)] := rfl
    rw [e] at hq
    have e2 : lv_args 0 ([.int i, .int n, v].map (dv G)) = [(0, .int i), (1, .int n), (2, dv G v)] := rfl
    rw [e2]
    simp only [List.mem_cons, List.not_mem_nil, or_false] at hq ⊢
    rcases hq with q | q
    · exact Or.inl q
    · exact Or.inr (Or.inl q)
  · intro G
    rcases hv with rfl | rfl <;> exact Nat.le_of_ble_eq_true rfl
  refine B_iload_n dJ3_checkIndex_8e157_0 rfl rfl ?_
  refine B_if_lt_s (tgt := 9) dJ3_checkIndex_8e157_1 (by decide) (fun q => absurd q h0) (fun _ => ?_)
  refine B_iload_n dJ3_checkIndex_8e157_4 rfl rfl ?_
  refine B_iload_n dJ3_checkIndex_8e157_5 rfl rfl ?_
  refine B_icmp_lt_s (tgt := 16) dJ3_checkIndex_8e157_6 (by decide) (fun _ => ?_) (fun q => absurd h1 q)
  refine B_iload_n dJ3_checkIndex_8e157_16 rfl rfl ?_
  exact B_ireturn dJ3_checkIndex_8e157_17 rfl rfl
theorem t_scheck (X : dX) (i n : Int32) (h0 : ¬ i < 0) (h1 : i < n) (h : dH) : T X 1 yJ0_checkIndex_df160 cJ0_checkIndex_df160 2 none fiV [.int i, .int n] h (some h) := by
  refine T_of [.int i, .int n] (by decide) (fun _ => rfl) (fun _ => Nat.le_of_ble_eq_true rfl) ?_
  refine B_iload_n dJ0_checkIndex_df160_0 rfl rfl ?_
  refine B_iload_n dJ0_checkIndex_df160_1 rfl rfl ?_
  refine B_getsF dJ0_checkIndex_df160_2 rfl ?_ ?_
  · refine B_St (st := []) dJ0_checkIndex_df160_5 ⟨lk_J0_1059, mw_J3_checkIndex_8e157, ms_J3_checkIndex_8e157⟩ (t_pcheck X i n .null (Or.inl rfl) h0 h1 h) (Nat.le_refl _) rfl rfl (Nat.le_of_ble_eq_true rfl) ?_
    refine B_pop dJ0_checkIndex_df160_8 rfl ?_
    exact B_return dJ0_checkIndex_df160_9 rfl rfl
  · refine B_St (st := []) dJ0_checkIndex_df160_5 ⟨lk_J0_1059, mw_J3_checkIndex_8e157, ms_J3_checkIndex_8e157⟩ (t_pcheck X i n (.ref 4000) (Or.inr rfl) h0 h1 h) (Nat.le_refl _) rfl rfl (Nat.le_of_ble_eq_true rfl) ?_
    refine B_pop dJ0_checkIndex_df160_8 rfl ?_
    exact B_return dJ0_checkIndex_df160_9 rfl rfl
theorem stx_ok {j : Nat} (hj : j < 9) : (stx j).length < 100 ∧ ∀ k, k < (stx j).length → (((stx j).getD k 0 &&& 255).toUInt32 % 65536).toInt32 = (stx j).getD k 0 ∧ narrow .char (.int ((stx j).getD k 0)) = .int ((stx j).getD k 0) := by
  have h : ∀ j, j < 9 → (stx j).length < 100 ∧ ∀ k, k < (stx j).length → (((stx j).getD k 0 &&& 255).toUInt32 % 65536).toInt32 = (stx j).getD k 0 ∧ narrow .char (.int ((stx j).getD k 0)) = .int ((stx j).getD k 0) := by decide +kernel
  exact h j hj
theorem t_lcharAt (X : dX) (j : Nat) (hj : j < 9) (i : Int32) (hi : dIn i (stx j).length) (h : dH) : T X 2 yJ1_charAt_3b067 cJ1_charAt_3b067 2 (some .char) (fiP h) [.ref (3000 + j), .int i] h (some ((stx j).getD (dI i) 0)) := by
  obtain ⟨hl, hk⟩ := stx_ok hj
  obtain ⟨k1, k2⟩ := hk (dI i) (dI_lt hi)
  have hlen : (Int32.ofNat (stx j).length).toInt = (stx j).length := by
    rw [Int32.toInt_ofNat_of_lt (by omega)]
  refine T_of [.ref (3000 + j), .int i] (by decide) (fun _ => rfl) (fun _ => Nat.le_of_ble_eq_true rfl) ?_
  refine B_iload_n dJ1_charAt_3b067_0 rfl rfl ?_
  refine B_aload_n dJ1_charAt_3b067_1 rfl rfl ?_
  refine B_alenS dJ1_charAt_3b067_2 hj ?_
  refine B_SW (st := []) (h2 := h) dJ1_charAt_3b067_3 ⟨lk_J1_9, mw_J0_checkIndex_df160, ms_J0_checkIndex_df160⟩ (t_scheck X i (sln j) (dInn hi.1) (Int32.lt_iff_toInt_lt.mpr (by unfold sln; rw [hlen]; exact hi.2)) h) (Nat.le_refl _) rfl rfl (Nat.le_of_ble_eq_true rfl) ?_
  refine B_aload_n dJ1_charAt_3b067_6 rfl rfl ?_
  refine B_iload_n dJ1_charAt_3b067_7 rfl rfl ?_
  refine B_baldS dJ1_charAt_3b067_8 hj hi ?_
  refine B_sipush dJ1_charAt_3b067_9 sp_255 ?_
  refine B_iand dJ1_charAt_3b067_12 ?_
  refine B_i2c dJ1_charAt_3b067_13 ?_
  rw [k1]
  exact B_nreturn (ty := .char) dJ1_charAt_3b067_14 rfl k2 rfl
theorem t_charAt (X : dX) (j : Nat) (hj : j < 9) (i : Int32) (hi : dIn i (stx j).length) (h : dH) : T X 3 yJ0_charAt_5068e cJ0_charAt_5068e 2 (some .char) (fiP h) [.ref (2000 + j), .int i] h (some ((stx j).getD (dI i) 0)) := by
  obtain ⟨hl, hk⟩ := stx_ok hj
  obtain ⟨k1, k2⟩ := hk (dI i) (dI_lt hi)
  refine T_of [.ref (2000 + j), .int i] (by decide) (fun _ => rfl) (fun _ => Nat.le_of_ble_eq_true rfl) ?_
  refine B_aload_n dJ0_charAt_5068e_0 rfl rfl ?_
  refine B_Xt (st := []) dJ0_charAt_5068e_1 lk_J0_492 mw_J0_isLatin1_aae02 mv_J0_isLatin1_aae02 (t_isLatin1 X j hj h) (Nat.le_of_ble_eq_true rfl) hj rfl rfl rfl (Nat.le_of_ble_eq_true rfl) ?_
  refine B_if_eq_s (tgt := 16) dJ0_charAt_5068e_4 (by decide) (fun q => absurd q (by decide)) (fun _ => ?_)
  refine B_aload_n dJ0_charAt_5068e_7 rfl rfl ?_
  refine B_getSv dJ0_charAt_5068e_8 rfl hj ?_
  refine B_iload_n dJ0_charAt_5068e_11 rfl rfl ?_
  refine B_St (st := []) dJ0_charAt_5068e_12 ⟨lk_J0_495, mw_J1_charAt_3b067, ms_J1_charAt_3b067⟩ (t_lcharAt X j hj i hi h) (Nat.le_refl _) rfl rfl (Nat.le_of_ble_eq_true rfl) ?_
  exact B_nreturn (ty := .char) dJ0_charAt_5068e_15 rfl k2 rfl

