/-! by hand: a text's length at a call, copies out of static rows, the three searches in a text -/
section BT
variable {α : Type} {X : dX} {D : Nat} {own : String} {cc : ByteArray} {nL : Nat} {rt : Option FieldType} {φ : α → Option Value × dH} {pc : Nat} {ls st : List Value} {h : dH} {o : Option α}
theorem B_slen {j idx : Nat} (hd : decode cc pc = .ok (.invokevirtual idx, 3)) (hl : Cond.methodLink own idx yJ0_length_8abf5 ∈ dWs) (hD : 4 + 1 ≤ D) (hj : j < 9) (hw : dwd st ≤ 8) (K : B X D own cc nL rt φ (pc + 3) ls (.int (sln j) :: st) h o) : B X D own cc nL rt φ pc ls (.ref (2000 + j) :: st) h o :=
  B_Xt (as := []) (n := 0) hd hl mw_J0_length_8abf5 mv_J0_length_8abf5 (t_length X j hj h) (by omega) hj rfl rfl rfl hw K
theorem B_schr {j idx : Nat} {i : Int32} (hd : decode cc pc = .ok (.invokevirtual idx, 3)) (hl : Cond.methodLink own idx yJ0_charAt_5068e ∈ dWs) (hD : 4 + 1 ≤ D) (hj : j < 9) (hi : dIn i (stx j).length) (hw : dwd st ≤ 8) (K : B X D own cc nL rt φ (pc + 3) ls (.int ((stx j).getD (dI i) 0) :: st) h o) : B X D own cc nL rt φ pc ls (.int i :: .ref (2000 + j) :: st) h o :=
  B_Xt (as := [.int i]) (n := 1) hd hl mw_J0_charAt_5068e mv_J0_charAt_5068e (t_charAt X j hj i hi h) (by omega) hj rfl rfl rfl hw K
theorem L_copyE {j b n1 idx : Nat} {sp dp n : Int32} (hd : decode cc pc = .ok (.invokestatic idx, 3)) (hw : dCpW own idx) (hD : 0 + 1 ≤ D) (hst : dwd st ≤ 8) (hj : j < 6) (hb : X.1[b]? = some (.inr (0, n1))) (g : dCk sp dp n (zln j) n1)
    (K : B X D own cc nL rt φ (pc + 3) ls st (dCpy h (1000 + j) b (dI sp) (dI dp) (dI n)) o) : B X D own cc nL rt φ pc ls (.int n :: .int dp :: .ref b :: .int sp :: .ref (1000 + j) :: st) h o := by
  obtain ⟨q, z1, z2⟩ := zget hj
  obtain ⟨g1, g2, g3, g4, g5⟩ := g
  rw [z2] at g4
  obtain ⟨w1, w2, w3, w4⟩ := hw
  intro x hx p l e s m args below meth c G A H locs lsA F S L
  obtain ⟨S1, S2, S3, S4, S5, S6, S7, S8, S9⟩ := S
  have hD2 := dD (X := X) (G := G) (A := A) (h := h) S3 S4
  have hEx := S9 j q z1
  obtain ⟨src, c1, c2, c3, c4, -, c5, c6⟩ := (S6.1 j q z1).2
  obtain ⟨cv, k0, hk0, cm0, hkk0⟩ := c2
  obtain ⟨-, k1, hk1, cm1, hkk1⟩ := (S1.2 0 (G.2.1 0, .int) rfl).1 n1 (fun i => .int (h.1 b i))
  have hb1 := S2 b _ (dW_get hb)
  have cellD : H[G.2.2 b]? = some (vp_cell (G.2.1 0) (n1, .inl (h.1 b))) := hb1
  have cellS : H[G.2.2 (1000 + j)]? = some src := by
    rw [S5.2.1 _ (Array.getElem?_eq_some_iff.mp c1).1 c6]
    exact c1
  have hval : ∀ i, i < q.2.2.length → src.slots[i]? = some (.int (h.1 (1000 + j) i)) := by
    intro i hi
    rw [hEx i]
    exact c5 i hi
  have tn : ∀ z : Int32, 0 ≤ z.toInt → z.toInt = (z.toNatClampNeg : Int) := by
    intro z hz
    show z.toInt = ((z.toInt.toNat : Nat) : Int)
    omega
  intro U hU XX
  have f4 : sp.toNatClampNeg + n.toNatClampNeg ≤ q.2.2.length := g4
  have f5 : dp.toNatClampNeg + n.toNatClampNeg ≤ n1 := g5
  obtain ⟨vm', X', step⟩ := XX.arraycopy F.1 F.2.2.2.1 (F.2.2.2.2.1 _ w1) (F.2.2.2.2.1 _ w2) (F.2.2.2.2.1 _ w3) (F.2.2.2.2.1 _ w4) (src := G.2.2 (1000 + j)) (dst := G.2.2 b) (cs := src) (cd := vp_cell (G.2.1 0) (n1, .inl (h.1 b))) (srcPos := sp) (destPos := dp) (n := n) (by rw [hU]; exact cellS) (by rw [hU]; exact cellD)
    cv (fun _ z => by cases z) c3 (fun z => by cases z) hk0 hk1 hkk0 hkk1 rfl (dInn g1) (dInn g2) (dInn g3)
    (by rw [tn sp g1, tn n g3]; omega)
    (by rw [tn dp g2, tn n g3, show (vp_cell (G.2.1 0) (n1, .inl (h.1 b))).slots.size = n1 from arrV_size _ _ _]; omega)
    (fun vm₁ _ i hi => by
      have e1 : src.slots.getD (sp.toNatClampNeg + i) .null = .int (h.1 (1000 + j) (sp.toNatClampNeg + i)) := by
        rw [Array.getD_eq_getD_getElem?, hval _ (by omega)]
        rfl
      rw [e1]
      exact ⟨rfl, trivial⟩)
    (g := F0 m pc lsA (.int n :: .int dp :: .ref (G.2.2 b) :: .int sp :: .ref (G.2.2 (1000 + j)) :: st.map (dv G))) rfl (by rw [F.2.2.1]; exact L.1) (rest := st.map (dv G)) rfl (by rw [F.2.1]; exact hd) hD
    (by have := dNat; rw [dwd_eq]; show 2 * 0 + _ + _ ≤ 60 * D; omega)
  have ec : copied src (vp_cell (G.2.1 0) (n1, .inl (h.1 b))) sp dp n = vp_cell (G.2.1 0) (n1, .inl (va_cpy (h.1 (1000 + j)) (h.1 b) (dI sp) (dI dp) (dI n))) := va_copiedX (fun z => .int z) src (G.2.1 0) (h.1 (1000 + j)) (h.1 b) hval f4
  rw [ec] at X' step
  have hlt : G.2.2 b < H.size := (Array.getElem?_eq_some_iff.mp cellD).1
  have hheap : ((U.setVm vm').setCell (G.2.2 b) (vp_cell (G.2.1 0) (n1, .inl (va_cpy (h.1 (1000 + j)) (h.1 b) (dI sp) (dI dp) (dI n))))).heap = H.setIfInBounds (G.2.2 b) (vp_cell (G.2.1 0) (n1, .inl (va_cpy (h.1 (1000 + j)) (h.1 b) (dI sp) (dI dp) (dI n)))) := by rw [← hU]; rfl
  have oth : ∀ a : Nat, a ≠ G.2.2 b → (H.setIfInBounds (G.2.2 b) (vp_cell (G.2.1 0) (n1, .inl (va_cpy (h.1 (1000 + j)) (h.1 b) (dI sp) (dI dp) (dI n)))))[a]? = H[a]? := fun a ha => by simp [Array.getElem?_setIfInBounds, Ne.symm ha]
  have P1 := S2.set hD2 (dW_get hb) (e := .inl (G.2.1 0, n1, .inl (va_cpy (h.1 (1000 + j)) (h.1 b) (dI sp) (dI dp) (dI n)))) (show (H.setIfInBounds (G.2.2 b) _)[G.2.2 b]? = some _ by simp [Array.getElem?_setIfInBounds, hlt]) oth
  rw [dW_set (h := h) (h2 := dCpy h (1000 + j) b (dI sp) (dI dp) (dI n)) hb (by show (Sum.inl (_, n1, Sum.inl _) : va_E) = _; congr 4; funext i; exact if_pos rfl) (fun a ha => ⟨by funext i; simp [dCpy, ha], rfl⟩) rfl] at P1
  have hba : A (G.2.2 b) := S4 b (dlt hb)
  obtain ⟨t, a1, b1⟩ := K x hx p l e s m args below meth c G A _ _ lsA F ⟨S1, P1, S3, S4, ⟨by simp; exact S5.1, fun a y1 y2 => by
      rw [oth a (fun z => y2 (by rw [z]; exact hba))]
      exact S5.2.1 a y1 y2, fun a ha => by
      rcases List.mem_append.mp ha with z | z
      · exact S5.2.2 a z
      · obtain ⟨y, -, hy⟩ := List.mem_map.mp z
        rw [← hy]
        exact hba⟩, S6, S7, S8, dEx_cpy S9 (Nat.lt_of_lt_of_le (dlt hb) S8)⟩ L _ hheap X'
  exact ⟨t, step t a1, b1⟩
end BT
theorem sget_drop {l t : List Int32} {b : Int32} {k : Nat} (h : l.drop k = b :: t) : k < l.length ∧ l.getD k 0 = b ∧ l.drop (k + 1) = t := by
  have h1 : k < l.length := by
    rcases Nat.lt_or_ge k l.length with q | q
    · exact q
    · rw [List.drop_eq_nil_of_le q] at h; cases h
  rw [List.drop_eq_getElem_cons h1] at h
  injection h with e1 e2
  exact ⟨h1, by rw [List.getD_eq_getElem?_getD, List.getElem?_eq_getElem h1]; exact e1, e2⟩
theorem oN_toInt {k : Nat} (h : k < 1000) : (Int32.ofNat k).toInt = k := Int32.toInt_ofNat_of_lt (by omega)
theorem oN_succ (k : Nat) : Int32.ofNat k + 1 = Int32.ofNat (k + 1) := by
  rw [Int32.ofNat_add]; rfl
def f_X11_placeIn (j : Nat) (c : Int32) : Int32 := sfindF c (stx j) 0
theorem b_X11_placeIn (j : Nat) (hj : j < 9) (c : Int32) (h : dH) : ∀ (l : List Int32) (k : Nat), (stx j).drop k = l → k ≤ (stx j).length → B XC 7 RX11 cX11_placeIn 3 (some .int) (fiP h) 2 [.ref (2000 + j), .int c, .int (Int32.ofNat k)] [] h (some (sfindF c l k)) := by
  have hl := (stx_ok hj).1
  intro l
  induction l with
  | nil =>
    intro k hk hk2
    have hge : (stx j).length ≤ k := List.drop_eq_nil_iff.mp hk
    refine B_iload_n dX11_placeIn_2 rfl rfl ?_
    refine B_aload_n dX11_placeIn_3 rfl rfl ?_
    refine B_slen dX11_placeIn_4 cl_X11_391 (Nat.le_of_ble_eq_true rfl) hj (Nat.le_of_ble_eq_true rfl) ?_
    refine B_icmp_ge_s (tgt := 27) dX11_placeIn_7 (by decide) (fun _ => ?_) (fun q => absurd (Int32.le_iff_toInt_le.mpr (by unfold sln; rw [oN_toInt (by omega), oN_toInt (by omega)]; omega)) q)
    refine B_iconst dX11_placeIn_27 ic_m1 ?_
    exact B_ireturn dX11_placeIn_28 rfl rfl
  | cons b l ih =>
    intro k hk hk2
    obtain ⟨k1, k2, k3⟩ := sget_drop hk
    have hin : dIn (Int32.ofNat k) (stx j).length := by
      unfold dIn
      rw [oN_toInt (by omega)]
      omega
    refine B_iload_n dX11_placeIn_2 rfl rfl ?_
    refine B_aload_n dX11_placeIn_3 rfl rfl ?_
    refine B_slen dX11_placeIn_4 cl_X11_391 (Nat.le_of_ble_eq_true rfl) hj (Nat.le_of_ble_eq_true rfl) ?_
    refine B_icmp_ge_s (tgt := 27) dX11_placeIn_7 (by decide) (fun q => absurd (Int32.le_iff_toInt_le.mp q) (by unfold sln; rw [oN_toInt (by omega), oN_toInt (by omega)]; omega)) (fun _ => ?_)
    refine B_aload_n dX11_placeIn_10 rfl rfl ?_
    refine B_iload_n dX11_placeIn_11 rfl rfl ?_
    refine B_schr dX11_placeIn_12 cl_X11_395 (Nat.le_of_ble_eq_true rfl) hj hin (Nat.le_of_ble_eq_true rfl) ?_
    have e1 : (stx j).getD (dI (Int32.ofNat k)) 0 = b := by
      have e2 : dI (Int32.ofNat k) = k := by
        show (Int32.ofNat k).toInt.toNat = k
        rw [oN_toInt (by omega)]
        rfl
      rw [e2]
      exact k2
    rw [e1]
    refine B_iload_n dX11_placeIn_15 rfl rfl ?_
    refine B_icmp_ne_s (tgt := 21) dX11_placeIn_16 (by decide) (fun q => ?_) (fun q => ?_)
    · refine B_iinc (w := Int32.ofNat (k + 1)) (ls' := [.ref (2000 + j), .int c, .int (Int32.ofNat (k + 1))]) dX11_placeIn_21 rfl (by rw [← oN_succ, ic_1]) (Nat.le_of_ble_eq_true rfl) rfl rfl ?_
      refine B_goto (tgt := 2) dX11_placeIn_24 (by decide) ?_
      have hq : ¬ b = c := q
      rw [sfindF, if_neg hq]
      exact ih (k + 1) k3 (by omega)
    · have hq : b = c := Decidable.not_not.mp q
      refine B_iload_n dX11_placeIn_19 rfl rfl ?_
      rw [sfindF, if_pos hq]
      exact B_ireturn dX11_placeIn_20 rfl rfl
theorem t_X11_placeIn (j : Nat) (hj : j < 9) (c : Int32) (h : dH) : T XC 7 yX11_placeIn cX11_placeIn 3 (some .int) (fiP h) [.ref (2000 + j), .int c] h (some (f_X11_placeIn j c)) := by
  refine T_of [.ref (2000 + j), .int c, .null] (by decide) (fun _ => rfl) (fun _ => Nat.le_of_ble_eq_true rfl) ?_
  refine B_iconst dX11_placeIn_0 ic_0 ?_
  refine B_istore_n (ls' := [.ref (2000 + j), .int c, .int 0]) dX11_placeIn_1 rfl (Nat.le_of_ble_eq_true rfl) rfl rfl ?_
  exact b_X11_placeIn j hj c h (stx j) 0 rfl (Nat.zero_le _)
def f_X12_spotOf (j : Nat) (c : Int32) : Int32 := sfindF c (stx j) 0
theorem b_X12_spotOf (j : Nat) (hj : j < 9) (c : Int32) (h : dH) : ∀ (l : List Int32) (k : Nat), (stx j).drop k = l → k ≤ (stx j).length → B XM 7 RX12 cX12_spotOf 3 (some .int) (fiP h) 2 [.ref (2000 + j), .int c, .int (Int32.ofNat k)] [] h (some (sfindF c l k)) := by
  have hl := (stx_ok hj).1
  intro l
  induction l with
  | nil =>
    intro k hk hk2
    have hge : (stx j).length ≤ k := List.drop_eq_nil_iff.mp hk
    refine B_iload_n dX12_spotOf_2 rfl rfl ?_
    refine B_aload_n dX12_spotOf_3 rfl rfl ?_
    refine B_slen dX12_spotOf_4 cl_X12_106 (Nat.le_of_ble_eq_true rfl) hj (Nat.le_of_ble_eq_true rfl) ?_
    refine B_icmp_ge_s (tgt := 27) dX12_spotOf_7 (by decide) (fun _ => ?_) (fun q => absurd (Int32.le_iff_toInt_le.mpr (by unfold sln; rw [oN_toInt (by omega), oN_toInt (by omega)]; omega)) q)
    refine B_iconst dX12_spotOf_27 ic_m1 ?_
    exact B_ireturn dX12_spotOf_28 rfl rfl
  | cons b l ih =>
    intro k hk hk2
    obtain ⟨k1, k2, k3⟩ := sget_drop hk
    have hin : dIn (Int32.ofNat k) (stx j).length := by
      unfold dIn
      rw [oN_toInt (by omega)]
      omega
    refine B_iload_n dX12_spotOf_2 rfl rfl ?_
    refine B_aload_n dX12_spotOf_3 rfl rfl ?_
    refine B_slen dX12_spotOf_4 cl_X12_106 (Nat.le_of_ble_eq_true rfl) hj (Nat.le_of_ble_eq_true rfl) ?_
    refine B_icmp_ge_s (tgt := 27) dX12_spotOf_7 (by decide) (fun q => absurd (Int32.le_iff_toInt_le.mp q) (by unfold sln; rw [oN_toInt (by omega), oN_toInt (by omega)]; omega)) (fun _ => ?_)
    refine B_aload_n dX12_spotOf_10 rfl rfl ?_
    refine B_iload_n dX12_spotOf_11 rfl rfl ?_
    refine B_schr dX12_spotOf_12 cl_X12_112 (Nat.le_of_ble_eq_true rfl) hj hin (Nat.le_of_ble_eq_true rfl) ?_
    have e1 : (stx j).getD (dI (Int32.ofNat k)) 0 = b := by
      have e2 : dI (Int32.ofNat k) = k := by
        show (Int32.ofNat k).toInt.toNat = k
        rw [oN_toInt (by omega)]
        rfl
      rw [e2]
      exact k2
    rw [e1]
    refine B_iload_n dX12_spotOf_15 rfl rfl ?_
    refine B_icmp_ne_s (tgt := 21) dX12_spotOf_16 (by decide) (fun q => ?_) (fun q => ?_)
    · refine B_iinc (w := Int32.ofNat (k + 1)) (ls' := [.ref (2000 + j), .int c, .int (Int32.ofNat (k + 1))]) dX12_spotOf_21 rfl (by rw [← oN_succ, ic_1]) (Nat.le_of_ble_eq_true rfl) rfl rfl ?_
      refine B_goto (tgt := 2) dX12_spotOf_24 (by decide) ?_
      have hq : ¬ b = c := q
      rw [sfindF, if_neg hq]
      exact ih (k + 1) k3 (by omega)
    · have hq : b = c := Decidable.not_not.mp q
      refine B_iload_n dX12_spotOf_19 rfl rfl ?_
      rw [sfindF, if_pos hq]
      exact B_ireturn dX12_spotOf_20 rfl rfl
theorem t_X12_spotOf (j : Nat) (hj : j < 9) (c : Int32) (h : dH) : T XM 7 yX12_spotOf cX12_spotOf 3 (some .int) (fiP h) [.ref (2000 + j), .int c] h (some (f_X12_spotOf j c)) := by
  refine T_of [.ref (2000 + j), .int c, .null] (by decide) (fun _ => rfl) (fun _ => Nat.le_of_ble_eq_true rfl) ?_
  refine B_iconst dX12_spotOf_0 ic_0 ?_
  refine B_istore_n (ls' := [.ref (2000 + j), .int c, .int 0]) dX12_spotOf_1 rfl (Nat.le_of_ble_eq_true rfl) rfl rfl ?_
  exact b_X12_spotOf j hj c h (stx j) 0 rfl (Nat.zero_le _)
def f_X12_isAmong (j : Nat) (c : Int32) : Bool := (stx j).any (fun b => b == c)
theorem b_X12_isAmong (j : Nat) (hj : j < 9) (c : Int32) (h : dH) : ∀ (l : List Int32) (k : Nat), (stx j).drop k = l → k ≤ (stx j).length → B XM 7 RX12 cX12_isAmong 3 (some .boolean) (fiB h) 2 [.ref (2000 + j), .int c, .int (Int32.ofNat k)] [] h (some ((l : List Int32).any (fun b => b == c))) := by
  have hl := (stx_ok hj).1
  intro l
  induction l with
  | nil =>
    intro k hk hk2
    have hge : (stx j).length ≤ k := List.drop_eq_nil_iff.mp hk
    refine B_iload_n dX12_isAmong_2 rfl rfl ?_
    refine B_aload_n dX12_isAmong_3 rfl rfl ?_
    refine B_slen dX12_isAmong_4 cl_X12_106 (Nat.le_of_ble_eq_true rfl) hj (Nat.le_of_ble_eq_true rfl) ?_
    refine B_icmp_ge_s (tgt := 27) dX12_isAmong_7 (by decide) (fun _ => ?_) (fun q => absurd (Int32.le_iff_toInt_le.mpr (by unfold sln; rw [oN_toInt (by omega), oN_toInt (by omega)]; omega)) q)
    refine B_iconst dX12_isAmong_27 ic_0 ?_
    exact B_zreturn dX12_isAmong_28 rfl rfl rfl
  | cons b l ih =>
    intro k hk hk2
    obtain ⟨k1, k2, k3⟩ := sget_drop hk
    have hin : dIn (Int32.ofNat k) (stx j).length := by
      unfold dIn
      rw [oN_toInt (by omega)]
      omega
    refine B_iload_n dX12_isAmong_2 rfl rfl ?_
    refine B_aload_n dX12_isAmong_3 rfl rfl ?_
    refine B_slen dX12_isAmong_4 cl_X12_106 (Nat.le_of_ble_eq_true rfl) hj (Nat.le_of_ble_eq_true rfl) ?_
    refine B_icmp_ge_s (tgt := 27) dX12_isAmong_7 (by decide) (fun q => absurd (Int32.le_iff_toInt_le.mp q) (by unfold sln; rw [oN_toInt (by omega), oN_toInt (by omega)]; omega)) (fun _ => ?_)
    refine B_aload_n dX12_isAmong_10 rfl rfl ?_
    refine B_iload_n dX12_isAmong_11 rfl rfl ?_
    refine B_schr dX12_isAmong_12 cl_X12_112 (Nat.le_of_ble_eq_true rfl) hj hin (Nat.le_of_ble_eq_true rfl) ?_
    have e1 : (stx j).getD (dI (Int32.ofNat k)) 0 = b := by
      have e2 : dI (Int32.ofNat k) = k := by
        show (Int32.ofNat k).toInt.toNat = k
        rw [oN_toInt (by omega)]
        rfl
      rw [e2]
      exact k2
    rw [e1]
    refine B_iload_n dX12_isAmong_15 rfl rfl ?_
    refine B_icmp_ne_s (tgt := 21) dX12_isAmong_16 (by decide) (fun q => ?_) (fun q => ?_)
    · refine B_iinc (w := Int32.ofNat (k + 1)) (ls' := [.ref (2000 + j), .int c, .int (Int32.ofNat (k + 1))]) dX12_isAmong_21 rfl (by rw [← oN_succ, ic_1]) (Nat.le_of_ble_eq_true rfl) rfl rfl ?_
      refine B_goto (tgt := 2) dX12_isAmong_24 (by decide) ?_
      have hq : ¬ b = c := q
      rw [List.any_cons, show (b == c) = false by simpa using hq, Bool.false_or]
      exact ih (k + 1) k3 (by omega)
    · have hq : b = c := Decidable.not_not.mp q
      refine B_iconst dX12_isAmong_19 ic_1 ?_
      rw [List.any_cons, show (b == c) = true by simpa using hq, Bool.true_or]
      exact B_zreturn dX12_isAmong_20 rfl rfl rfl
theorem t_X12_isAmong (j : Nat) (hj : j < 9) (c : Int32) (h : dH) : T XM 7 yX12_isAmong cX12_isAmong 3 (some .boolean) (fiB h) [.ref (2000 + j), .int c] h (some (f_X12_isAmong j c)) := by
  refine T_of [.ref (2000 + j), .int c, .null] (by decide) (fun _ => rfl) (fun _ => Nat.le_of_ble_eq_true rfl) ?_
  refine B_iconst dX12_isAmong_0 ic_0 ?_
  refine B_istore_n (ls' := [.ref (2000 + j), .int c, .int 0]) dX12_isAmong_1 rfl (Nat.le_of_ble_eq_true rfl) rfl rfl ?_
  exact b_X12_isAmong j hj c h (stx j) 0 rfl (Nat.zero_le _)
def f_J9_floorMod_7cf53 (x0 x1 : Int32) : Option Int32 :=
  if ¬ x1 = 0 then
  if (x0 ^^^ x1) < 0 then
  if (x0 - x0 / x1 * x1) = 0 then some (x0 - x0 / x1 * x1) else some ((x0 - x0 / x1 * x1) + x1)
  else some (x0 - x0 / x1 * x1)
  else none
theorem Met_ofWF {l : Launch} {y : MethodName} {ws ws' : List Cond} {rm : Room} {Pc : Array Value → State → Prop} {Qc : Array Value → State → Outcome → State → Prop} {mc ms : Nat} {free : Addr → Prop} {cc : ByteArray} {maxL : Nat} {ret : Option FieldType}
    (hy : plainFor y = true) (hw : ws = Cond.code y cc maxL ret :: ws')
    (body : ∀ p e s m args below meth c s₁, BodyLoose p l y (headSpec ws rm) cc maxL ret e s m args below meth c s₁ → c.maxLocals = maxL → Pc args s →
      W p l e (headSpec ws rm).room s m args below meth c s.heap [] 0 0 (MQ below Qc args s mc ms free) (entryFrame m args maxL)) : Met l y ws rm Pc Qc mc ms free := by
  refine MetFree.of_bodySF (code := cc) (maxLocals := maxL) (ret := ret) hy (fun args s m h hn => ?_) (fun p e s m args below meth c s₁ Bd hml hP _ => ?_)
  · obtain ⟨meth, c, h1, h2, h3, h4, h5, h6, -, -⟩ := Cond.code_spec hn (atoms_spec (ws := ws) h _ (by rw [hw]; exact List.mem_cons_self))
    exact ⟨meth, c, h1, h2, h3, h4, h5, h6⟩
  · have hh : s₁.heap = s.heap := by rw [Bd.state]; rfl
    obtain ⟨t, a1, o, b1, b2, b3⟩ := body p e s m args below meth c s₁ Bd hml hP s₁ hh (Stand.of_body Bd)
    exact ⟨t, o, a1, b1, b2, ⟨b3.1, b3.2⟩⟩
theorem T_ofF {α : Type} {X : dX} {D : Nat} {y : MethodName} {cc : ByteArray} {nL : Nat} {rt : Option FieldType} {φ : α → Option Value × dH} {as : List Value} {h : dH} {o : Option α} (ls : List Value) (hy : plainFor y = true)
    (hl : ∀ G : dG, dL G 0 ls = lv_args 0 (as.map (dv G))) (hn : ∀ G : dG, (lg_sl (as.map (dv G))).length ≤ nL) (k : B X D y.cls cc nL rt φ 0 ls [] h o) : T X D y cc nL rt φ as h o := by
  intro x hx l G sz
  refine Met_ofWF (cc := cc) (maxL := nL) (ret := rt) hy rfl ?_
  intro p e s m args below meth c s₁ Bd hml hv
  obtain ⟨rfl, hsz, hP, hK, hI, hE, hlen, hEx⟩ := hv
  subst hsz
  have hts := atoms_spec (ws := .code y cc nL rt :: dWs) Bd.pre
  have hown : s.vm.findClass y.cls = some m.cls := findClass_of_methodNamed Bd.named
  have hen := lv_entry (as.map (dv G)) (n := nL) (hn G)
  rw [lg_entry_eq]
  generalize (lg_sl (as.map (dv G)) ++ List.replicate (nL - (lg_sl (as.map (dv G))).length) Slot.unset).toArray = lsA at hen ⊢
  rw [← hl G] at hen
  exact k x hx p l e s m _ below meth c G (dA X G s.heap.size) s.heap [] lsA ⟨Bd.exec, Bd.bytes, hml, hown, fun w hw => hts w (List.mem_cons_of_mem _ hw), Bd.returns, Bd.notSynchronized⟩
    ⟨hK, hP, hI, fun k hk => Or.inl ⟨k, hk, rfl⟩, va_S.rf, hE, fun q hq => Or.inr hq, hlen, hEx⟩ hen
theorem t_J9_floorMod_7cf53 (x0 x1 : Int32) (h : dH) : T XC 1 yJ9_floorMod_7cf53 cJ9_floorMod_7cf53 3 (some .int) (fiP h) [.int x0, .int x1] h (f_J9_floorMod_7cf53 x0 x1) := by
  refine T_ofF [.int x0, .int x1, .null] (by decide +kernel) (fun _ => rfl) (fun _ => Nat.le_of_ble_eq_true rfl) ?_
  unfold f_J9_floorMod_7cf53
  by_cases hz : ¬ x1 = 0
  · rw [if_pos hz]
    refine B_iload_n dJ9_floorMod_7cf53_0 rfl rfl ?_
    refine B_iload_n dJ9_floorMod_7cf53_1 rfl rfl ?_
    refine B_irem dJ9_floorMod_7cf53_2 hz ?_
    refine B_istore_n (ls' := [.int x0, .int x1, .int (x0 - x0 / x1 * x1)]) dJ9_floorMod_7cf53_3 rfl (Nat.le_of_ble_eq_true rfl) rfl rfl ?_
    refine B_iload_n dJ9_floorMod_7cf53_4 rfl rfl ?_
    refine B_iload_n dJ9_floorMod_7cf53_5 rfl rfl ?_
    refine B_ixor dJ9_floorMod_7cf53_6 ?_
    have last : B XC 1 yJ9_floorMod_7cf53.cls cJ9_floorMod_7cf53 3 (some .int) (fiP h) 18 [.int x0, .int x1, .int (x0 - x0 / x1 * x1)] [] h (some (x0 - x0 / x1 * x1)) := by
      refine B_iload_n dJ9_floorMod_7cf53_18 rfl rfl ?_
      exact B_ireturn dJ9_floorMod_7cf53_19 rfl rfl
    refine B_if_ge (tgt := 18) dJ9_floorMod_7cf53_7 (by decide) (by rw [Int32.not_lt]) (fun _ => last) (fun _ => ?_)
    refine B_iload_n dJ9_floorMod_7cf53_10 rfl rfl ?_
    refine B_if_eq_s (tgt := 18) dJ9_floorMod_7cf53_11 (by decide) (fun q => ?_) (fun q => ?_)
    · rw [if_pos q]
      exact last
    · rw [if_neg q]
      refine B_iload_n dJ9_floorMod_7cf53_14 rfl rfl ?_
      refine B_iload_n dJ9_floorMod_7cf53_15 rfl rfl ?_
      refine B_iadd dJ9_floorMod_7cf53_16 ?_
      exact B_ireturn dJ9_floorMod_7cf53_17 rfl rfl
  · rw [if_neg hz]
    exact B_none

