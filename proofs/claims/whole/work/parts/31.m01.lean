def f_X12_readCity_J88 (kL50 : Bool → dH → Option (dH)) (z0 : Bool) (h : dH) : Option (dH) :=
  if z0 then
  (some (dPut h 0 10 ((h.1 0 10) + 1))).bind fun h22 =>
  kL50 z0 h22
  else
  kL50 z0 h
set_option maxRecDepth 20000 in
set_option maxHeartbeats 4000000 in
theorem b_X12_readCity_J88 {kL50 : Bool → dH → Option (dH)} (hkL50 : ∀ (y1 : Bool) (h : dH), B XM 10 RX12 cX12_readCity 2 none fiV 50 [.ref 0, .int (bi y1)] [] h (kL50 y1 h)) (z0 : Bool) (h : dH) : B XM 10 RX12 cX12_readCity 2 none fiV 88 [.ref 0, .null] [.int (bi z0)] h (f_X12_readCity_J88 kL50 z0 h) := by
  unfold f_X12_readCity_J88
  refine B_istore_n (ls' := [.ref 0, .int (bi z0)]) dX12_readCity_88 rfl (Nat.le_of_ble_eq_true rfl) rfl rfl ?_
  refine B_iload_n dX12_readCity_89 rfl rfl ?_
  refine C_ifb_eq (tgt := 50) dX12_readCity_90 (by decide) (fun q23 => ?_) (fun q23 => ?_)
  · exact hkL50 z0  h
  · refine B_aload_n dX12_readCity_93 rfl rfl ?_
    refine B_dup dX12_readCity_94 rfl ?_
    refine B_getI dX12_readCity_95 fl_X12_126 shM_0 rfl ?_
    refine B_iconst dX12_readCity_98 ic_1 ?_
    refine B_iadd dX12_readCity_99 ?_
    refine B_putI dX12_readCity_100 fl_X12_126 fw_X12_10 shM_0 rfl ?_
    refine B_lh (fun h22 => ?_)
    refine B_goto (tgt := 50) dX12_readCity_103 (by decide) ?_
    exact hkL50 z0  h22
def f_X12_readCity_J87 (kL50 : Bool → dH → Option (dH)) (h : dH) : Option (dH) :=
  f_X12_readCity_J88 kL50 false h
set_option maxRecDepth 20000 in
set_option maxHeartbeats 4000000 in
theorem b_X12_readCity_J87 {kL50 : Bool → dH → Option (dH)} (hkL50 : ∀ (y1 : Bool) (h : dH), B XM 10 RX12 cX12_readCity 2 none fiV 50 [.ref 0, .int (bi y1)] [] h (kL50 y1 h)) (h : dH) : B XM 10 RX12 cX12_readCity 2 none fiV 87 [.ref 0, .null] [] h (f_X12_readCity_J87 kL50 h) := by
  unfold f_X12_readCity_J87
  refine B_iconst dX12_readCity_87 ic_0 ?_
  exact b_X12_readCity_J88 hkL50 false h
def f_X12_readCity_J129 (h : dH) : Option (dH) :=
  (f_X12_fails h).bind fun rv24 =>
  some rv24.2
set_option maxRecDepth 20000 in
set_option maxHeartbeats 4000000 in
theorem b_X12_readCity_J129 (h : dH) : B XM 10 RX12 cX12_readCity 2 none fiV 129 [.ref 0, .null] [] h (f_X12_readCity_J129 h) := by
  unfold f_X12_readCity_J129
  refine B_aload_n dX12_readCity_129 rfl rfl ?_
  refine B_VC (st := []) dX12_readCity_130 cl_X12_141 (t_X12_fails h) (Nat.le_of_ble_eq_true rfl) shM_0 rfl rfl (Nat.le_of_ble_eq_true rfl) (fun v24 h25 _ => ?_)
  refine B_pop dX12_readCity_133 rfl ?_
  exact B_return dX12_readCity_134 rfl rfl
def f_X12_readCity_J106 (h : dH) : Option (dH) :=
  if (h.1 0 11) = (-1) then
  (f_X12_look h).bind fun rv16 =>
  if rv16.1 = (-1) then
  (f_X12_isWhole rv16.2).bind fun v18 =>
  if v18 then
  some rv16.2
  else
  f_X12_readCity_J129 rv16.2
  else
  f_X12_readCity_J129 rv16.2
  else
  some h
set_option maxRecDepth 20000 in
set_option maxHeartbeats 4000000 in
theorem b_X12_readCity_J106 (h : dH) : B XM 10 RX12 cX12_readCity 2 none fiV 106 [.ref 0, .null] [] h (f_X12_readCity_J106 h) := by
  unfold f_X12_readCity_J106
  refine B_aload_n dX12_readCity_106 rfl rfl ?_
  refine B_getI dX12_readCity_107 fl_X12_135 shM_0 rfl ?_
  refine B_iconst dX12_readCity_110 ic_m1 ?_
  refine C_icmp_ne (tgt := 134) dX12_readCity_111 (by decide) (fun q21 => ?_) (fun q21 => ?_)
  · exact B_return dX12_readCity_134 rfl rfl
  · refine B_aload_n dX12_readCity_114 rfl rfl ?_
    refine B_VI (st := []) dX12_readCity_115 cl_X12_145 (t_X12_look h) (Nat.le_of_ble_eq_true rfl) shM_0 rfl rfl (Nat.le_of_ble_eq_true rfl) (fun v16 h17 _ => ?_)
    refine B_iconst dX12_readCity_118 ic_m1 ?_
    refine C_icmp_ne (tgt := 129) dX12_readCity_119 (by decide) (fun q20 => ?_) (fun q20 => ?_)
    · exact b_X12_readCity_J129 h17
    · refine B_aload_n dX12_readCity_122 rfl rfl ?_
      refine B_Vpb (st := []) dX12_readCity_123 cl_X12_266 (t_X12_isWhole h17) (Nat.le_of_ble_eq_true rfl) shM_0 rfl rfl (Nat.le_of_ble_eq_true rfl) (fun v18 _ => ?_)
      refine C_ifb_ne (tgt := 134) dX12_readCity_126 (by decide) (fun q19 => ?_) (fun q19 => ?_)
      · exact B_return dX12_readCity_134 rfl rfl
      · exact b_X12_readCity_J129 h17
def f_X12_readCity_L50 : Nat → Bool → dH → Option (dH)
  | 0, _, _ => none
  | n + 1, y1, h =>
    if y1 then
    if (h.1 0 11) = (-1) then
    (f_X12_readClause h).bind fun h9 =>
    if (h9.1 0 11) = (-1) then
    (f_X12_look h9).bind fun rv10 =>
    if rv10.1 = 59 then
    f_X12_readCity_J88 (f_X12_readCity_L50 n) true rv10.2
    else
    f_X12_readCity_J87 (f_X12_readCity_L50 n) rv10.2
    else
    f_X12_readCity_J87 (f_X12_readCity_L50 n) h9
    else
    f_X12_readCity_J106 h
    else
    f_X12_readCity_J106 h
set_option maxRecDepth 20000 in
set_option maxHeartbeats 4000000 in
theorem b_X12_readCity_L50 : ∀ (n : Nat) (y1 : Bool) (h : dH), B XM 10 RX12 cX12_readCity 2 none fiV 50 [.ref 0, .int (bi y1)] [] h (f_X12_readCity_L50 n y1 h) := by
  intro n
  induction n with
  | zero =>
    intro y1 h
    exact B_none
  | succ n ih =>
    intro y1 h
    rw [f_X12_readCity_L50]
    refine B_iload_n dX12_readCity_50 rfl rfl ?_
    refine C_ifb_eq (tgt := 106) dX12_readCity_51 (by decide) (fun q15 => ?_) (fun q15 => ?_)
    · refine B_drop 1 (ls' := [.ref 0, .null]) rfl ?_
      exact b_X12_readCity_J106 h
    · refine B_aload_n dX12_readCity_54 rfl rfl ?_
      refine B_getI dX12_readCity_55 fl_X12_135 shM_0 rfl ?_
      refine B_iconst dX12_readCity_58 ic_m1 ?_
      refine C_icmp_ne (tgt := 106) dX12_readCity_59 (by decide) (fun q14 => ?_) (fun q14 => ?_)
      · refine B_drop 1 (ls' := [.ref 0, .null]) rfl ?_
        exact b_X12_readCity_J106 h
      · refine B_aload_n dX12_readCity_62 rfl rfl ?_
        refine B_VV (st := []) dX12_readCity_63 cl_X12_263 (t_X12_readClause h) (Nat.le_of_ble_eq_true rfl) shM_0 rfl rfl (Nat.le_of_ble_eq_true rfl) (fun h9 _ => ?_)
        refine B_aload_n dX12_readCity_66 rfl rfl ?_
        refine B_getI dX12_readCity_67 fl_X12_135 shM_0 rfl ?_
        refine B_iconst dX12_readCity_70 ic_m1 ?_
        refine C_icmp_ne (tgt := 87) dX12_readCity_71 (by decide) (fun q13 => ?_) (fun q13 => ?_)
        · refine B_drop 1 (ls' := [.ref 0, .null]) rfl ?_
          exact b_X12_readCity_J87 (fun qy1 qh => ih qy1 qh) h9
        · refine B_aload_n dX12_readCity_74 rfl rfl ?_
          refine B_VI (st := []) dX12_readCity_75 cl_X12_145 (t_X12_look h9) (Nat.le_of_ble_eq_true rfl) shM_0 rfl rfl (Nat.le_of_ble_eq_true rfl) (fun v10 h11 _ => ?_)
          refine B_bipush dX12_readCity_78 bp_59 ?_
          refine C_icmp_ne (tgt := 87) dX12_readCity_80 (by decide) (fun q12 => ?_) (fun q12 => ?_)
          · refine B_drop 1 (ls' := [.ref 0, .null]) rfl ?_
            exact b_X12_readCity_J87 (fun qy1 qh => ih qy1 qh) h11
          · refine B_iconst dX12_readCity_83 ic_1 ?_
            refine B_goto (tgt := 88) dX12_readCity_84 (by decide) ?_
            refine B_drop 1 (ls' := [.ref 0, .null]) rfl ?_
            exact b_X12_readCity_J88 (fun qy1 qh => ih qy1 qh) true h11
def f_X12_readCity_L25 : Nat → Int32 → dH → Option (dH)
  | 0, _, _ => none
  | n + 1, y1, h =>
    if y1 < 3 then
    if dIn y1 3 then
    (some (dPut h 6 (dI y1) (f_X12_usual 115 y1 h))).bind fun h6 =>
    (f_X12_readCity_L25 n) (y1 + 1) h6
    else none
    else
    f_X12_readCity_L50 dFu true h
set_option maxRecDepth 20000 in
set_option maxHeartbeats 4000000 in
theorem b_X12_readCity_L25 : ∀ (n : Nat) (y1 : Int32) (h : dH), B XM 10 RX12 cX12_readCity 2 none fiV 25 [.ref 0, .int y1] [] h (f_X12_readCity_L25 n y1 h) := by
  intro n
  induction n with
  | zero =>
    intro y1 h
    exact B_none
  | succ n ih =>
    intro y1 h
    rw [f_X12_readCity_L25]
    refine B_iload_n dX12_readCity_25 rfl rfl ?_
    refine B_iconst dX12_readCity_26 ic_3 ?_
    refine C_icmp_ge (tgt := 48) dX12_readCity_27 (by decide) (fun q7 => ?_) (fun q7 => ?_)
    · refine B_iconst dX12_readCity_48 ic_1 ?_
      refine B_istore_n (ls' := [.ref 0, .int 1]) dX12_readCity_49 rfl (Nat.le_of_ble_eq_true rfl) rfl rfl ?_
      exact b_X12_readCity_L50 dFu true h
    · refine B_aload_n dX12_readCity_30 rfl rfl ?_
      refine B_getR dX12_readCity_31 fl_X12_40 shM_0 rfl (rfM_0_19 _) ?_
      refine B_iload_n dX12_readCity_34 rfl rfl ?_
      refine B_bipush dX12_readCity_35 bp_115 ?_
      refine B_iload_n dX12_readCity_37 rfl rfl ?_
      refine B_St (st := [.int y1, .ref 6]) dX12_readCity_38 cl_X12_228 (t_X12_usual 115 y1 h) (Nat.le_of_ble_eq_true rfl) rfl rfl (Nat.le_of_ble_eq_true rfl) ?_
      refine C_chk (fun q5 => ?_)
      refine L_iast dX12_readCity_41 shM_6 q5 rfl ?_
      refine B_lh (fun h6 => ?_)
      refine B_iinc (w := (y1 + 1)) (ls' := [.ref 0, .int (y1 + 1)]) dX12_readCity_42 rfl (congrArg (fun z => y1 + z) ic_1) (Nat.le_of_ble_eq_true rfl) rfl rfl ?_
      refine B_goto (tgt := 25) dX12_readCity_45 (by decide) ?_
      exact ih (y1 + 1)  h6
def f_X12_readCity (h : dH) : Option (dH) :=
  (f_X12_starts 1 0 (h.1 0 6) h).bind fun h2 =>
  (some (dPut h2 0 25 0)).bind fun h3 =>
  (some (dPut h3 0 27 0)).bind fun h4 =>
  f_X12_readCity_L25 dFu 0 h4
set_option maxRecDepth 20000 in
set_option maxHeartbeats 4000000 in
theorem t_X12_readCity (h : dH) : T XM 10 yX12_readCity cX12_readCity 2 none fiV [.ref 0] h (f_X12_readCity h) := by
  refine T_of [.ref 0, .null] (by decide) (fun _ => rfl) (fun _ => Nat.le_of_ble_eq_true rfl) ?_
  show B XM 10 RX12 cX12_readCity 2 none fiV 0 [.ref 0, .null] [] h (f_X12_readCity h)
  unfold f_X12_readCity
  refine B_aload_n dX12_readCity_0 rfl rfl ?_
  refine B_aload_n dX12_readCity_1 rfl rfl ?_
  refine B_getR dX12_readCity_2 fl_X12_9 shM_0 rfl (rfM_0_1 _) ?_
  refine B_iconst dX12_readCity_5 ic_0 ?_
  refine B_aload_n dX12_readCity_6 rfl rfl ?_
  refine B_getI dX12_readCity_7 fl_X12_116 shM_0 rfl ?_
  refine B_VV (st := []) dX12_readCity_10 cl_X12_214 (t_X12_starts 1 (Or.inl rfl) 0 (h.1 0 6) h) (Nat.le_of_ble_eq_true rfl) shM_0 rfl rfl (Nat.le_of_ble_eq_true rfl) (fun h2 _ => ?_)
  refine B_aload_n dX12_readCity_13 rfl rfl ?_
  refine B_iconst dX12_readCity_14 ic_0 ?_
  refine B_putI dX12_readCity_15 fl_X12_252 fw_X12_25 shM_0 rfl ?_
  refine B_lh (fun h3 => ?_)
  refine B_aload_n dX12_readCity_18 rfl rfl ?_
  refine B_iconst dX12_readCity_19 ic_0 ?_
  refine B_putZ dX12_readCity_20 fl_X12_249 fw_X12_27 shM_0 rfl (Or.inl rfl) ?_
  refine B_lh (fun h4 => ?_)
  refine B_iconst dX12_readCity_23 ic_0 ?_
  refine B_istore_n (ls' := [.ref 0, .int 0]) dX12_readCity_24 rfl (Nat.le_of_ble_eq_true rfl) rfl rfl ?_
  exact b_X12_readCity_L25 dFu 0 h4
def f_X12_readStep (x1 : Int32) (h : dH) : Option (dH) :=
  (f_X12_look h).bind fun rv1 =>
  (some ((f_X12_spotOf 8 rv1.1))).bind fun v3 =>
  if v3 = (-1) then
  (f_X12_fails rv1.2).bind fun rv19 =>
  some rv19.2
  else
  (some (dPut rv1.2 0 10 ((rv1.2.1 0 10) + 1))).bind fun h4 =>
  if dIn x1 160 then
  (some (dPut h4 9 (dI x1) v3)).bind fun h6 =>
  if dIn (x1 + 1) 160 then
  (some (dPut h6 9 (dI (x1 + 1)) (-1))).bind fun h8 =>
  if v3 = 1 then
  some h8
  else
  if v3 = 3 then
  some h8
  else
  (f_X12_look h8).bind fun rv9 =>
  (f_X12_isDigit rv9.2).bind fun v11 =>
  if v11 then
  if dIn (x1 + 1) 160 then
  (some (dPut rv9.2 9 (dI (x1 + 1)) (rv9.1 - 48))).bind fun h13 =>
  some (dPut h13 0 10 ((h13.1 0 10) + 1))
  else none
  else
  (f_X12_fails rv9.2).bind fun rv14 =>
  some rv14.2
  else none
  else none
set_option maxRecDepth 20000 in
set_option maxHeartbeats 4000000 in
theorem t_X12_readStep (x1 : Int32) (h : dH) : T XM 8 yX12_readStep cX12_readStep 4 none fiV [.ref 0, .int x1] h (f_X12_readStep x1 h) := by
  refine T_of [.ref 0, .int x1, .null, .null] (by decide) (fun _ => rfl) (fun _ => Nat.le_of_ble_eq_true rfl) ?_
  show B XM 8 RX12 cX12_readStep 4 none fiV 0 [.ref 0, .int x1, .null, .null] [] h (f_X12_readStep x1 h)
  unfold f_X12_readStep
  refine B_ldcwS (j := 8) dX12_readStep_0 rfl rfl rfl ?_
  refine B_aload_n dX12_readStep_3 rfl rfl ?_
  refine B_VI (st := [.ref (2000 + 8)]) dX12_readStep_4 cl_X12_145 (t_X12_look h) (Nat.le_of_ble_eq_true rfl) shM_0 rfl rfl (Nat.le_of_ble_eq_true rfl) (fun v1 h2 _ => ?_)
  refine B_St (st := []) dX12_readStep_7 cl_X12_232 (t_X12_spotOf 8 (by decide) v1 h2) (Nat.le_of_ble_eq_true rfl) rfl rfl (Nat.le_of_ble_eq_true rfl) ?_
  refine B_lv (fun v3 => ?_)
  refine B_istore_n (ls' := [.ref 0, .int x1, .int v3, .null]) dX12_readStep_10 rfl (Nat.le_of_ble_eq_true rfl) rfl rfl ?_
  refine B_iload_n dX12_readStep_11 rfl rfl ?_
  refine B_iconst dX12_readStep_12 ic_m1 ?_
  refine C_icmp_ne (tgt := 22) dX12_readStep_13 (by decide) (fun q21 => ?_) (fun q21 => ?_)
  · refine B_aload_n dX12_readStep_22 rfl rfl ?_
    refine B_dup dX12_readStep_23 rfl ?_
    refine B_getI dX12_readStep_24 fl_X12_126 shM_0 rfl ?_
    refine B_iconst dX12_readStep_27 ic_1 ?_
    refine B_iadd dX12_readStep_28 ?_
    refine B_putI dX12_readStep_29 fl_X12_126 fw_X12_10 shM_0 rfl ?_
    refine B_lh (fun h4 => ?_)
    refine B_aload_n dX12_readStep_32 rfl rfl ?_
    refine B_getR dX12_readStep_33 fl_X12_49 shM_0 rfl (rfM_0_22 _) ?_
    refine B_iload_n dX12_readStep_36 rfl rfl ?_
    refine B_iload_n dX12_readStep_37 rfl rfl ?_
    refine C_chk (fun q5 => ?_)
    refine L_iast dX12_readStep_38 shM_9 q5 rfl ?_
    refine B_lh (fun h6 => ?_)
    refine B_aload_n dX12_readStep_39 rfl rfl ?_
    refine B_getR dX12_readStep_40 fl_X12_49 shM_0 rfl (rfM_0_22 _) ?_
    refine B_iload_n dX12_readStep_43 rfl rfl ?_
    refine B_iconst dX12_readStep_44 ic_1 ?_
    refine B_iadd dX12_readStep_45 ?_
    refine B_iconst dX12_readStep_46 ic_m1 ?_
    refine C_chk (fun q7 => ?_)
    refine L_iast dX12_readStep_47 shM_9 q7 rfl ?_
    refine B_lh (fun h8 => ?_)
    refine B_iload_n dX12_readStep_48 rfl rfl ?_
    refine B_iconst dX12_readStep_49 ic_1 ?_
    refine C_icmp_eq (tgt := 58) dX12_readStep_50 (by decide) (fun q18 => ?_) (fun q18 => ?_)
    · exact B_return dX12_readStep_58 rfl rfl
    · refine B_iload_n dX12_readStep_53 rfl rfl ?_
      refine B_iconst dX12_readStep_54 ic_3 ?_
      refine C_icmp_ne (tgt := 59) dX12_readStep_55 (by decide) (fun q17 => ?_) (fun q17 => ?_)
      · refine B_aload_n dX12_readStep_59 rfl rfl ?_
        refine B_VI (st := []) dX12_readStep_60 cl_X12_145 (t_X12_look h8) (Nat.le_of_ble_eq_true rfl) shM_0 rfl rfl (Nat.le_of_ble_eq_true rfl) (fun v9 h10 _ => ?_)
        refine B_istore_n (ls' := [.ref 0, .int x1, .int v3, .int v9]) dX12_readStep_63 rfl (Nat.le_of_ble_eq_true rfl) rfl rfl ?_
        refine B_aload_n dX12_readStep_64 rfl rfl ?_
        refine B_Vpb (st := []) dX12_readStep_65 cl_X12_175 (t_X12_isDigit h10) (Nat.le_of_ble_eq_true rfl) shM_0 rfl rfl (Nat.le_of_ble_eq_true rfl) (fun v11 _ => ?_)
        refine C_ifb_ne (tgt := 77) dX12_readStep_68 (by decide) (fun q16 => ?_) (fun q16 => ?_)
        · refine B_aload_n dX12_readStep_77 rfl rfl ?_
          refine B_getR dX12_readStep_78 fl_X12_49 shM_0 rfl (rfM_0_22 _) ?_
          refine B_iload_n dX12_readStep_81 rfl rfl ?_
          refine B_iconst dX12_readStep_82 ic_1 ?_
          refine B_iadd dX12_readStep_83 ?_
          refine B_iload_n dX12_readStep_84 rfl rfl ?_
          refine B_bipush dX12_readStep_85 bp_48 ?_
          refine B_isub dX12_readStep_87 ?_
          refine C_chk (fun q12 => ?_)
          refine L_iast dX12_readStep_88 shM_9 q12 rfl ?_
          refine B_lh (fun h13 => ?_)
          refine B_aload_n dX12_readStep_89 rfl rfl ?_
          refine B_dup dX12_readStep_90 rfl ?_
          refine B_getI dX12_readStep_91 fl_X12_126 shM_0 rfl ?_
          refine B_iconst dX12_readStep_94 ic_1 ?_
          refine B_iadd dX12_readStep_95 ?_
          refine B_putI dX12_readStep_96 fl_X12_126 fw_X12_10 shM_0 rfl ?_
          exact B_return dX12_readStep_99 rfl rfl
        · refine B_aload_n dX12_readStep_71 rfl rfl ?_
          refine B_VC (st := []) dX12_readStep_72 cl_X12_141 (t_X12_fails h10) (Nat.le_of_ble_eq_true rfl) shM_0 rfl rfl (Nat.le_of_ble_eq_true rfl) (fun v14 h15 _ => ?_)
          refine B_pop dX12_readStep_75 rfl ?_
          exact B_return dX12_readStep_76 rfl rfl
      · exact B_return dX12_readStep_58 rfl rfl
  · refine B_aload_n dX12_readStep_16 rfl rfl ?_
    refine B_VC (st := []) dX12_readStep_17 cl_X12_141 (t_X12_fails h2) (Nat.le_of_ble_eq_true rfl) shM_0 rfl rfl (Nat.le_of_ble_eq_true rfl) (fun v19 h20 _ => ?_)
    refine B_pop dX12_readStep_20 rfl ?_
    exact B_return dX12_readStep_21 rfl rfl
def f_X12_readDays_J74 (kL17 : Int32 → Bool → dH → Option (dH)) (y1 : Int32) (y2 : Bool) (h : dH) : Option (dH) :=
  if y2 then
  (some (dPut h 0 10 ((h.1 0 10) + 1))).bind fun h20 =>
  kL17 y1 y2 h20
  else
  kL17 y1 y2 h
set_option maxRecDepth 20000 in
set_option maxHeartbeats 4000000 in
theorem b_X12_readDays_J74 {kL17 : Int32 → Bool → dH → Option (dH)} (hkL17 : ∀ (y1 : Int32) (y2 : Bool) (h : dH), B XM 9 RX12 cX12_readDays 3 none fiV 17 [.ref 0, .int y1, .int (bi y2)] [] h (kL17 y1 y2 h)) (y1 : Int32) (y2 : Bool) (h : dH) : B XM 9 RX12 cX12_readDays 3 none fiV 74 [.ref 0, .int y1, .int (bi y2)] [] h (f_X12_readDays_J74 kL17 y1 y2 h) := by
  unfold f_X12_readDays_J74
  refine B_iload_n dX12_readDays_74 rfl rfl ?_
  refine C_ifb_eq (tgt := 17) dX12_readDays_75 (by decide) (fun q21 => ?_) (fun q21 => ?_)
  · exact hkL17 y1 y2  h
  · refine B_aload_n dX12_readDays_78 rfl rfl ?_
    refine B_dup dX12_readDays_79 rfl ?_
    refine B_getI dX12_readDays_80 fl_X12_126 shM_0 rfl ?_
    refine B_iconst dX12_readDays_83 ic_1 ?_
    refine B_iadd dX12_readDays_84 ?_
    refine B_putI dX12_readDays_85 fl_X12_126 fw_X12_10 shM_0 rfl ?_
    refine B_lh (fun h20 => ?_)
    refine B_goto (tgt := 17) dX12_readDays_88 (by decide) ?_
    exact hkL17 y1 y2  h20
def f_X12_readDays_J57 (kL17 : Int32 → Bool → dH → Option (dH)) (y1 : Int32) (z0 : Bool) (h : dH) : Option (dH) :=
  if z0 then
  if y1 = 16 then
  (f_X12_fails h).bind fun rv16 =>
  some rv16.2
  else
  f_X12_readDays_J74 kL17 y1 z0 h
  else
  f_X12_readDays_J74 kL17 y1 z0 h
set_option maxRecDepth 20000 in
set_option maxHeartbeats 4000000 in
theorem b_X12_readDays_J57 {kL17 : Int32 → Bool → dH → Option (dH)} (hkL17 : ∀ (y1 : Int32) (y2 : Bool) (h : dH), B XM 9 RX12 cX12_readDays 3 none fiV 17 [.ref 0, .int y1, .int (bi y2)] [] h (kL17 y1 y2 h)) (y1 : Int32) (z0 : Bool) (h : dH) : B XM 9 RX12 cX12_readDays 3 none fiV 57 [.ref 0, .int y1, .null] [.int (bi z0)] h (f_X12_readDays_J57 kL17 y1 z0 h) := by
  unfold f_X12_readDays_J57
  refine B_istore_n (ls' := [.ref 0, .int y1, .int (bi z0)]) dX12_readDays_57 rfl (Nat.le_of_ble_eq_true rfl) rfl rfl ?_
  refine B_iload_n dX12_readDays_58 rfl rfl ?_
  refine C_ifb_eq (tgt := 74) dX12_readDays_59 (by decide) (fun q19 => ?_) (fun q19 => ?_)
  · exact b_X12_readDays_J74 hkL17 y1 z0 h
  · refine B_iload_n dX12_readDays_62 rfl rfl ?_
    refine B_bipush dX12_readDays_63 bp_16 ?_
    refine C_icmp_ne (tgt := 74) dX12_readDays_65 (by decide) (fun q18 => ?_) (fun q18 => ?_)
    · exact b_X12_readDays_J74 hkL17 y1 z0 h
    · refine B_aload_n dX12_readDays_68 rfl rfl ?_
      refine B_VC (st := []) dX12_readDays_69 cl_X12_141 (t_X12_fails h) (Nat.le_of_ble_eq_true rfl) shM_0 rfl rfl (Nat.le_of_ble_eq_true rfl) (fun v16 h17 _ => ?_)
      refine B_pop dX12_readDays_72 rfl ?_
      exact B_return dX12_readDays_73 rfl rfl
def f_X12_readDays_L17 : Nat → Int32 → Bool → dH → Option (dH)
  | 0, _, _, _ => none
  | n + 1, y1, y2, h =>
    if y2 then
    (f_X12_readStep (2 * (64 + y1)) h).bind fun h10 =>
    if (h10.1 0 11) = (-1) then
    (f_X12_look h10).bind fun rv11 =>
    if rv11.1 = 59 then
    f_X12_readDays_J57 (f_X12_readDays_L17 n) (y1 + 1) true rv11.2
    else
    f_X12_readDays_J57 (f_X12_readDays_L17 n) (y1 + 1) false rv11.2
    else
    some h10
    else
    (some (dPut h 10 4 y1)).bind fun h3 =>
    (f_X12_look h3).bind fun rv4 =>
    if rv4.1 = (-1) then
    some rv4.2
    else
    (f_X12_fails rv4.2).bind fun rv6 =>
    some rv6.2
set_option maxRecDepth 20000 in
set_option maxHeartbeats 4000000 in
theorem b_X12_readDays_L17 : ∀ (n : Nat) (y1 : Int32) (y2 : Bool) (h : dH), B XM 9 RX12 cX12_readDays 3 none fiV 17 [.ref 0, .int y1, .int (bi y2)] [] h (f_X12_readDays_L17 n y1 y2 h) := by
  intro n
  induction n with
  | zero =>
    intro y1 y2 h
    exact B_none
  | succ n ih =>
    intro y1 y2 h
    rw [f_X12_readDays_L17]
    refine B_iload_n dX12_readDays_17 rfl rfl ?_
    refine C_ifb_eq (tgt := 91) dX12_readDays_18 (by decide) (fun q15 => ?_) (fun q15 => ?_)
    · refine B_aload_n dX12_readDays_91 rfl rfl ?_
      refine B_getR dX12_readDays_92 fl_X12_52 shM_0 rfl (rfM_0_23 _) ?_
      refine B_iconst dX12_readDays_95 ic_4 ?_
      refine B_iload_n dX12_readDays_96 rfl rfl ?_
      refine L_iast dX12_readDays_97 shM_10 (by decide) di_4 ?_
      refine B_lh (fun h3 => ?_)
      refine B_aload_n dX12_readDays_98 rfl rfl ?_
      refine B_VI (st := []) dX12_readDays_99 cl_X12_145 (t_X12_look h3) (Nat.le_of_ble_eq_true rfl) shM_0 rfl rfl (Nat.le_of_ble_eq_true rfl) (fun v4 h5 _ => ?_)
      refine B_iconst dX12_readDays_102 ic_m1 ?_
      refine C_icmp_eq (tgt := 111) dX12_readDays_103 (by decide) (fun q8 => ?_) (fun q8 => ?_)
      · exact B_return dX12_readDays_111 rfl rfl
      · refine B_aload_n dX12_readDays_106 rfl rfl ?_
        refine B_VC (st := []) dX12_readDays_107 cl_X12_141 (t_X12_fails h5) (Nat.le_of_ble_eq_true rfl) shM_0 rfl rfl (Nat.le_of_ble_eq_true rfl) (fun v6 h7 _ => ?_)
        refine B_pop dX12_readDays_110 rfl ?_
        exact B_return dX12_readDays_111 rfl rfl
    · refine B_aload_n dX12_readDays_21 rfl rfl ?_
      refine B_iconst dX12_readDays_22 ic_2 ?_
      refine B_bipush dX12_readDays_23 bp_64 ?_
      refine B_iload_n dX12_readDays_25 rfl rfl ?_
      refine B_iadd dX12_readDays_26 ?_
      refine B_imul dX12_readDays_27 ?_
      refine B_VV (st := []) dX12_readDays_28 cl_X12_271 (t_X12_readStep (2 * (64 + y1)) h) (Nat.le_of_ble_eq_true rfl) shM_0 rfl rfl (Nat.le_of_ble_eq_true rfl) (fun h10 _ => ?_)
      refine B_aload_n dX12_readDays_31 rfl rfl ?_
      refine B_getI dX12_readDays_32 fl_X12_135 shM_0 rfl ?_
      refine B_iconst dX12_readDays_35 ic_m1 ?_
      refine C_icmp_eq (tgt := 40) dX12_readDays_36 (by decide) (fun q14 => ?_) (fun q14 => ?_)
      · refine B_iinc (w := (y1 + 1)) (ls' := [.ref 0, .int (y1 + 1), .int (bi y2)]) dX12_readDays_40 rfl (congrArg (fun z => y1 + z) ic_1) (Nat.le_of_ble_eq_true rfl) rfl rfl ?_
        refine B_aload_n dX12_readDays_43 rfl rfl ?_
        refine B_VI (st := []) dX12_readDays_44 cl_X12_145 (t_X12_look h10) (Nat.le_of_ble_eq_true rfl) shM_0 rfl rfl (Nat.le_of_ble_eq_true rfl) (fun v11 h12 _ => ?_)
        refine B_bipush dX12_readDays_47 bp_59 ?_
        refine C_icmp_ne (tgt := 56) dX12_readDays_49 (by decide) (fun q13 => ?_) (fun q13 => ?_)
        · refine B_iconst dX12_readDays_56 ic_0 ?_
          refine B_drop 2 (ls' := [.ref 0, .int (y1 + 1), .null]) rfl ?_
          exact b_X12_readDays_J57 (fun qy1 qy2 qh => ih qy1 qy2 qh) (y1 + 1) false h12
        · refine B_iconst dX12_readDays_52 ic_1 ?_
          refine B_goto (tgt := 57) dX12_readDays_53 (by decide) ?_
          refine B_drop 2 (ls' := [.ref 0, .int (y1 + 1), .null]) rfl ?_
          exact b_X12_readDays_J57 (fun qy1 qy2 qh => ih qy1 qy2 qh) (y1 + 1) true h12
      · exact B_return dX12_readDays_39 rfl rfl
def f_X12_readDays (h : dH) : Option (dH) :=
  (f_X12_starts 1 0 (h.1 0 6) h).bind fun h2 =>
  f_X12_readDays_L17 dFu 0 true h2
set_option maxRecDepth 20000 in
set_option maxHeartbeats 4000000 in
theorem t_X12_readDays (h : dH) : T XM 9 yX12_readDays cX12_readDays 3 none fiV [.ref 0] h (f_X12_readDays h) := by
  refine T_of [.ref 0, .null, .null] (by decide) (fun _ => rfl) (fun _ => Nat.le_of_ble_eq_true rfl) ?_
  show B XM 9 RX12 cX12_readDays 3 none fiV 0 [.ref 0, .null, .null] [] h (f_X12_readDays h)
  unfold f_X12_readDays
  refine B_aload_n dX12_readDays_0 rfl rfl ?_
  refine B_aload_n dX12_readDays_1 rfl rfl ?_
  refine B_getR dX12_readDays_2 fl_X12_9 shM_0 rfl (rfM_0_1 _) ?_
  refine B_iconst dX12_readDays_5 ic_0 ?_
  refine B_aload_n dX12_readDays_6 rfl rfl ?_
  refine B_getI dX12_readDays_7 fl_X12_116 shM_0 rfl ?_
  refine B_VV (st := []) dX12_readDays_10 cl_X12_214 (t_X12_starts 1 (Or.inl rfl) 0 (h.1 0 6) h) (Nat.le_of_ble_eq_true rfl) shM_0 rfl rfl (Nat.le_of_ble_eq_true rfl) (fun h2 _ => ?_)
  refine B_iconst dX12_readDays_13 ic_0 ?_
  refine B_istore_n (ls' := [.ref 0, .int 0, .null]) dX12_readDays_14 rfl (Nat.le_of_ble_eq_true rfl) rfl rfl ?_
  refine B_iconst dX12_readDays_15 ic_1 ?_
  refine B_istore_n (ls' := [.ref 0, .int 0, .int 1]) dX12_readDays_16 rfl (Nat.le_of_ble_eq_true rfl) rfl rfl ?_
  exact b_X12_readDays_L17 dFu 0 true h2
def f_X12_fault_J46 (y1 : Int32) (h : dH) : Option (Int32 × dH) :=
  if y1 = 2 then
  (f_X12_readDays h).bind fun h10 =>
  some ((h10.1 0 11), h10)
  else
  some ((h.1 0 11), h)
set_option maxRecDepth 20000 in
set_option maxHeartbeats 4000000 in
theorem b_X12_fault_J46 (y1 : Int32) (h : dH) : B XM 83 RX12 cX12_fault 2 (some .int) fiI 46 [.ref 0, .int y1] [] h (f_X12_fault_J46 y1 h) := by
  unfold f_X12_fault_J46
  refine B_iload_n dX12_fault_46 rfl rfl ?_
  refine B_iconst dX12_fault_47 ic_2 ?_
  refine C_icmp_ne (tgt := 55) dX12_fault_48 (by decide) (fun q11 => ?_) (fun q11 => ?_)
  · refine B_aload_n dX12_fault_55 rfl rfl ?_
    refine B_getI dX12_fault_56 fl_X12_135 shM_0 rfl ?_
    exact B_ireturn dX12_fault_59 rfl rfl
  · refine B_aload_n dX12_fault_51 rfl rfl ?_
    refine B_VV (st := []) dX12_fault_52 cl_X12_282 (t_X12_readDays h) (Nat.le_of_ble_eq_true rfl) shM_0 rfl rfl (Nat.le_of_ble_eq_true rfl) (fun h10 _ => ?_)
    refine B_aload_n dX12_fault_55 rfl rfl ?_
    refine B_getI dX12_fault_56 fl_X12_135 shM_0 rfl ?_
    exact B_ireturn dX12_fault_59 rfl rfl
def f_X12_fault_J28 (y1 : Int32) (h : dH) : Option (Int32 × dH) :=
  if y1 = 1 then
  (f_X12_goThrough 1 0 (h.1 0 6) h).bind fun h7 =>
  f_X12_fault_J46 y1 h7
  else
  f_X12_fault_J46 y1 h
set_option maxRecDepth 20000 in
set_option maxHeartbeats 4000000 in
theorem b_X12_fault_J28 (y1 : Int32) (h : dH) : B XM 83 RX12 cX12_fault 2 (some .int) fiI 28 [.ref 0, .int y1] [] h (f_X12_fault_J28 y1 h) := by
  unfold f_X12_fault_J28
  refine B_iload_n dX12_fault_28 rfl rfl ?_
  refine B_iconst dX12_fault_29 ic_1 ?_
  refine C_icmp_ne (tgt := 46) dX12_fault_30 (by decide) (fun q8 => ?_) (fun q8 => ?_)
  · exact b_X12_fault_J46 y1 h
  · refine B_aload_n dX12_fault_33 rfl rfl ?_
    refine B_aload_n dX12_fault_34 rfl rfl ?_
    refine B_getR dX12_fault_35 fl_X12_9 shM_0 rfl (rfM_0_1 _) ?_
    refine B_iconst dX12_fault_38 ic_0 ?_
    refine B_aload_n dX12_fault_39 rfl rfl ?_
    refine B_getI dX12_fault_40 fl_X12_116 shM_0 rfl ?_
    refine B_VV (st := []) dX12_fault_43 cl_X12_279 (t_X12_goThrough 1 (Or.inl rfl) 0 (h.1 0 6) h) (Nat.le_of_ble_eq_true rfl) shM_0 rfl rfl (Nat.le_of_ble_eq_true rfl) (fun h7 _ => ?_)
    exact b_X12_fault_J46 y1 h7
def f_X12_fault (x1 : Int32) (h : dH) : Option (Int32 × dH) :=
  (some (dPut h 0 0 0)).bind fun h1 =>
  if (f_X12_isIn ((x1 : Int32).toInt64) 0 2 h1) then
  if x1 = 0 then
  (f_X12_readCity h1).bind fun h3 =>
  f_X12_fault_J28 x1 h3
  else
  f_X12_fault_J28 x1 h1
  else
  some ((-2), h1)
set_option maxRecDepth 20000 in
set_option maxHeartbeats 4000000 in
theorem t_X12_fault (x1 : Int32) (h : dH) : T XM 83 yX12_fault cX12_fault 2 (some .int) fiI [.ref 0, .int x1] h (f_X12_fault x1 h) := by
  refine T_of [.ref 0, .int x1] (by decide) (fun _ => rfl) (fun _ => Nat.le_of_ble_eq_true rfl) ?_
  show B XM 83 RX12 cX12_fault 2 (some .int) fiI 0 [.ref 0, .int x1] [] h (f_X12_fault x1 h)
  unfold f_X12_fault
  refine B_aload_n dX12_fault_0 rfl rfl ?_
  refine B_iconst dX12_fault_1 ic_0 ?_
  refine B_putI dX12_fault_2 fl_X12_103 fw_X12_0 shM_0 rfl ?_
  refine B_lh (fun h1 => ?_)
  refine B_iload_n dX12_fault_5 rfl rfl ?_
  refine B_i2l dX12_fault_6 ?_
  refine B_lconst (v := 0) dX12_fault_7 (by decide) ?_
  refine B_ldc2 dX12_fault_8 kc_X12_274 ?_
  refine B_STb (st := []) dX12_fault_11 cl_X12_224 (t_X12_isIn ((x1 : Int32).toInt64) 0 2 h1) (Nat.le_of_ble_eq_true rfl) rfl rfl (Nat.le_of_ble_eq_true rfl) ?_
  refine C_ifb_ne (tgt := 20) dX12_fault_14 (by decide) (fun q5 => ?_) (fun q5 => ?_)
  · refine B_iload_n dX12_fault_20 rfl rfl ?_
    refine C_if_ne (tgt := 28) dX12_fault_21 (by decide) (fun q4 => ?_) (fun q4 => ?_)
    · exact b_X12_fault_J28 x1 h1
    · refine B_aload_n dX12_fault_24 rfl rfl ?_
      refine B_VV (st := []) dX12_fault_25 cl_X12_276 (t_X12_readCity h1) (Nat.le_of_ble_eq_true rfl) shM_0 rfl rfl (Nat.le_of_ble_eq_true rfl) (fun h3 _ => ?_)
      exact b_X12_fault_J28 x1 h3
  · refine B_bipush dX12_fault_17 bp_m2 ?_
    exact B_ireturn dX12_fault_19 rfl rfl
def f_X12_text_L71 : Nat → Int32 → Int32 → dH → Option (Int32 × dH)
  | 0, _, _, _ => none
  | n + 1, y2, y3, h =>
    if y3 < y2 then
    if dIn y3 240 then
    if dIn ((240 * (h.1 0 7)) + y3) 960 then
    (some (dPut h 2 (dI ((240 * (h.1 0 7)) + y3)) (vp_nar .byte (h.1 1 (dI y3))))).bind fun h29 =>
    (f_X12_text_L71 n) y2 (y3 + 1) h29
    else none
    else none
    else
    if dIn (h.1 0 7) 4 then
    (some (dPut h 3 (dI (h.1 0 7)) y2)).bind fun h26 =>
    some ((((dPut h26 0 7 ((h26.1 0 7) + 1)).1 0 7) - 1), (dPut h26 0 7 ((h26.1 0 7) + 1)))
    else none
set_option maxRecDepth 20000 in
set_option maxHeartbeats 4000000 in
theorem b_X12_text_L71 : ∀ (n : Nat) (y2 : Int32) (y3 : Int32) (h : dH), B XM 84 RX12 cX12_text 4 (some .int) fiI 71 [.ref 0, .null, .int y2, .int y3] [] h (f_X12_text_L71 n y2 y3 h) := by
  intro n
  induction n with
  | zero =>
    intro y2 y3 h
    exact B_none
  | succ n ih =>
    intro y2 y3 h
    rw [f_X12_text_L71]
    refine B_iload_n dX12_text_71 rfl rfl ?_
    refine B_iload_n dX12_text_72 rfl rfl ?_
    refine C_icmp_ge (tgt := 103) dX12_text_73 (by decide) (fun q30 => ?_) (fun q30 => ?_)
    · refine B_aload_n dX12_text_103 rfl rfl ?_
      refine B_getR dX12_text_104 fl_X12_16 shM_0 rfl (rfM_0_3 _) ?_
      refine B_aload_n dX12_text_107 rfl rfl ?_
      refine B_getI dX12_text_108 fl_X12_285 shM_0 rfl ?_
      refine B_iload_n dX12_text_111 rfl rfl ?_
      refine C_chk (fun q25 => ?_)
      refine L_iast dX12_text_112 shM_3 q25 rfl ?_
      refine B_lh (fun h26 => ?_)
      refine B_aload_n dX12_text_113 rfl rfl ?_
      refine B_dup dX12_text_114 rfl ?_
      refine B_getI dX12_text_115 fl_X12_285 shM_0 rfl ?_
      refine B_iconst dX12_text_118 ic_1 ?_
      refine B_iadd dX12_text_119 ?_
      refine B_putI dX12_text_120 fl_X12_285 fw_X12_7 shM_0 rfl ?_
      refine B_aload_n dX12_text_123 rfl rfl ?_
      refine B_getI dX12_text_124 fl_X12_285 shM_0 rfl ?_
      refine B_iconst dX12_text_127 ic_1 ?_
      refine B_isub dX12_text_128 ?_
      exact B_ireturn dX12_text_129 rfl rfl
    · refine B_aload_n dX12_text_76 rfl rfl ?_
      refine B_getR dX12_text_77 fl_X12_13 shM_0 rfl (rfM_0_2 _) ?_
      refine B_sipush dX12_text_80 sp_240 ?_
      refine B_aload_n dX12_text_83 rfl rfl ?_
      refine B_getI dX12_text_84 fl_X12_285 shM_0 rfl ?_
      refine B_imul dX12_text_87 ?_
      refine B_iload_n dX12_text_88 rfl rfl ?_
      refine B_iadd dX12_text_89 ?_
      refine B_aload_n dX12_text_90 rfl rfl ?_
      refine B_getR dX12_text_91 fl_X12_9 shM_0 rfl (rfM_0_1 _) ?_
      refine B_iload_n dX12_text_94 rfl rfl ?_
      refine C_chk (fun q27 => ?_)
      refine L_bald dX12_text_95 shM_1 q27 rfl ?_
      refine C_chk (fun q28 => ?_)
      refine L_bast dX12_text_96 shM_2 q28 rfl ?_
      refine B_lh (fun h29 => ?_)
      refine B_iinc (w := (y3 + 1)) (ls' := [.ref 0, .null, .int y2, .int (y3 + 1)]) dX12_text_97 rfl (congrArg (fun z => y3 + z) ic_1) (Nat.le_of_ble_eq_true rfl) rfl rfl ?_
      refine B_goto (tgt := 71) dX12_text_100 (by decide) ?_
      exact ih y2 (y3 + 1)  h29
def f_X12_text_L137 : Nat → Int32 → dH → Option (Int32 × dH)
  | 0, _, _ => none
  | n + 1, y3, h =>
    if y3 < 32 then
    if dIn (128 + y3) 160 then
    if dIn ((32 * (h.1 0 26)) + y3) 160 then
    (some (dPut h 9 (dI ((32 * (h.1 0 26)) + y3)) (h.1 9 (dI (128 + y3))))).bind fun h23 =>
    (f_X12_text_L137 n) (y3 + 1) h23
    else none
    else none
    else
    if dIn (h.1 0 26) 5 then
    (some (dPut h 10 (dI (h.1 0 26)) (h.1 10 4))).bind fun h20 =>
    some ((((dPut h20 0 26 ((h20.1 0 26) + 1)).1 0 26) - 1), (dPut h20 0 26 ((h20.1 0 26) + 1)))
    else none
set_option maxRecDepth 20000 in
set_option maxHeartbeats 4000000 in
theorem b_X12_text_L137 : ∀ (n : Nat) (y3 : Int32) (h : dH), B XM 84 RX12 cX12_text 4 (some .int) fiI 137 [.ref 0, .null, .null, .int y3] [] h (f_X12_text_L137 n y3 h) := by
  intro n
  induction n with
  | zero =>
    intro y3 h
    exact B_none
  | succ n ih =>
    intro y3 h
    rw [f_X12_text_L137]
    refine B_iload_n dX12_text_137 rfl rfl ?_
    refine B_bipush dX12_text_138 bp_32 ?_
    refine C_icmp_ge (tgt := 173) dX12_text_140 (by decide) (fun q24 => ?_) (fun q24 => ?_)
    · refine B_aload_n dX12_text_173 rfl rfl ?_
      refine B_getR dX12_text_174 fl_X12_52 shM_0 rfl (rfM_0_23 _) ?_
      refine B_aload_n dX12_text_177 rfl rfl ?_
      refine B_getI dX12_text_178 fl_X12_288 shM_0 rfl ?_
      refine B_aload_n dX12_text_181 rfl rfl ?_
      refine B_getR dX12_text_182 fl_X12_52 shM_0 rfl (rfM_0_23 _) ?_
      refine B_iconst dX12_text_185 ic_4 ?_
      refine L_iald dX12_text_186 shM_10 (by decide) di_4 ?_
      refine C_chk (fun q19 => ?_)
      refine L_iast dX12_text_187 shM_10 q19 rfl ?_
      refine B_lh (fun h20 => ?_)
      refine B_aload_n dX12_text_188 rfl rfl ?_
      refine B_dup dX12_text_189 rfl ?_
      refine B_getI dX12_text_190 fl_X12_288 shM_0 rfl ?_
      refine B_iconst dX12_text_193 ic_1 ?_
      refine B_iadd dX12_text_194 ?_
      refine B_putI dX12_text_195 fl_X12_288 fw_X12_26 shM_0 rfl ?_
      refine B_aload_n dX12_text_198 rfl rfl ?_
      refine B_getI dX12_text_199 fl_X12_288 shM_0 rfl ?_
      refine B_iconst dX12_text_202 ic_1 ?_
      refine B_isub dX12_text_203 ?_
      exact B_ireturn dX12_text_204 rfl rfl
    · refine B_aload_n dX12_text_143 rfl rfl ?_
      refine B_getR dX12_text_144 fl_X12_49 shM_0 rfl (rfM_0_22 _) ?_
      refine B_bipush dX12_text_147 bp_32 ?_
      refine B_aload_n dX12_text_149 rfl rfl ?_
      refine B_getI dX12_text_150 fl_X12_288 shM_0 rfl ?_
      refine B_imul dX12_text_153 ?_
      refine B_iload_n dX12_text_154 rfl rfl ?_
      refine B_iadd dX12_text_155 ?_
      refine B_aload_n dX12_text_156 rfl rfl ?_
      refine B_getR dX12_text_157 fl_X12_49 shM_0 rfl (rfM_0_22 _) ?_
      refine B_sipush dX12_text_160 sp_128 ?_
      refine B_iload_n dX12_text_163 rfl rfl ?_
      refine B_iadd dX12_text_164 ?_
      refine C_chk (fun q21 => ?_)
      refine L_iald dX12_text_165 shM_9 q21 rfl ?_
      refine C_chk (fun q22 => ?_)
      refine L_iast dX12_text_166 shM_9 q22 rfl ?_
      refine B_lh (fun h23 => ?_)
      refine B_iinc (w := (y3 + 1)) (ls' := [.ref 0, .null, .null, .int (y3 + 1)]) dX12_text_167 rfl (congrArg (fun z => y3 + z) ic_1) (Nat.le_of_ble_eq_true rfl) rfl rfl ?_
      refine B_goto (tgt := 137) dX12_text_170 (by decide) ?_
      exact ih (y3 + 1)  h23
def f_X12_text_L288 : Nat → Int32 → dH → Option (Int32 × dH)
  | 0, _, _ => none
  | n + 1, y3, h =>
    if y3 < (h.1 0 24) then
    if dIn ((5 * y3) + 4) 35 then
    if dIn ((3 * y3) + 1) 209 then
    (some (dPut h 11 (dI ((3 * y3) + 1)) (h.1 7 (dI ((5 * y3) + 4))))).bind fun h42 =>
    (f_X12_text_L288 n) (y3 + 1) h42
    else none
    else none
    else
    (some (dPut h 0 47 0)).bind fun h38 =>
    (some (dPut h38 0 35 0)).bind fun h39 =>
    some (((dPut h39 0 54 0).1 0 24), (dPut h39 0 54 0))
set_option maxRecDepth 20000 in
set_option maxHeartbeats 4000000 in
theorem b_X12_text_L288 : ∀ (n : Nat) (y3 : Int32) (h : dH), B XM 84 RX12 cX12_text 4 (some .int) fiI 288 [.ref 0, .null, .null, .int y3] [] h (f_X12_text_L288 n y3 h) := by
  intro n
  induction n with
  | zero =>
    intro y3 h
    exact B_none
  | succ n ih =>
    intro y3 h
    rw [f_X12_text_L288]
    refine B_iload_n dX12_text_288 rfl rfl ?_
    refine B_aload_n dX12_text_289 rfl rfl ?_
    refine B_getI dX12_text_290 fl_X12_293 shM_0 rfl ?_
    refine C_icmp_ge (tgt := 322) dX12_text_293 (by decide) (fun q43 => ?_) (fun q43 => ?_)
    · refine B_aload_n dX12_text_322 rfl rfl ?_
      refine B_iconst dX12_text_323 ic_0 ?_
      refine B_putI dX12_text_324 fl_X12_296 fw_X12_47 shM_0 rfl ?_
      refine B_lh (fun h38 => ?_)
      refine B_aload_n dX12_text_327 rfl rfl ?_
      refine B_iconst dX12_text_328 ic_0 ?_
      refine B_putI dX12_text_329 fl_X12_299 fw_X12_35 shM_0 rfl ?_
      refine B_lh (fun h39 => ?_)
      refine B_aload_n dX12_text_332 rfl rfl ?_
      refine B_iconst dX12_text_333 ic_0 ?_
      refine B_putZ dX12_text_334 fl_X12_302 fw_X12_54 shM_0 rfl (Or.inl rfl) ?_
      refine B_aload_n dX12_text_337 rfl rfl ?_
      refine B_getI dX12_text_338 fl_X12_293 shM_0 rfl ?_
      exact B_ireturn dX12_text_341 rfl rfl
    · refine B_aload_n dX12_text_296 rfl rfl ?_
      refine B_getR dX12_text_297 fl_X12_55 shM_0 rfl (rfM_0_28 _) ?_
      refine B_iconst dX12_text_300 ic_3 ?_
      refine B_iload_n dX12_text_301 rfl rfl ?_
      refine B_imul dX12_text_302 ?_
      refine B_iconst dX12_text_303 ic_1 ?_
      refine B_iadd dX12_text_304 ?_
      refine B_aload_n dX12_text_305 rfl rfl ?_
      refine B_getR dX12_text_306 fl_X12_43 shM_0 rfl (rfM_0_20 _) ?_
      refine B_iconst dX12_text_309 ic_5 ?_
      refine B_iload_n dX12_text_310 rfl rfl ?_
      refine B_imul dX12_text_311 ?_
      refine B_iconst dX12_text_312 ic_4 ?_
      refine B_iadd dX12_text_313 ?_
      refine C_chk (fun q40 => ?_)
      refine L_iald dX12_text_314 shM_7 q40 rfl ?_
      refine C_chk (fun q41 => ?_)
      refine L_iast dX12_text_315 shM_11 q41 rfl ?_
      refine B_lh (fun h42 => ?_)
      refine B_iinc (w := (y3 + 1)) (ls' := [.ref 0, .null, .null, .int (y3 + 1)]) dX12_text_316 rfl (congrArg (fun z => y3 + z) ic_1) (Nat.le_of_ble_eq_true rfl) rfl rfl ?_
      refine B_goto (tgt := 288) dX12_text_319 (by decide) ?_
      exact ih (y3 + 1)  h42
def f_X12_text_L266 : Nat → Int32 → dH → Option (Int32 × dH)
  | 0, _, _ => none
  | n + 1, y3, h =>
    if y3 < 209 then
    if dIn y3 209 then
    (some (dPut h 11 (dI y3) 0)).bind fun h36 =>
    (f_X12_text_L266 n) (y3 + 1) h36
    else none
    else
    f_X12_text_L288 dFu 0 h
set_option maxRecDepth 20000 in
set_option maxHeartbeats 4000000 in
theorem b_X12_text_L266 : ∀ (n : Nat) (y3 : Int32) (h : dH), B XM 84 RX12 cX12_text 4 (some .int) fiI 266 [.ref 0, .null, .null, .int y3] [] h (f_X12_text_L266 n y3 h) := by
  intro n
  induction n with
  | zero =>
    intro y3 h
    exact B_none
  | succ n ih =>
    intro y3 h
    rw [f_X12_text_L266]
    refine B_iload_n dX12_text_266 rfl rfl ?_
    refine B_sipush dX12_text_267 sp_209 ?_
    refine C_icmp_ge (tgt := 286) dX12_text_270 (by decide) (fun q37 => ?_) (fun q37 => ?_)
    · refine B_iconst dX12_text_286 ic_0 ?_
      refine B_istore_n (ls' := [.ref 0, .null, .null, .int 0]) dX12_text_287 rfl (Nat.le_of_ble_eq_true rfl) rfl rfl ?_
      exact b_X12_text_L288 dFu 0 h
    · refine B_aload_n dX12_text_273 rfl rfl ?_
      refine B_getR dX12_text_274 fl_X12_55 shM_0 rfl (rfM_0_28 _) ?_
      refine B_iload_n dX12_text_277 rfl rfl ?_
      refine B_iconst dX12_text_278 ic_0 ?_
      refine C_chk (fun q35 => ?_)
      refine L_iast dX12_text_279 shM_11 q35 rfl ?_
      refine B_lh (fun h36 => ?_)
      refine B_iinc (w := (y3 + 1)) (ls' := [.ref 0, .null, .null, .int (y3 + 1)]) dX12_text_280 rfl (congrArg (fun z => y3 + z) ic_1) (Nat.le_of_ble_eq_true rfl) rfl rfl ?_
      refine B_goto (tgt := 266) dX12_text_283 (by decide) ?_
      exact ih (y3 + 1)  h36
def f_X12_text_L240 : Nat → Int32 → dH → Option (Int32 × dH)
  | 0, _, _ => none
  | n + 1, y3, h =>
    if y3 < 35 then
    if dIn y3 35 then
    if dIn y3 35 then
    (some (dPut h 7 (dI y3) (h.1 8 (dI y3)))).bind fun h33 =>
    (f_X12_text_L240 n) (y3 + 1) h33
    else none
    else none
    else
    f_X12_text_L266 dFu 0 h
set_option maxRecDepth 20000 in
set_option maxHeartbeats 4000000 in
theorem b_X12_text_L240 : ∀ (n : Nat) (y3 : Int32) (h : dH), B XM 84 RX12 cX12_text 4 (some .int) fiI 240 [.ref 0, .null, .null, .int y3] [] h (f_X12_text_L240 n y3 h) := by
  intro n
  induction n with
  | zero =>
    intro y3 h
    exact B_none
  | succ n ih =>
    intro y3 h
    rw [f_X12_text_L240]
    refine B_iload_n dX12_text_240 rfl rfl ?_
    refine B_bipush dX12_text_241 bp_35 ?_
    refine C_icmp_ge (tgt := 264) dX12_text_243 (by decide) (fun q34 => ?_) (fun q34 => ?_)
    · refine B_iconst dX12_text_264 ic_0 ?_
      refine B_istore_n (ls' := [.ref 0, .null, .null, .int 0]) dX12_text_265 rfl (Nat.le_of_ble_eq_true rfl) rfl rfl ?_
      exact b_X12_text_L266 dFu 0 h
    · refine B_aload_n dX12_text_246 rfl rfl ?_
      refine B_getR dX12_text_247 fl_X12_43 shM_0 rfl (rfM_0_20 _) ?_
      refine B_iload_n dX12_text_250 rfl rfl ?_
      refine B_aload_n dX12_text_251 rfl rfl ?_
      refine B_getR dX12_text_252 fl_X12_46 shM_0 rfl (rfM_0_21 _) ?_
      refine B_iload_n dX12_text_255 rfl rfl ?_
      refine C_chk (fun q31 => ?_)
      refine L_iald dX12_text_256 shM_8 q31 rfl ?_
      refine C_chk (fun q32 => ?_)
      refine L_iast dX12_text_257 shM_7 q32 rfl ?_
      refine B_lh (fun h33 => ?_)
      refine B_iinc (w := (y3 + 1)) (ls' := [.ref 0, .null, .null, .int (y3 + 1)]) dX12_text_258 rfl (congrArg (fun z => y3 + z) ic_1) (Nat.le_of_ble_eq_true rfl) rfl rfl ?_
      refine B_goto (tgt := 240) dX12_text_261 (by decide) ?_
      exact ih (y3 + 1)  h33
def f_X12_text_L215 : Nat → Int32 → dH → Option (Int32 × dH)
  | 0, _, _ => none
  | n + 1, y3, h =>
    if y3 < 3 then
    if dIn y3 3 then
    if dIn y3 3 then
    (some (dPut h 5 (dI y3) (h.1 6 (dI y3)))).bind fun h17 =>
    (f_X12_text_L215 n) (y3 + 1) h17
    else none
    else none
    else
    f_X12_text_L240 dFu 0 h
set_option maxRecDepth 20000 in
set_option maxHeartbeats 4000000 in
theorem b_X12_text_L215 : ∀ (n : Nat) (y3 : Int32) (h : dH), B XM 84 RX12 cX12_text 4 (some .int) fiI 215 [.ref 0, .null, .null, .int y3] [] h (f_X12_text_L215 n y3 h) := by
  intro n
  induction n with
  | zero =>
    intro y3 h
    exact B_none
  | succ n ih =>
    intro y3 h
    rw [f_X12_text_L215]
    refine B_iload_n dX12_text_215 rfl rfl ?_
    refine B_iconst dX12_text_216 ic_3 ?_
    refine C_icmp_ge (tgt := 238) dX12_text_217 (by decide) (fun q18 => ?_) (fun q18 => ?_)
    · refine B_iconst dX12_text_238 ic_0 ?_
      refine B_istore_n (ls' := [.ref 0, .null, .null, .int 0]) dX12_text_239 rfl (Nat.le_of_ble_eq_true rfl) rfl rfl ?_
      exact b_X12_text_L240 dFu 0 h
    · refine B_aload_n dX12_text_220 rfl rfl ?_
      refine B_getR dX12_text_221 fl_X12_37 shM_0 rfl (rfM_0_18 _) ?_
      refine B_iload_n dX12_text_224 rfl rfl ?_
      refine B_aload_n dX12_text_225 rfl rfl ?_
      refine B_getR dX12_text_226 fl_X12_40 shM_0 rfl (rfM_0_19 _) ?_
      refine B_iload_n dX12_text_229 rfl rfl ?_
      refine C_chk (fun q15 => ?_)
      refine L_iald dX12_text_230 shM_6 q15 rfl ?_
      refine C_chk (fun q16 => ?_)
      refine L_iast dX12_text_231 shM_5 q16 rfl ?_
      refine B_lh (fun h17 => ?_)
      refine B_iinc (w := (y3 + 1)) (ls' := [.ref 0, .null, .null, .int (y3 + 1)]) dX12_text_232 rfl (congrArg (fun z => y3 + z) ic_1) (Nat.le_of_ble_eq_true rfl) rfl rfl ?_
      refine B_goto (tgt := 215) dX12_text_235 (by decide) ?_
      exact ih (y3 + 1)  h17
def f_X12_text_J43 (y1 : Int32) (h : dH) : Option (Int32 × dH) :=
  (f_X12_fault y1 h).bind fun rv7 =>
  if rv7.1 = (-1) then
  (some ((rv7.2.1 0 6))).bind fun v9 =>
  (some (dPut rv7.2 0 6 0)).bind fun h10 =>
  if y1 = 1 then
  f_X12_text_L71 dFu v9 0 h10
  else
  if y1 = 2 then
  f_X12_text_L137 dFu 0 h10
  else
  (some (dPut h10 0 24 (h10.1 0 25))).bind fun h11 =>
  f_X12_text_L215 dFu 0 h11
  else
  some ((-1), rv7.2)
set_option maxRecDepth 20000 in
set_option maxHeartbeats 4000000 in
theorem b_X12_text_J43 (y1 : Int32) (h : dH) : B XM 84 RX12 cX12_text 4 (some .int) fiI 43 [.ref 0, .int y1, .null, .null] [] h (f_X12_text_J43 y1 h) := by
  unfold f_X12_text_J43
  refine B_aload_n dX12_text_43 rfl rfl ?_
  refine B_iload_n dX12_text_44 rfl rfl ?_
  refine B_VI (st := []) dX12_text_45 cl_X12_291 (t_X12_fault y1 h) (Nat.le_of_ble_eq_true rfl) shM_0 rfl rfl (Nat.le_of_ble_eq_true rfl) (fun v7 h8 _ => ?_)
  refine B_iconst dX12_text_48 ic_m1 ?_
  refine C_icmp_eq (tgt := 54) dX12_text_49 (by decide) (fun q14 => ?_) (fun q14 => ?_)
  · refine B_aload_n dX12_text_54 rfl rfl ?_
    refine B_getI dX12_text_55 fl_X12_116 shM_0 rfl ?_
    refine B_lv (fun v9 => ?_)
    refine B_istore_n (ls' := [.ref 0, .int y1, .int v9, .null]) dX12_text_58 rfl (Nat.le_of_ble_eq_true rfl) rfl rfl ?_
    refine B_aload_n dX12_text_59 rfl rfl ?_
    refine B_iconst dX12_text_60 ic_0 ?_
    refine B_putI dX12_text_61 fl_X12_116 fw_X12_6 shM_0 rfl ?_
    refine B_lh (fun h10 => ?_)
    refine B_iload_n dX12_text_64 rfl rfl ?_
    refine B_iconst dX12_text_65 ic_1 ?_
    refine C_icmp_ne (tgt := 130) dX12_text_66 (by decide) (fun q13 => ?_) (fun q13 => ?_)
    · refine B_iload_n dX12_text_130 rfl rfl ?_
      refine B_iconst dX12_text_131 ic_2 ?_
      refine C_icmp_ne (tgt := 205) dX12_text_132 (by decide) (fun q12 => ?_) (fun q12 => ?_)
      · refine B_aload_n dX12_text_205 rfl rfl ?_
        refine B_aload_n dX12_text_206 rfl rfl ?_
        refine B_getI dX12_text_207 fl_X12_252 shM_0 rfl ?_
        refine B_putI dX12_text_210 fl_X12_293 fw_X12_24 shM_0 rfl ?_
        refine B_lh (fun h11 => ?_)
        refine B_iconst dX12_text_213 ic_0 ?_
        refine B_istore_n (ls' := [.ref 0, .int y1, .int v9, .int 0]) dX12_text_214 rfl (Nat.le_of_ble_eq_true rfl) rfl rfl ?_
        refine B_drop 1 (ls' := [.ref 0, .null, .int v9, .int 0]) rfl ?_
        refine B_drop 2 (ls' := [.ref 0, .null, .null, .int 0]) rfl ?_
        exact b_X12_text_L215 dFu 0 h11
      · refine B_iconst dX12_text_135 ic_0 ?_
        refine B_istore_n (ls' := [.ref 0, .int y1, .int v9, .int 0]) dX12_text_136 rfl (Nat.le_of_ble_eq_true rfl) rfl rfl ?_
        refine B_drop 1 (ls' := [.ref 0, .null, .int v9, .int 0]) rfl ?_
        refine B_drop 2 (ls' := [.ref 0, .null, .null, .int 0]) rfl ?_
        exact b_X12_text_L137 dFu 0 h10
    · refine B_iconst dX12_text_69 ic_0 ?_
      refine B_istore_n (ls' := [.ref 0, .int y1, .int v9, .int 0]) dX12_text_70 rfl (Nat.le_of_ble_eq_true rfl) rfl rfl ?_
      refine B_drop 1 (ls' := [.ref 0, .null, .int v9, .int 0]) rfl ?_
      exact b_X12_text_L71 dFu v9 0 h10
  · refine B_iconst dX12_text_52 ic_m1 ?_
    exact B_ireturn dX12_text_53 rfl rfl
def f_X12_text_J30 (y1 : Int32) (h : dH) : Option (Int32 × dH) :=
  if y1 = 2 then
  if (h.1 0 26) = 4 then
  some ((-1), h)
  else
  f_X12_text_J43 y1 h
  else
  f_X12_text_J43 y1 h
set_option maxRecDepth 20000 in
set_option maxHeartbeats 4000000 in
theorem b_X12_text_J30 (y1 : Int32) (h : dH) : B XM 84 RX12 cX12_text 4 (some .int) fiI 30 [.ref 0, .int y1, .null, .null] [] h (f_X12_text_J30 y1 h) := by
  unfold f_X12_text_J30
  refine B_iload_n dX12_text_30 rfl rfl ?_
  refine B_iconst dX12_text_31 ic_2 ?_
  refine C_icmp_ne (tgt := 43) dX12_text_32 (by decide) (fun q6 => ?_) (fun q6 => ?_)
  · exact b_X12_text_J43 y1 h
  · refine B_aload_n dX12_text_35 rfl rfl ?_
    refine B_getI dX12_text_36 fl_X12_288 shM_0 rfl ?_
    refine B_iconst dX12_text_39 ic_4 ?_
    refine C_icmp_eq (tgt := 52) dX12_text_40 (by decide) (fun q5 => ?_) (fun q5 => ?_)
    · refine B_iconst dX12_text_52 ic_m1 ?_
      exact B_ireturn dX12_text_53 rfl rfl
    · exact b_X12_text_J43 y1 h
def f_X12_text (x1 : Int32) (h : dH) : Option (Int32 × dH) :=
  (some (dPut h 0 0 0)).bind fun h1 =>
  if (f_X12_isIn ((x1 : Int32).toInt64) 0 2 h1) then
  if x1 = 1 then
  if (h1.1 0 7) = 4 then
  some ((-1), h1)
  else
  f_X12_text_J30 x1 h1
  else
  f_X12_text_J30 x1 h1
  else
  some ((-1), h1)
set_option maxRecDepth 20000 in
set_option maxHeartbeats 4000000 in
theorem t_X12_text (x1 : Int32) (h : dH) : T XM 84 yX12_text cX12_text 4 (some .int) fiI [.ref 0, .int x1] h (f_X12_text x1 h) := by
  refine T_of [.ref 0, .int x1, .null, .null] (by decide) (fun _ => rfl) (fun _ => Nat.le_of_ble_eq_true rfl) ?_
  show B XM 84 RX12 cX12_text 4 (some .int) fiI 0 [.ref 0, .int x1, .null, .null] [] h (f_X12_text x1 h)
  unfold f_X12_text
  refine B_aload_n dX12_text_0 rfl rfl ?_
  refine B_iconst dX12_text_1 ic_0 ?_
  refine B_putI dX12_text_2 fl_X12_103 fw_X12_0 shM_0 rfl ?_
  refine B_lh (fun h1 => ?_)
  refine B_iload_n dX12_text_5 rfl rfl ?_
  refine B_i2l dX12_text_6 ?_
  refine B_lconst (v := 0) dX12_text_7 (by decide) ?_
  refine B_ldc2 dX12_text_8 kc_X12_274 ?_
  refine B_STb (st := []) dX12_text_11 cl_X12_224 (t_X12_isIn ((x1 : Int32).toInt64) 0 2 h1) (Nat.le_of_ble_eq_true rfl) rfl rfl (Nat.le_of_ble_eq_true rfl) ?_
  refine C_ifb_eq (tgt := 52) dX12_text_14 (by decide) (fun q4 => ?_) (fun q4 => ?_)
  · refine B_iconst dX12_text_52 ic_m1 ?_
    exact B_ireturn dX12_text_53 rfl rfl
  · refine B_iload_n dX12_text_17 rfl rfl ?_
    refine B_iconst dX12_text_18 ic_1 ?_
    refine C_icmp_ne (tgt := 30) dX12_text_19 (by decide) (fun q3 => ?_) (fun q3 => ?_)
    · exact b_X12_text_J30 x1 h1
    · refine B_aload_n dX12_text_22 rfl rfl ?_
      refine B_getI dX12_text_23 fl_X12_285 shM_0 rfl ?_
      refine B_iconst dX12_text_26 ic_4 ?_
      refine C_icmp_eq (tgt := 52) dX12_text_27 (by decide) (fun q2 => ?_) (fun q2 => ?_)
      · refine B_iconst dX12_text_52 ic_m1 ?_
        exact B_ireturn dX12_text_53 rfl rfl
      · exact b_X12_text_J30 x1 h1
def f_X12_copy_L2 : Nat → Int32 → dH → Option (dH)
  | 0, _, _ => none
  | n + 1, y2, h =>
    if y2 < 28 then
    if dIn y2 209 then
    if dIn y2 209 then
    (some (dPut h 12 (dI y2) (h.1 11 (dI y2)))).bind fun h3 =>
    (f_X12_copy_L2 n) (y2 + 1) h3
    else none
    else none
    else
    some (dPut h 12 28 0)
set_option maxRecDepth 20000 in
set_option maxHeartbeats 4000000 in
theorem b_X12_copy_L2 : ∀ (n : Nat) (y2 : Int32) (h : dH), B XM 0 RX12 cX12_copy 3 none fiV 2 [.ref 11, .ref 12, .int y2] [] h (f_X12_copy_L2 n y2 h) := by
  intro n
  induction n with
  | zero =>
    intro y2 h
    exact B_none
  | succ n ih =>
    intro y2 h
    rw [f_X12_copy_L2]
    refine B_iload_n dX12_copy_2 rfl rfl ?_
    refine B_bipush dX12_copy_3 bp_28 ?_
    refine C_icmp_ge (tgt := 20) dX12_copy_5 (by decide) (fun q4 => ?_) (fun q4 => ?_)
    · refine B_aload_n dX12_copy_20 rfl rfl ?_
      refine B_bipush dX12_copy_21 bp_28 ?_
      refine B_iconst dX12_copy_23 ic_0 ?_
      refine L_iast dX12_copy_24 shM_12 (by decide) di_28 ?_
      exact B_return dX12_copy_25 rfl rfl
    · refine B_aload_n dX12_copy_8 rfl rfl ?_
      refine B_iload_n dX12_copy_9 rfl rfl ?_
      refine B_aload_n dX12_copy_10 rfl rfl ?_
      refine B_iload_n dX12_copy_11 rfl rfl ?_
      refine C_chk (fun q1 => ?_)
      refine L_iald dX12_copy_12 shM_11 q1 rfl ?_
      refine C_chk (fun q2 => ?_)
      refine L_iast dX12_copy_13 shM_12 q2 rfl ?_
      refine B_lh (fun h3 => ?_)
      refine B_iinc (w := (y2 + 1)) (ls' := [.ref 11, .ref 12, .int (y2 + 1)]) dX12_copy_14 rfl (congrArg (fun z => y2 + z) ic_1) (Nat.le_of_ble_eq_true rfl) rfl rfl ?_
      refine B_goto (tgt := 2) dX12_copy_17 (by decide) ?_
      exact ih (y2 + 1)  h3
def f_X12_copy (h : dH) : Option (dH) :=
  f_X12_copy_L2 dFu 0 h
set_option maxRecDepth 20000 in
set_option maxHeartbeats 4000000 in
theorem t_X12_copy (h : dH) : T XM 0 yX12_copy cX12_copy 3 none fiV [.ref 11, .ref 12] h (f_X12_copy h) := by
  refine T_of [.ref 11, .ref 12, .null] (by decide) (fun _ => rfl) (fun _ => Nat.le_of_ble_eq_true rfl) ?_
  show B XM 0 RX12 cX12_copy 3 none fiV 0 [.ref 11, .ref 12, .null] [] h (f_X12_copy h)
  unfold f_X12_copy
  refine B_iconst dX12_copy_0 ic_0 ?_
  refine B_istore_n (ls' := [.ref 11, .ref 12, .int 0]) dX12_copy_1 rfl (Nat.le_of_ble_eq_true rfl) rfl rfl ?_
  exact b_X12_copy_L2 dFu 0 h
def f_X12_isPlace (x1 : Int32) (h : dH) : Bool :=
  if x1 < 0 then
  false
  else
  if x1 < (h.1 0 24) then
  true
  else
  false
set_option maxRecDepth 20000 in
set_option maxHeartbeats 4000000 in
theorem t_X12_isPlace (x1 : Int32) (h : dH) : T XM 0 yX12_isPlace cX12_isPlace 2 (some .boolean) (fiB h) [.ref 0, .int x1] h (some (f_X12_isPlace x1 h)) := by
  refine T_of [.ref 0, .int x1] (by decide) (fun _ => rfl) (fun _ => Nat.le_of_ble_eq_true rfl) ?_
  show B XM 0 RX12 cX12_isPlace 2 (some .boolean) (fiB h) 0 [.ref 0, .int x1] [] h (some (f_X12_isPlace x1 h))
  unfold f_X12_isPlace
  refine B_iload_n dX12_isPlace_0 rfl rfl ?_
  refine C_some ?_
  refine C_if_lt (tgt := 16) dX12_isPlace_1 (by decide) (fun q2 => ?_) (fun q2 => ?_)
  · refine B_iconst dX12_isPlace_16 ic_0 ?_
    exact B_zreturn dX12_isPlace_17 rfl rfl rfl
  · refine B_iload_n dX12_isPlace_4 rfl rfl ?_
    refine B_aload_n dX12_isPlace_5 rfl rfl ?_
    refine B_getI dX12_isPlace_6 fl_X12_293 shM_0 rfl ?_
    refine C_some ?_
    refine C_icmp_ge (tgt := 16) dX12_isPlace_9 (by decide) (fun q1 => ?_) (fun q1 => ?_)
    · refine B_iconst dX12_isPlace_16 ic_0 ?_
      exact B_zreturn dX12_isPlace_17 rfl rfl rfl
    · refine B_iconst dX12_isPlace_12 ic_1 ?_
      refine B_goto (tgt := 17) dX12_isPlace_13 (by decide) ?_
      exact B_zreturn dX12_isPlace_17 rfl rfl rfl
def f_X12_of (x1 : Int32) (x2 : Int32) (h : dH) : Option (Int32) :=
  if dIn ((5 * x1) + x2) 35 then
  some (h.1 7 (dI ((5 * x1) + x2)))
  else none
set_option maxRecDepth 20000 in
set_option maxHeartbeats 4000000 in
theorem t_X12_of (x1 : Int32) (x2 : Int32) (h : dH) : T XM 0 yX12_of cX12_of 3 (some .int) (fiP h) [.ref 0, .int x1, .int x2] h (f_X12_of x1 x2 h) := by
  refine T_of [.ref 0, .int x1, .int x2] (by decide) (fun _ => rfl) (fun _ => Nat.le_of_ble_eq_true rfl) ?_
  show B XM 0 RX12 cX12_of 3 (some .int) (fiP h) 0 [.ref 0, .int x1, .int x2] [] h (f_X12_of x1 x2 h)
  unfold f_X12_of
  refine B_aload_n dX12_of_0 rfl rfl ?_
  refine B_getR dX12_of_1 fl_X12_43 shM_0 rfl (rfM_0_20 _) ?_
  refine B_iconst dX12_of_4 ic_5 ?_
  refine B_iload_n dX12_of_5 rfl rfl ?_
  refine B_imul dX12_of_6 ?_
  refine B_iload_n dX12_of_7 rfl rfl ?_
  refine B_iadd dX12_of_8 ?_
  refine C_chk (fun q1 => ?_)
  refine L_iald dX12_of_9 shM_7 q1 rfl ?_
  exact B_ireturn dX12_of_10 rfl rfl
def f_X12_between_J31 (y2 : Int32) (y3 : Int32) (z0 : Int32) (h : dH) : Option (Int32) :=
  (f_X12_of y2 0 h).bind fun v5 =>
  (f_X12_of y2 1 h).bind fun v6 =>
  some ((jabs (y3 - v5)) + (jabs (z0 - v6)))
set_option maxRecDepth 20000 in
set_option maxHeartbeats 4000000 in
theorem b_X12_between_J31 (h : dH) (y2 : Int32) (y3 : Int32) (z0 : Int32) : B XM 1 RX12 cX12_between 5 (some .int) (fiP h) 31 [.ref 0, .null, .int y2, .int y3, .null] [.int z0] h (f_X12_between_J31 y2 y3 z0 h) := by
  unfold f_X12_between_J31
  refine B_istore (ls' := [.ref 0, .null, .int y2, .int y3, .int z0]) dX12_between_31 (Nat.le_of_ble_eq_true rfl) rfl rfl ?_
  refine B_iload_n dX12_between_33 rfl rfl ?_
  refine B_aload_n dX12_between_34 rfl rfl ?_
  refine B_iload_n dX12_between_35 rfl rfl ?_
  refine B_iconst dX12_between_36 ic_0 ?_
  refine B_Vp (st := [.int y3]) dX12_between_37 cl_X12_305 (t_X12_of y2 0 h) (Nat.le_of_ble_eq_true rfl) shM_0 rfl rfl (Nat.le_of_ble_eq_true rfl) (fun v5 _ => ?_)
  refine B_isub dX12_between_40 ?_
  refine B_mabs dX12_between_41 mt_X12_308 (Nat.le_of_ble_eq_true rfl) (Nat.le_of_ble_eq_true rfl) ?_
  refine B_iload dX12_between_44 rfl ?_
  refine B_aload_n dX12_between_46 rfl rfl ?_
  refine B_iload_n dX12_between_47 rfl rfl ?_
  refine B_iconst dX12_between_48 ic_1 ?_
  refine B_Vp (st := [.int z0, .int (jabs (y3 - v5))]) dX12_between_49 cl_X12_305 (t_X12_of y2 1 h) (Nat.le_of_ble_eq_true rfl) shM_0 rfl rfl (Nat.le_of_ble_eq_true rfl) (fun v6 _ => ?_)
  refine B_isub dX12_between_52 ?_
  refine B_mabs dX12_between_53 mt_X12_308 (Nat.le_of_ble_eq_true rfl) (Nat.le_of_ble_eq_true rfl) ?_
  refine B_iadd dX12_between_56 ?_
  exact B_ireturn dX12_between_57 rfl rfl
def f_X12_between_J15 (y1 : Int32) (y2 : Int32) (z0 : Int32) (h : dH) : Option (Int32) :=
  if y1 = (-1) then
  f_X12_between_J31 y2 z0 0 h
  else
  (f_X12_of y1 1 h).bind fun v3 =>
  f_X12_between_J31 y2 z0 v3 h
set_option maxRecDepth 20000 in
set_option maxHeartbeats 4000000 in
theorem b_X12_between_J15 (h : dH) (y1 : Int32) (y2 : Int32) (z0 : Int32) : B XM 1 RX12 cX12_between 5 (some .int) (fiP h) 15 [.ref 0, .int y1, .int y2, .null, .null] [.int z0] h (f_X12_between_J15 y1 y2 z0 h) := by
  unfold f_X12_between_J15
  refine B_istore_n (ls' := [.ref 0, .int y1, .int y2, .int z0, .null]) dX12_between_15 rfl (Nat.le_of_ble_eq_true rfl) rfl rfl ?_
  refine B_iload_n dX12_between_16 rfl rfl ?_
  refine B_iconst dX12_between_17 ic_m1 ?_
  refine C_icmp_ne (tgt := 25) dX12_between_18 (by decide) (fun q4 => ?_) (fun q4 => ?_)
  · refine B_aload_n dX12_between_25 rfl rfl ?_
    refine B_iload_n dX12_between_26 rfl rfl ?_
    refine B_iconst dX12_between_27 ic_1 ?_
    refine B_Vp (st := []) dX12_between_28 cl_X12_305 (t_X12_of y1 1 h) (Nat.le_of_ble_eq_true rfl) shM_0 rfl rfl (Nat.le_of_ble_eq_true rfl) (fun v3 _ => ?_)
    refine B_drop 1 (ls' := [.ref 0, .null, .int y2, .int z0, .null]) rfl ?_
    exact b_X12_between_J31 h y2 z0 v3
  · refine B_iconst dX12_between_21 ic_0 ?_
    refine B_goto (tgt := 31) dX12_between_22 (by decide) ?_
    refine B_drop 1 (ls' := [.ref 0, .null, .int y2, .int z0, .null]) rfl ?_
    exact b_X12_between_J31 h y2 z0 0
def f_X12_between (x1 : Int32) (x2 : Int32) (h : dH) : Option (Int32) :=
  if x1 = (-1) then
  f_X12_between_J15 x1 x2 0 h
  else
  (f_X12_of x1 0 h).bind fun v1 =>
  f_X12_between_J15 x1 x2 v1 h
set_option maxRecDepth 20000 in
set_option maxHeartbeats 4000000 in
theorem t_X12_between (x1 : Int32) (x2 : Int32) (h : dH) : T XM 1 yX12_between cX12_between 5 (some .int) (fiP h) [.ref 0, .int x1, .int x2] h (f_X12_between x1 x2 h) := by
  refine T_of [.ref 0, .int x1, .int x2, .null, .null] (by decide) (fun _ => rfl) (fun _ => Nat.le_of_ble_eq_true rfl) ?_
  show B XM 1 RX12 cX12_between 5 (some .int) (fiP h) 0 [.ref 0, .int x1, .int x2, .null, .null] [] h (f_X12_between x1 x2 h)
  unfold f_X12_between
  refine B_iload_n dX12_between_0 rfl rfl ?_
  refine B_iconst dX12_between_1 ic_m1 ?_
  refine C_icmp_ne (tgt := 9) dX12_between_2 (by decide) (fun q2 => ?_) (fun q2 => ?_)
  · refine B_aload_n dX12_between_9 rfl rfl ?_
    refine B_iload_n dX12_between_10 rfl rfl ?_
    refine B_iconst dX12_between_11 ic_0 ?_
    refine B_Vp (st := []) dX12_between_12 cl_X12_305 (t_X12_of x1 0 h) (Nat.le_of_ble_eq_true rfl) shM_0 rfl rfl (Nat.le_of_ble_eq_true rfl) (fun v1 _ => ?_)
    exact b_X12_between_J15 h x1 x2 v1
  · refine B_iconst dX12_between_5 ic_0 ?_
    refine B_goto (tgt := 15) dX12_between_6 (by decide) ?_
    exact b_X12_between_J15 h x1 x2 0
def f_X12_where (w : Nat) (h : dH) : Int32 :=
  ((h.1 w 23) - 1)
set_option maxRecDepth 20000 in
set_option maxHeartbeats 4000000 in
theorem t_X12_where (w : Nat) (hw : XM.1[w]? = some (.inr (0, 209))) (h : dH) : T XM 0 yX12_where cX12_where 1 (some .int) (fiP h) [.ref w] h (some (f_X12_where w h)) := by
  refine T_of [.ref w] (by decide) (fun _ => rfl) (fun _ => Nat.le_of_ble_eq_true rfl) ?_
  show B XM 0 RX12 cX12_where 1 (some .int) (fiP h) 0 [.ref w] [] h (some (f_X12_where w h))
  unfold f_X12_where
  refine B_aload_n dX12_where_0 rfl rfl ?_
  refine B_bipush dX12_where_1 bp_23 ?_
  refine L_iald dX12_where_3 hw (by decide) di_23 ?_
  refine B_iconst dX12_where_4 ic_1 ?_
  refine B_isub dX12_where_5 ?_
  exact B_ireturn dX12_where_6 rfl rfl
def f_X12_far (w : Nat) (x2 : Int32) (h : dH) : Option (Int32) :=
  (f_X12_between (f_X12_where w h) x2 h).bind fun v1 =>
  some v1
set_option maxRecDepth 20000 in
set_option maxHeartbeats 4000000 in
theorem t_X12_far (w : Nat) (hw : XM.1[w]? = some (.inr (0, 209))) (x2 : Int32) (h : dH) : T XM 2 yX12_far cX12_far 3 (some .int) (fiP h) [.ref 0, .ref w, .int x2] h (f_X12_far w x2 h) := by
  refine T_of [.ref 0, .ref w, .int x2] (by decide) (fun _ => rfl) (fun _ => Nat.le_of_ble_eq_true rfl) ?_
  show B XM 2 RX12 cX12_far 3 (some .int) (fiP h) 0 [.ref 0, .ref w, .int x2] [] h (f_X12_far w x2 h)
  unfold f_X12_far
  refine B_aload_n dX12_far_0 rfl rfl ?_
  refine B_aload_n dX12_far_1 rfl rfl ?_
  refine B_St (st := [.ref 0]) dX12_far_2 cl_X12_311 (t_X12_where w hw h) (Nat.le_of_ble_eq_true rfl) rfl rfl (Nat.le_of_ble_eq_true rfl) ?_
  refine B_iload_n dX12_far_5 rfl rfl ?_
  refine B_Vp (st := []) dX12_far_6 cl_X12_315 (t_X12_between (f_X12_where w h) x2 h) (Nat.le_of_ble_eq_true rfl) shM_0 rfl rfl (Nat.le_of_ble_eq_true rfl) (fun v1 _ => ?_)
  exact B_ireturn dX12_far_9 rfl rfl
def f_X12_worthNow (h : dH) : Option (Int32 × dH) :=
  (some ((1 + ((h.1 0 30) : Int32).toInt64))).bind fun v1 =>
  (some (((4 * v1) + ((h.1 4 107) : Int32).toInt64))).bind fun v2 =>
  (some (((20 * v2) + ((h.1 4 118) : Int32).toInt64))).bind fun v3 =>
  (some (((40 * v3) + ((h.1 4 111) : Int32).toInt64))).bind fun v4 =>
  (some (((200 * v4) + ((h.1 4 104) : Int32).toInt64))).bind fun v5 =>
  (some (((200 * v5) + ((h.1 4 110) : Int32).toInt64))).bind fun v6 =>
  (some (((200 * v6) + ((h.1 4 116) : Int32).toInt64))).bind fun v7 =>
  (some (((v7 - v7 / 8191 * 8191) : Int64).toInt32)).bind fun v8 =>
  if dIn v8 8191 then
  if (lg_cmp (h.2.1 13 (dI v8)) v7) = 0 then
  if dIn v8 8191 then
  some ((h.1 14 (dI v8)), h)
  else none
  else
  if dIn (h.1 0 30) 4 then
  (f_X12_goThrough 2 (240 * (h.1 0 30)) (h.1 3 (dI (h.1 0 30))) h).bind fun h12 =>
  if dIn v8 8191 then
  (some (dPutL h12 13 (dI v8) v7)).bind fun h14 =>
  if dIn v8 8191 then
  some (((dPut h14 14 (dI v8) (h14.1 0 14)).1 0 14), (dPut h14 14 (dI v8) (h14.1 0 14)))
  else none
  else none
  else none
  else none
set_option maxRecDepth 20000 in
set_option maxHeartbeats 4000000 in
theorem t_X12_worthNow (h : dH) : T XM 83 yX12_worthNow cX12_worthNow 4 (some .int) fiI [.ref 0] h (f_X12_worthNow h) := by
  refine T_of [.ref 0, .null, .null, .null] (by decide) (fun _ => rfl) (fun _ => Nat.le_of_ble_eq_true rfl) ?_
  show B XM 83 RX12 cX12_worthNow 4 (some .int) fiI 0 [.ref 0, .null, .null, .null] [] h (f_X12_worthNow h)
  unfold f_X12_worthNow
  refine B_lconst (v := 1) dX12_worthNow_0 (by decide) ?_
  refine B_aload_n dX12_worthNow_1 rfl rfl ?_
  refine B_getI dX12_worthNow_2 fl_X12_61 shM_0 rfl ?_
  refine B_i2l dX12_worthNow_5 ?_
  refine B_ladd dX12_worthNow_6 ?_
  refine B_lj (fun v1 => ?_)
  refine B_lstore_n (ls' := [.ref 0, .long v1, .null, .null]) dX12_worthNow_7 rfl (Nat.le_of_ble_eq_true rfl) rfl rfl ?_
  refine B_ldc2 dX12_worthNow_8 kc_X12_318 ?_
  refine B_lload_n dX12_worthNow_11 rfl rfl ?_
  refine B_lmul dX12_worthNow_12 ?_
  refine B_aload_n dX12_worthNow_13 rfl rfl ?_
  refine B_getR dX12_worthNow_14 fl_X12_20 shM_0 rfl (rfM_0_4 _) ?_
  refine B_bipush dX12_worthNow_17 bp_107 ?_
  refine L_iald dX12_worthNow_19 shM_4 (by decide) di_107 ?_
  refine B_i2l dX12_worthNow_20 ?_
  refine B_ladd dX12_worthNow_21 ?_
  refine B_lj (fun v2 => ?_)
  refine B_lstore_n (ls' := [.ref 0, .long v2, .null, .null]) dX12_worthNow_22 rfl (Nat.le_of_ble_eq_true rfl) rfl rfl ?_
  refine B_ldc2 dX12_worthNow_23 kc_X12_320 ?_
  refine B_lload_n dX12_worthNow_26 rfl rfl ?_
  refine B_lmul dX12_worthNow_27 ?_
  refine B_aload_n dX12_worthNow_28 rfl rfl ?_
  refine B_getR dX12_worthNow_29 fl_X12_20 shM_0 rfl (rfM_0_4 _) ?_
  refine B_bipush dX12_worthNow_32 bp_118 ?_
  refine L_iald dX12_worthNow_34 shM_4 (by decide) di_118 ?_
  refine B_i2l dX12_worthNow_35 ?_
  refine B_ladd dX12_worthNow_36 ?_
  refine B_lj (fun v3 => ?_)
  refine B_lstore_n (ls' := [.ref 0, .long v3, .null, .null]) dX12_worthNow_37 rfl (Nat.le_of_ble_eq_true rfl) rfl rfl ?_
  refine B_ldc2 dX12_worthNow_38 kc_X12_322 ?_
  refine B_lload_n dX12_worthNow_41 rfl rfl ?_
  refine B_lmul dX12_worthNow_42 ?_
  refine B_aload_n dX12_worthNow_43 rfl rfl ?_
  refine B_getR dX12_worthNow_44 fl_X12_20 shM_0 rfl (rfM_0_4 _) ?_
  refine B_bipush dX12_worthNow_47 bp_111 ?_
  refine L_iald dX12_worthNow_49 shM_4 (by decide) di_111 ?_
  refine B_i2l dX12_worthNow_50 ?_
  refine B_ladd dX12_worthNow_51 ?_
  refine B_lj (fun v4 => ?_)
  refine B_lstore_n (ls' := [.ref 0, .long v4, .null, .null]) dX12_worthNow_52 rfl (Nat.le_of_ble_eq_true rfl) rfl rfl ?_
  refine B_ldc2 dX12_worthNow_53 kc_X12_324 ?_
  refine B_lload_n dX12_worthNow_56 rfl rfl ?_
  refine B_lmul dX12_worthNow_57 ?_
  refine B_aload_n dX12_worthNow_58 rfl rfl ?_
  refine B_getR dX12_worthNow_59 fl_X12_20 shM_0 rfl (rfM_0_4 _) ?_
  refine B_bipush dX12_worthNow_62 bp_104 ?_
  refine L_iald dX12_worthNow_64 shM_4 (by decide) di_104 ?_
  refine B_i2l dX12_worthNow_65 ?_
  refine B_ladd dX12_worthNow_66 ?_
  refine B_lj (fun v5 => ?_)
  refine B_lstore_n (ls' := [.ref 0, .long v5, .null, .null]) dX12_worthNow_67 rfl (Nat.le_of_ble_eq_true rfl) rfl rfl ?_
  refine B_ldc2 dX12_worthNow_68 kc_X12_324 ?_
  refine B_lload_n dX12_worthNow_71 rfl rfl ?_
  refine B_lmul dX12_worthNow_72 ?_
  refine B_aload_n dX12_worthNow_73 rfl rfl ?_
  refine B_getR dX12_worthNow_74 fl_X12_20 shM_0 rfl (rfM_0_4 _) ?_
  refine B_bipush dX12_worthNow_77 bp_110 ?_
  refine L_iald dX12_worthNow_79 shM_4 (by decide) di_110 ?_
  refine B_i2l dX12_worthNow_80 ?_
  refine B_ladd dX12_worthNow_81 ?_
  refine B_lj (fun v6 => ?_)
  refine B_lstore_n (ls' := [.ref 0, .long v6, .null, .null]) dX12_worthNow_82 rfl (Nat.le_of_ble_eq_true rfl) rfl rfl ?_
  refine B_ldc2 dX12_worthNow_83 kc_X12_324 ?_
  refine B_lload_n dX12_worthNow_86 rfl rfl ?_
  refine B_lmul dX12_worthNow_87 ?_
  refine B_aload_n dX12_worthNow_88 rfl rfl ?_
  refine B_getR dX12_worthNow_89 fl_X12_20 shM_0 rfl (rfM_0_4 _) ?_
  refine B_bipush dX12_worthNow_92 bp_116 ?_
  refine L_iald dX12_worthNow_94 shM_4 (by decide) di_116 ?_
  refine B_i2l dX12_worthNow_95 ?_
  refine B_ladd dX12_worthNow_96 ?_
  refine B_lj (fun v7 => ?_)
  refine B_lstore_n (ls' := [.ref 0, .long v7, .null, .null]) dX12_worthNow_97 rfl (Nat.le_of_ble_eq_true rfl) rfl rfl ?_
  refine B_lload_n dX12_worthNow_98 rfl rfl ?_
  refine B_ldc2 dX12_worthNow_99 kc_X12_326 ?_
  refine B_lrem dX12_worthNow_102 (by decide) ?_
  refine B_l2i dX12_worthNow_103 ?_
  refine B_lv (fun v8 => ?_)
  refine B_istore_n (ls' := [.ref 0, .long v7, .null, .int v8]) dX12_worthNow_104 rfl (Nat.le_of_ble_eq_true rfl) rfl rfl ?_
  refine B_aload_n dX12_worthNow_105 rfl rfl ?_
  refine B_getR dX12_worthNow_106 fl_X12_68 shM_0 rfl (rfM_0_32 _) ?_
  refine B_iload_n dX12_worthNow_109 rfl rfl ?_
  refine C_chk (fun q9 => ?_)
  refine L_lald dX12_worthNow_110 shM_13 q9 rfl ?_
  refine B_lload_n dX12_worthNow_111 rfl rfl ?_
  refine B_lcmp dX12_worthNow_112 ?_
  refine C_if_ne (tgt := 123) dX12_worthNow_113 (by decide) (fun q17 => ?_) (fun q17 => ?_)
  · refine B_aload_n dX12_worthNow_123 rfl rfl ?_
    refine B_aload_n dX12_worthNow_124 rfl rfl ?_
    refine B_getR dX12_worthNow_125 fl_X12_13 shM_0 rfl (rfM_0_2 _) ?_
    refine B_sipush dX12_worthNow_128 sp_240 ?_
    refine B_aload_n dX12_worthNow_131 rfl rfl ?_
    refine B_getI dX12_worthNow_132 fl_X12_61 shM_0 rfl ?_
    refine B_imul dX12_worthNow_135 ?_
    refine B_aload_n dX12_worthNow_136 rfl rfl ?_
    refine B_getR dX12_worthNow_137 fl_X12_16 shM_0 rfl (rfM_0_3 _) ?_
    refine B_aload_n dX12_worthNow_140 rfl rfl ?_
    refine B_getI dX12_worthNow_141 fl_X12_61 shM_0 rfl ?_
    refine C_chk (fun q10 => ?_)
    refine L_iald dX12_worthNow_144 shM_3 q10 rfl ?_
    refine B_VV (st := []) dX12_worthNow_145 cl_X12_279 (t_X12_goThrough 2 (Or.inr rfl) (240 * (h.1 0 30)) (h.1 3 (dI (h.1 0 30))) h) (Nat.le_of_ble_eq_true rfl) shM_0 rfl rfl (Nat.le_of_ble_eq_true rfl) (fun h12 _ => ?_)
    refine B_aload_n dX12_worthNow_148 rfl rfl ?_
    refine B_getR dX12_worthNow_149 fl_X12_68 shM_0 rfl (rfM_0_32 _) ?_
    refine B_iload_n dX12_worthNow_152 rfl rfl ?_
    refine B_lload_n dX12_worthNow_153 rfl rfl ?_
    refine C_chk (fun q13 => ?_)
    refine L_last dX12_worthNow_154 shM_13 q13 rfl ?_
    refine B_lh (fun h14 => ?_)
    refine B_aload_n dX12_worthNow_155 rfl rfl ?_
    refine B_getR dX12_worthNow_156 fl_X12_72 shM_0 rfl (rfM_0_33 _) ?_
    refine B_iload_n dX12_worthNow_159 rfl rfl ?_
    refine B_aload_n dX12_worthNow_160 rfl rfl ?_
    refine B_getI dX12_worthNow_161 fl_X12_211 shM_0 rfl ?_
    refine C_chk (fun q15 => ?_)
    refine L_iast dX12_worthNow_164 shM_14 q15 rfl ?_
    refine B_aload_n dX12_worthNow_165 rfl rfl ?_
    refine B_getI dX12_worthNow_166 fl_X12_211 shM_0 rfl ?_
    exact B_ireturn dX12_worthNow_169 rfl rfl
  · refine B_aload_n dX12_worthNow_116 rfl rfl ?_
    refine B_getR dX12_worthNow_117 fl_X12_72 shM_0 rfl (rfM_0_33 _) ?_
    refine B_iload_n dX12_worthNow_120 rfl rfl ?_
    refine C_chk (fun q16 => ?_)
    refine L_iald dX12_worthNow_121 shM_14 q16 rfl ?_
    exact B_ireturn dX12_worthNow_122 rfl rfl
def f_X12_trouble_J115 (w : Nat) (y5 : Int32) (h : dH) : Option (Int32 × dH) :=
  some ((jmax 0 (jmin 30 y5)), h)
set_option maxRecDepth 20000 in
set_option maxHeartbeats 4000000 in
theorem b_X12_trouble_J115 {w : Nat} (hw : XM.1[w]? = some (.inr (0, 209))) (y5 : Int32) (h : dH) : B XM 84 RX12 cX12_trouble 6 (some .int) fiI 115 [.null, .null, .null, .null, .null, .int y5] [] h (f_X12_trouble_J115 w y5 h) := by
  unfold f_X12_trouble_J115
  refine B_iconst dX12_trouble_115 ic_0 ?_
  refine B_bipush dX12_trouble_116 bp_30 ?_
  refine B_iload dX12_trouble_118 rfl ?_
  refine B_mmin dX12_trouble_120 mt_X12_335 (Nat.le_of_ble_eq_true rfl) (Nat.le_of_ble_eq_true rfl) ?_
  refine B_mmax dX12_trouble_123 mt_X12_337 (Nat.le_of_ble_eq_true rfl) (Nat.le_of_ble_eq_true rfl) ?_
  exact B_ireturn dX12_trouble_126 rfl rfl
def f_X12_trouble (w : Nat) (x2 : Int32) (x3 : Int32) (x4 : Int32) (h : dH) : Option (Int32 × dH) :=
  if dIn ((3 * x2) + 2) 209 then
  (some (((4 + (2 * (h.1 w (dI ((3 * x2) + 2))))) - x4))).bind fun v2 =>
  if (h.1 0 30) = (-1) then
  f_X12_trouble_J115 w v2 h
  else
  (f_X12_of x2 2 h).bind fun v3 =>
  (some (dPut h 4 107 v3)).bind fun h4 =>
  (some (dPut h4 4 118 x3)).bind fun h5 =>
  if dIn ((3 * x2) + 1) 209 then
  (some (dPut h5 4 111 (h5.1 w (dI ((3 * x2) + 1))))).bind fun h7 =>
  (f_X12_far w x2 h7).bind fun v8 =>
  (some (dPut h7 4 104 ((h7.1 w 21) + v8))).bind fun h9 =>
  if dIn ((3 * x2) + 2) 209 then
  (some (dPut h9 4 110 (h9.1 w (dI ((3 * x2) + 2))))).bind fun h11 =>
  (f_X12_far w x2 h11).bind fun v12 =>
  (some (dPut h11 4 116 ((h11.1 w 22) + v12))).bind fun h13 =>
  (f_X12_worthNow h13).bind fun rv14 =>
  f_X12_trouble_J115 w rv14.1 rv14.2
  else none
  else none
  else none
set_option maxRecDepth 20000 in
set_option maxHeartbeats 4000000 in
theorem t_X12_trouble (w : Nat) (hw : XM.1[w]? = some (.inr (0, 209))) (x2 : Int32) (x3 : Int32) (x4 : Int32) (h : dH) : T XM 84 yX12_trouble cX12_trouble 6 (some .int) fiI [.ref 0, .ref w, .int x2, .int x3, .int x4] h (f_X12_trouble w x2 x3 x4 h) := by
  refine T_of [.ref 0, .ref w, .int x2, .int x3, .int x4, .null] (by decide) (fun _ => rfl) (fun _ => Nat.le_of_ble_eq_true rfl) ?_
  show B XM 84 RX12 cX12_trouble 6 (some .int) fiI 0 [.ref 0, .ref w, .int x2, .int x3, .int x4, .null] [] h (f_X12_trouble w x2 x3 x4 h)
  unfold f_X12_trouble
  refine B_iconst dX12_trouble_0 ic_4 ?_
  refine B_iconst dX12_trouble_1 ic_2 ?_
  refine B_aload_n dX12_trouble_2 rfl rfl ?_
  refine B_iconst dX12_trouble_3 ic_3 ?_
  refine B_iload_n dX12_trouble_4 rfl rfl ?_
  refine B_imul dX12_trouble_5 ?_
  refine B_iconst dX12_trouble_6 ic_2 ?_
  refine B_iadd dX12_trouble_7 ?_
  refine C_chk (fun q1 => ?_)
  refine L_iald dX12_trouble_8 hw q1 rfl ?_
  refine B_imul dX12_trouble_9 ?_
  refine B_iadd dX12_trouble_10 ?_
  refine B_iload dX12_trouble_11 rfl ?_
  refine B_isub dX12_trouble_13 ?_
  refine B_lv (fun v2 => ?_)
  refine B_istore (ls' := [.ref 0, .ref w, .int x2, .int x3, .int x4, .int v2]) dX12_trouble_14 (Nat.le_of_ble_eq_true rfl) rfl rfl ?_
  refine B_aload_n dX12_trouble_16 rfl rfl ?_
  refine B_getI dX12_trouble_17 fl_X12_61 shM_0 rfl ?_
  refine B_iconst dX12_trouble_20 ic_m1 ?_
  refine C_icmp_eq (tgt := 115) dX12_trouble_21 (by decide) (fun q16 => ?_) (fun q16 => ?_)
  · refine B_drop 0 (ls' := [.null, .ref w, .int x2, .int x3, .int x4, .int v2]) rfl ?_
    refine B_drop 1 (ls' := [.null, .null, .int x2, .int x3, .int x4, .int v2]) rfl ?_
    refine B_drop 2 (ls' := [.null, .null, .null, .int x3, .int x4, .int v2]) rfl ?_
    refine B_drop 3 (ls' := [.null, .null, .null, .null, .int x4, .int v2]) rfl ?_
    refine B_drop 4 (ls' := [.null, .null, .null, .null, .null, .int v2]) rfl ?_
    exact b_X12_trouble_J115 hw v2 h
  · refine B_aload_n dX12_trouble_24 rfl rfl ?_
    refine B_getR dX12_trouble_25 fl_X12_20 shM_0 rfl (rfM_0_4 _) ?_
    refine B_bipush dX12_trouble_28 bp_107 ?_
    refine B_aload_n dX12_trouble_30 rfl rfl ?_
    refine B_iload_n dX12_trouble_31 rfl rfl ?_
    refine B_iconst dX12_trouble_32 ic_2 ?_
    refine B_Vp (st := [.int 107, .ref 4]) dX12_trouble_33 cl_X12_305 (t_X12_of x2 2 h) (Nat.le_of_ble_eq_true rfl) shM_0 rfl rfl (Nat.le_of_ble_eq_true rfl) (fun v3 _ => ?_)
    refine L_iast dX12_trouble_36 shM_4 (by decide) di_107 ?_
    refine B_lh (fun h4 => ?_)
    refine B_aload_n dX12_trouble_37 rfl rfl ?_
    refine B_getR dX12_trouble_38 fl_X12_20 shM_0 rfl (rfM_0_4 _) ?_
    refine B_bipush dX12_trouble_41 bp_118 ?_
    refine B_iload_n dX12_trouble_43 rfl rfl ?_
    refine L_iast dX12_trouble_44 shM_4 (by decide) di_118 ?_
    refine B_lh (fun h5 => ?_)
    refine B_aload_n dX12_trouble_45 rfl rfl ?_
    refine B_getR dX12_trouble_46 fl_X12_20 shM_0 rfl (rfM_0_4 _) ?_
    refine B_bipush dX12_trouble_49 bp_111 ?_
    refine B_aload_n dX12_trouble_51 rfl rfl ?_
    refine B_iconst dX12_trouble_52 ic_3 ?_
    refine B_iload_n dX12_trouble_53 rfl rfl ?_
    refine B_imul dX12_trouble_54 ?_
    refine B_iconst dX12_trouble_55 ic_1 ?_
    refine B_iadd dX12_trouble_56 ?_
    refine C_chk (fun q6 => ?_)
    refine L_iald dX12_trouble_57 hw q6 rfl ?_
    refine L_iast dX12_trouble_58 shM_4 (by decide) di_111 ?_
    refine B_lh (fun h7 => ?_)
    refine B_aload_n dX12_trouble_59 rfl rfl ?_
    refine B_getR dX12_trouble_60 fl_X12_20 shM_0 rfl (rfM_0_4 _) ?_
    refine B_bipush dX12_trouble_63 bp_104 ?_
    refine B_aload_n dX12_trouble_65 rfl rfl ?_
    refine B_bipush dX12_trouble_66 bp_21 ?_
    refine L_iald dX12_trouble_68 hw (by decide) di_21 ?_
    refine B_aload_n dX12_trouble_69 rfl rfl ?_
    refine B_aload_n dX12_trouble_70 rfl rfl ?_
    refine B_iload_n dX12_trouble_71 rfl rfl ?_
    refine B_Vp (st := [.int (h7.1 w 21), .int 104, .ref 4]) dX12_trouble_72 cl_X12_328 (t_X12_far w hw x2 h7) (Nat.le_of_ble_eq_true rfl) shM_0 rfl rfl (Nat.le_of_ble_eq_true rfl) (fun v8 _ => ?_)
    refine B_iadd dX12_trouble_75 ?_
    refine L_iast dX12_trouble_76 shM_4 (by decide) di_104 ?_
    refine B_lh (fun h9 => ?_)
    refine B_aload_n dX12_trouble_77 rfl rfl ?_
    refine B_getR dX12_trouble_78 fl_X12_20 shM_0 rfl (rfM_0_4 _) ?_
    refine B_bipush dX12_trouble_81 bp_110 ?_
    refine B_aload_n dX12_trouble_83 rfl rfl ?_
    refine B_iconst dX12_trouble_84 ic_3 ?_
    refine B_iload_n dX12_trouble_85 rfl rfl ?_
    refine B_imul dX12_trouble_86 ?_
    refine B_iconst dX12_trouble_87 ic_2 ?_
    refine B_iadd dX12_trouble_88 ?_
    refine C_chk (fun q10 => ?_)
    refine L_iald dX12_trouble_89 hw q10 rfl ?_
    refine L_iast dX12_trouble_90 shM_4 (by decide) di_110 ?_
    refine B_lh (fun h11 => ?_)
    refine B_aload_n dX12_trouble_91 rfl rfl ?_
    refine B_getR dX12_trouble_92 fl_X12_20 shM_0 rfl (rfM_0_4 _) ?_
    refine B_bipush dX12_trouble_95 bp_116 ?_
    refine B_aload_n dX12_trouble_97 rfl rfl ?_
    refine B_bipush dX12_trouble_98 bp_22 ?_
    refine L_iald dX12_trouble_100 hw (by decide) di_22 ?_
    refine B_aload_n dX12_trouble_101 rfl rfl ?_
    refine B_aload_n dX12_trouble_102 rfl rfl ?_
    refine B_iload_n dX12_trouble_103 rfl rfl ?_
    refine B_Vp (st := [.int (h11.1 w 22), .int 116, .ref 4]) dX12_trouble_104 cl_X12_328 (t_X12_far w hw x2 h11) (Nat.le_of_ble_eq_true rfl) shM_0 rfl rfl (Nat.le_of_ble_eq_true rfl) (fun v12 _ => ?_)
    refine B_iadd dX12_trouble_107 ?_
    refine L_iast dX12_trouble_108 shM_4 (by decide) di_116 ?_
    refine B_lh (fun h13 => ?_)
    refine B_aload_n dX12_trouble_109 rfl rfl ?_
    refine B_VI (st := []) dX12_trouble_110 cl_X12_332 (t_X12_worthNow h13) (Nat.le_of_ble_eq_true rfl) shM_0 rfl rfl (Nat.le_of_ble_eq_true rfl) (fun v14 h15 _ => ?_)
    refine B_istore (ls' := [.ref 0, .ref w, .int x2, .int x3, .int x4, .int v14]) dX12_trouble_113 (Nat.le_of_ble_eq_true rfl) rfl rfl ?_
    refine B_drop 0 (ls' := [.null, .ref w, .int x2, .int x3, .int x4, .int v14]) rfl ?_
    refine B_drop 1 (ls' := [.null, .null, .int x2, .int x3, .int x4, .int v14]) rfl ?_
    refine B_drop 2 (ls' := [.null, .null, .null, .int x3, .int x4, .int v14]) rfl ?_
    refine B_drop 3 (ls' := [.null, .null, .null, .null, .int x4, .int v14]) rfl ?_
    refine B_drop 4 (ls' := [.null, .null, .null, .null, .null, .int v14]) rfl ?_
    exact b_X12_trouble_J115 hw v14 h15
def f_X12_canWalk (w : Nat) (x2 : Int32) (h : dH) : Option (Bool) :=
  if (f_X12_isPlace x2 h) then
  if (f_X12_where w h) = x2 then
  some false
  else
  (f_X12_far w x2 h).bind fun v1 =>
  if (h.1 5 0) < ((h.1 w 22) + v1) then
  some false
  else
  (f_X12_far w x2 h).bind fun v2 =>
  if (h.1 5 1) < (((h.1 w 21) + v2) + 1) then
  some false
  else
  some true
  else
  some false
set_option maxRecDepth 20000 in
set_option maxHeartbeats 4000000 in
theorem t_X12_canWalk (w : Nat) (hw : XM.1[w]? = some (.inr (0, 209))) (x2 : Int32) (h : dH) : T XM 3 yX12_canWalk cX12_canWalk 3 (some .boolean) (fiB h) [.ref 0, .ref w, .int x2] h (f_X12_canWalk w x2 h) := by
  refine T_of [.ref 0, .ref w, .int x2] (by decide) (fun _ => rfl) (fun _ => Nat.le_of_ble_eq_true rfl) ?_
  show B XM 3 RX12 cX12_canWalk 3 (some .boolean) (fiB h) 0 [.ref 0, .ref w, .int x2] [] h (f_X12_canWalk w x2 h)
  unfold f_X12_canWalk
  refine B_aload_n dX12_canWalk_0 rfl rfl ?_
  refine B_iload_n dX12_canWalk_1 rfl rfl ?_
  refine B_VTb (st := []) dX12_canWalk_2 cl_X12_339 (t_X12_isPlace x2 h) (Nat.le_of_ble_eq_true rfl) shM_0 rfl rfl (Nat.le_of_ble_eq_true rfl) ?_
  refine C_ifb_eq (tgt := 62) dX12_canWalk_5 (by decide) (fun q6 => ?_) (fun q6 => ?_)
  · refine B_iconst dX12_canWalk_62 ic_0 ?_
    exact B_zreturn dX12_canWalk_63 rfl rfl rfl
  · refine B_aload_n dX12_canWalk_8 rfl rfl ?_
    refine B_St (st := []) dX12_canWalk_9 cl_X12_311 (t_X12_where w hw h) (Nat.le_of_ble_eq_true rfl) rfl rfl (Nat.le_of_ble_eq_true rfl) ?_
    refine B_iload_n dX12_canWalk_12 rfl rfl ?_
    refine C_icmp_eq (tgt := 62) dX12_canWalk_13 (by decide) (fun q5 => ?_) (fun q5 => ?_)
    · refine B_iconst dX12_canWalk_62 ic_0 ?_
      exact B_zreturn dX12_canWalk_63 rfl rfl rfl
    · refine B_aload_n dX12_canWalk_16 rfl rfl ?_
      refine B_bipush dX12_canWalk_17 bp_22 ?_
      refine L_iald dX12_canWalk_19 hw (by decide) di_22 ?_
      refine B_aload_n dX12_canWalk_20 rfl rfl ?_
      refine B_aload_n dX12_canWalk_21 rfl rfl ?_
      refine B_iload_n dX12_canWalk_22 rfl rfl ?_
      refine B_Vp (st := [.int (h.1 w 22)]) dX12_canWalk_23 cl_X12_328 (t_X12_far w hw x2 h) (Nat.le_of_ble_eq_true rfl) shM_0 rfl rfl (Nat.le_of_ble_eq_true rfl) (fun v1 _ => ?_)
      refine B_iadd dX12_canWalk_26 ?_
      refine B_aload_n dX12_canWalk_27 rfl rfl ?_
      refine B_getR dX12_canWalk_28 fl_X12_37 shM_0 rfl (rfM_0_18 _) ?_
      refine B_iconst dX12_canWalk_31 ic_0 ?_
      refine L_iald dX12_canWalk_32 shM_5 (by decide) di_0 ?_
      refine C_icmp_gt (tgt := 62) dX12_canWalk_33 (by decide) (fun q4 => ?_) (fun q4 => ?_)
      · refine B_iconst dX12_canWalk_62 ic_0 ?_
        exact B_zreturn dX12_canWalk_63 rfl rfl rfl
      · refine B_aload_n dX12_canWalk_36 rfl rfl ?_
        refine B_bipush dX12_canWalk_37 bp_21 ?_
        refine L_iald dX12_canWalk_39 hw (by decide) di_21 ?_
        refine B_aload_n dX12_canWalk_40 rfl rfl ?_
        refine B_aload_n dX12_canWalk_41 rfl rfl ?_
        refine B_iload_n dX12_canWalk_42 rfl rfl ?_
        refine B_Vp (st := [.int (h.1 w 21)]) dX12_canWalk_43 cl_X12_328 (t_X12_far w hw x2 h) (Nat.le_of_ble_eq_true rfl) shM_0 rfl rfl (Nat.le_of_ble_eq_true rfl) (fun v2 _ => ?_)
        refine B_iadd dX12_canWalk_46 ?_
        refine B_iconst dX12_canWalk_47 ic_1 ?_
        refine B_iadd dX12_canWalk_48 ?_
        refine B_aload_n dX12_canWalk_49 rfl rfl ?_
        refine B_getR dX12_canWalk_50 fl_X12_37 shM_0 rfl (rfM_0_18 _) ?_
        refine B_iconst dX12_canWalk_53 ic_1 ?_
        refine L_iald dX12_canWalk_54 shM_5 (by decide) di_1 ?_
        refine C_icmp_gt (tgt := 62) dX12_canWalk_55 (by decide) (fun q3 => ?_) (fun q3 => ?_)
        · refine B_iconst dX12_canWalk_62 ic_0 ?_
          exact B_zreturn dX12_canWalk_63 rfl rfl rfl
        · refine B_iconst dX12_canWalk_58 ic_1 ?_
          refine B_goto (tgt := 63) dX12_canWalk_59 (by decide) ?_
          exact B_zreturn dX12_canWalk_63 rfl rfl rfl
def f_X12_walks_J98 (w : Nat) (y2 : Int32) (y4 : Int32) (h : dH) : Option (Int32 × dH) :=
  if dIn ((3 * y2) + 2) 209 then
  if dIn ((3 * y2) + 2) 209 then
  (some (dPut h w (dI ((3 * y2) + 2)) ((h.1 w (dI ((3 * y2) + 2))) + 1))).bind fun h19 =>
  some (y4, (dPut h19 w 26 ((h19.1 w 26) ||| (1 <<< (y2 &&& 31)))))
  else none
  else none
set_option maxRecDepth 20000 in
set_option maxHeartbeats 4000000 in
theorem b_X12_walks_J98 {w : Nat} (hw : XM.1[w]? = some (.inr (0, 209))) (y2 : Int32) (y4 : Int32) (h : dH) : B XM 85 RX12 cX12_walks 6 (some .int) fiI 98 [.null, .ref w, .int y2, .null, .int y4, .null] [] h (f_X12_walks_J98 w y2 y4 h) := by
  unfold f_X12_walks_J98
  refine B_aload_n dX12_walks_98 rfl rfl ?_
  refine B_iconst dX12_walks_99 ic_3 ?_
  refine B_iload_n dX12_walks_100 rfl rfl ?_
  refine B_imul dX12_walks_101 ?_
  refine B_iconst dX12_walks_102 ic_2 ?_
  refine B_iadd dX12_walks_103 ?_
  refine B_dup2 dX12_walks_104 rfl rfl ?_
  refine C_chk (fun q17 => ?_)
  refine L_iald dX12_walks_105 hw q17 rfl ?_
  refine B_iconst dX12_walks_106 ic_1 ?_
  refine B_iadd dX12_walks_107 ?_
  refine C_chk (fun q18 => ?_)
  refine L_iast dX12_walks_108 hw q18 rfl ?_
  refine B_lh (fun h19 => ?_)
  refine B_aload_n dX12_walks_109 rfl rfl ?_
  refine B_bipush dX12_walks_110 bp_26 ?_
  refine B_dup2 dX12_walks_112 rfl rfl ?_
  refine L_iald dX12_walks_113 hw (by decide) di_26 ?_
  refine B_iconst dX12_walks_114 ic_1 ?_
  refine B_iload_n dX12_walks_115 rfl rfl ?_
  refine B_ishl dX12_walks_116 ?_
  refine B_ior dX12_walks_117 ?_
  refine L_iast dX12_walks_118 hw (by decide) di_26 ?_
  refine B_iload dX12_walks_119 rfl ?_
  exact B_ireturn dX12_walks_121 rfl rfl
def f_X12_walks (w : Nat) (x2 : Int32) (x3 : Int32) (h : dH) : Option (Int32 × dH) :=
  (f_X12_of x2 3 h).bind fun v1 =>
  (f_X12_trouble w x2 v1 x3 h).bind fun rv2 =>
  (f_X12_far w x2 rv2.2).bind fun v4 =>
  (some (dPut rv2.2 w 22 ((rv2.2.1 w 22) + v4))).bind fun h5 =>
  (some (dPut h5 w 21 ((h5.1 w 21) + (v4 + 1)))).bind fun h6 =>
  (some (dPut h6 w 23 (x2 + 1))).bind fun h7 =>
  if dIn ((3 * x2) + 0) 209 then
  if dIn ((3 * x2) + 0) 209 then
  (some (dPut h7 w (dI ((3 * x2) + 0)) ((h7.1 w (dI ((3 * x2) + 0))) + rv2.1))).bind fun h10 =>
  if dIn ((3 * x2) + 2) 209 then
  if (h10.1 w (dI ((3 * x2) + 2))) = 0 then
  (f_X12_of x2 3 h10).bind fun v12 =>
  (some (dPut h10 w 24 ((h10.1 w 24) + v12))).bind fun h13 =>
  (f_X12_of x2 3 h13).bind fun v14 =>
  (some (dPut h13 w 25 ((h13.1 w 25) + v14))).bind fun h15 =>
  f_X12_walks_J98 w x2 rv2.1 h15
  else
  f_X12_walks_J98 w x2 rv2.1 h10
  else none
  else none
  else none
set_option maxRecDepth 20000 in
set_option maxHeartbeats 4000000 in
theorem t_X12_walks (w : Nat) (hw : XM.1[w]? = some (.inr (0, 209))) (x2 : Int32) (x3 : Int32) (h : dH) : T XM 85 yX12_walks cX12_walks 6 (some .int) fiI [.ref 0, .ref w, .int x2, .int x3] h (f_X12_walks w x2 x3 h) := by
  refine T_of [.ref 0, .ref w, .int x2, .int x3, .null, .null] (by decide) (fun _ => rfl) (fun _ => Nat.le_of_ble_eq_true rfl) ?_
  show B XM 85 RX12 cX12_walks 6 (some .int) fiI 0 [.ref 0, .ref w, .int x2, .int x3, .null, .null] [] h (f_X12_walks w x2 x3 h)
  unfold f_X12_walks
  refine B_aload_n dX12_walks_0 rfl rfl ?_
  refine B_aload_n dX12_walks_1 rfl rfl ?_
  refine B_iload_n dX12_walks_2 rfl rfl ?_
  refine B_aload_n dX12_walks_3 rfl rfl ?_
  refine B_iload_n dX12_walks_4 rfl rfl ?_
  refine B_iconst dX12_walks_5 ic_3 ?_
  refine B_Vp (st := [.int x2, .ref w, .ref 0]) dX12_walks_6 cl_X12_305 (t_X12_of x2 3 h) (Nat.le_of_ble_eq_true rfl) shM_0 rfl rfl (Nat.le_of_ble_eq_true rfl) (fun v1 _ => ?_)
  refine B_iload_n dX12_walks_9 rfl rfl ?_
  refine B_VI (st := []) dX12_walks_10 cl_X12_342 (t_X12_trouble w hw x2 v1 x3 h) (Nat.le_of_ble_eq_true rfl) shM_0 rfl rfl (Nat.le_of_ble_eq_true rfl) (fun v2 h3 _ => ?_)
  refine B_istore (ls' := [.ref 0, .ref w, .int x2, .int x3, .int v2, .null]) dX12_walks_13 (Nat.le_of_ble_eq_true rfl) rfl rfl ?_
  refine B_aload_n dX12_walks_15 rfl rfl ?_
  refine B_aload_n dX12_walks_16 rfl rfl ?_
  refine B_iload_n dX12_walks_17 rfl rfl ?_
  refine B_Vp (st := []) dX12_walks_18 cl_X12_328 (t_X12_far w hw x2 h3) (Nat.le_of_ble_eq_true rfl) shM_0 rfl rfl (Nat.le_of_ble_eq_true rfl) (fun v4 _ => ?_)
  refine B_istore (ls' := [.ref 0, .ref w, .int x2, .int x3, .int v2, .int v4]) dX12_walks_21 (Nat.le_of_ble_eq_true rfl) rfl rfl ?_
  refine B_aload_n dX12_walks_23 rfl rfl ?_
  refine B_bipush dX12_walks_24 bp_22 ?_
  refine B_dup2 dX12_walks_26 rfl rfl ?_
  refine L_iald dX12_walks_27 hw (by decide) di_22 ?_
  refine B_iload dX12_walks_28 rfl ?_
  refine B_iadd dX12_walks_30 ?_
  refine L_iast dX12_walks_31 hw (by decide) di_22 ?_
  refine B_lh (fun h5 => ?_)
  refine B_aload_n dX12_walks_32 rfl rfl ?_
  refine B_bipush dX12_walks_33 bp_21 ?_
  refine B_dup2 dX12_walks_35 rfl rfl ?_
  refine L_iald dX12_walks_36 hw (by decide) di_21 ?_
  refine B_iload dX12_walks_37 rfl ?_
  refine B_iconst dX12_walks_39 ic_1 ?_
  refine B_iadd dX12_walks_40 ?_
  refine B_iadd dX12_walks_41 ?_
  refine L_iast dX12_walks_42 hw (by decide) di_21 ?_
  refine B_lh (fun h6 => ?_)
  refine B_aload_n dX12_walks_43 rfl rfl ?_
  refine B_bipush dX12_walks_44 bp_23 ?_
  refine B_iload_n dX12_walks_46 rfl rfl ?_
  refine B_iconst dX12_walks_47 ic_1 ?_
  refine B_iadd dX12_walks_48 ?_
  refine L_iast dX12_walks_49 hw (by decide) di_23 ?_
  refine B_lh (fun h7 => ?_)
  refine B_aload_n dX12_walks_50 rfl rfl ?_
  refine B_iconst dX12_walks_51 ic_3 ?_
  refine B_iload_n dX12_walks_52 rfl rfl ?_
  refine B_imul dX12_walks_53 ?_
  refine B_iconst dX12_walks_54 ic_0 ?_
  refine B_iadd dX12_walks_55 ?_
  refine B_dup2 dX12_walks_56 rfl rfl ?_
  refine C_chk (fun q8 => ?_)
  refine L_iald dX12_walks_57 hw q8 rfl ?_
  refine B_iload dX12_walks_58 rfl ?_
  refine B_iadd dX12_walks_60 ?_
  refine C_chk (fun q9 => ?_)
  refine L_iast dX12_walks_61 hw q9 rfl ?_
  refine B_lh (fun h10 => ?_)
  refine B_aload_n dX12_walks_62 rfl rfl ?_
  refine B_iconst dX12_walks_63 ic_3 ?_
  refine B_iload_n dX12_walks_64 rfl rfl ?_
  refine B_imul dX12_walks_65 ?_
  refine B_iconst dX12_walks_66 ic_2 ?_
  refine B_iadd dX12_walks_67 ?_
  refine C_chk (fun q11 => ?_)
  refine L_iald dX12_walks_68 hw q11 rfl ?_
  refine C_if_ne (tgt := 98) dX12_walks_69 (by decide) (fun q16 => ?_) (fun q16 => ?_)
  · refine B_drop 0 (ls' := [.null, .ref w, .int x2, .int x3, .int v2, .int v4]) rfl ?_
    refine B_drop 3 (ls' := [.null, .ref w, .int x2, .null, .int v2, .int v4]) rfl ?_
    refine B_drop 5 (ls' := [.null, .ref w, .int x2, .null, .int v2, .null]) rfl ?_
    exact b_X12_walks_J98 hw x2 v2 h10
  · refine B_aload_n dX12_walks_72 rfl rfl ?_
    refine B_bipush dX12_walks_73 bp_24 ?_
    refine B_dup2 dX12_walks_75 rfl rfl ?_
    refine L_iald dX12_walks_76 hw (by decide) di_24 ?_
    refine B_aload_n dX12_walks_77 rfl rfl ?_
    refine B_iload_n dX12_walks_78 rfl rfl ?_
    refine B_iconst dX12_walks_79 ic_3 ?_
    refine B_Vp (st := [.int (h10.1 w 24), .int 24, .ref w]) dX12_walks_80 cl_X12_305 (t_X12_of x2 3 h10) (Nat.le_of_ble_eq_true rfl) shM_0 rfl rfl (Nat.le_of_ble_eq_true rfl) (fun v12 _ => ?_)
    refine B_iadd dX12_walks_83 ?_
    refine L_iast dX12_walks_84 hw (by decide) di_24 ?_
    refine B_lh (fun h13 => ?_)
    refine B_aload_n dX12_walks_85 rfl rfl ?_
    refine B_bipush dX12_walks_86 bp_25 ?_
    refine B_dup2 dX12_walks_88 rfl rfl ?_
    refine L_iald dX12_walks_89 hw (by decide) di_25 ?_
    refine B_aload_n dX12_walks_90 rfl rfl ?_
    refine B_iload_n dX12_walks_91 rfl rfl ?_
    refine B_iconst dX12_walks_92 ic_3 ?_
    refine B_Vp (st := [.int (h13.1 w 25), .int 25, .ref w]) dX12_walks_93 cl_X12_305 (t_X12_of x2 3 h13) (Nat.le_of_ble_eq_true rfl) shM_0 rfl rfl (Nat.le_of_ble_eq_true rfl) (fun v14 _ => ?_)
    refine B_iadd dX12_walks_96 ?_
    refine L_iast dX12_walks_97 hw (by decide) di_25 ?_
    refine B_lh (fun h15 => ?_)
    refine B_drop 0 (ls' := [.null, .ref w, .int x2, .int x3, .int v2, .int v4]) rfl ?_
    refine B_drop 3 (ls' := [.null, .ref w, .int x2, .null, .int v2, .int v4]) rfl ?_
    refine B_drop 5 (ls' := [.null, .ref w, .int x2, .null, .int v2, .null]) rfl ?_
    exact b_X12_walks_J98 hw x2 v2 h15
def f_X12_canRest (w : Nat) (h : dH) : Bool :=
  if 0 < (h.1 w 22) then
  if (h.1 w 21) < (h.1 5 1) then
  true
  else
  false
  else
  false
set_option maxRecDepth 20000 in
set_option maxHeartbeats 4000000 in
theorem t_X12_canRest (w : Nat) (hw : XM.1[w]? = some (.inr (0, 209))) (h : dH) : T XM 0 yX12_canRest cX12_canRest 2 (some .boolean) (fiB h) [.ref 0, .ref w] h (some (f_X12_canRest w h)) := by
  refine T_of [.ref 0, .ref w] (by decide) (fun _ => rfl) (fun _ => Nat.le_of_ble_eq_true rfl) ?_
  show B XM 0 RX12 cX12_canRest 2 (some .boolean) (fiB h) 0 [.ref 0, .ref w] [] h (some (f_X12_canRest w h))
  unfold f_X12_canRest
  refine B_aload_n dX12_canRest_0 rfl rfl ?_
  refine B_bipush dX12_canRest_1 bp_22 ?_
  refine L_iald dX12_canRest_3 hw (by decide) di_22 ?_
  refine C_some ?_
  refine C_if_le (tgt := 24) dX12_canRest_4 (by decide) (fun q2 => ?_) (fun q2 => ?_)
  · refine B_iconst dX12_canRest_24 ic_0 ?_
    exact B_zreturn dX12_canRest_25 rfl rfl rfl
  · refine B_aload_n dX12_canRest_7 rfl rfl ?_
    refine B_bipush dX12_canRest_8 bp_21 ?_
    refine L_iald dX12_canRest_10 hw (by decide) di_21 ?_
    refine B_aload_n dX12_canRest_11 rfl rfl ?_
    refine B_getR dX12_canRest_12 fl_X12_37 shM_0 rfl (rfM_0_18 _) ?_
    refine B_iconst dX12_canRest_15 ic_1 ?_
    refine L_iald dX12_canRest_16 shM_5 (by decide) di_1 ?_
    refine C_some ?_
    refine C_icmp_ge (tgt := 24) dX12_canRest_17 (by decide) (fun q1 => ?_) (fun q1 => ?_)
    · refine B_iconst dX12_canRest_24 ic_0 ?_
      exact B_zreturn dX12_canRest_25 rfl rfl rfl
    · refine B_iconst dX12_canRest_20 ic_1 ?_
      refine B_goto (tgt := 25) dX12_canRest_21 (by decide) ?_
      exact B_zreturn dX12_canRest_25 rfl rfl rfl
def f_X12_sitsDown (w : Nat) (h : dH) : Option (dH) :=
  (some (dPut h w 21 ((h.1 w 21) + 1))).bind fun h1 =>
  some (dPut h1 w 22 (jmax 0 ((h1.1 w 22) - 3)))
set_option maxRecDepth 20000 in
set_option maxHeartbeats 4000000 in
theorem t_X12_sitsDown (w : Nat) (hw : XM.1[w]? = some (.inr (0, 209))) (h : dH) : T XM 1 yX12_sitsDown cX12_sitsDown 1 none fiV [.ref w] h (f_X12_sitsDown w h) := by
  refine T_of [.ref w] (by decide) (fun _ => rfl) (fun _ => Nat.le_of_ble_eq_true rfl) ?_
  show B XM 1 RX12 cX12_sitsDown 1 none fiV 0 [.ref w] [] h (f_X12_sitsDown w h)
  unfold f_X12_sitsDown
  refine B_aload_n dX12_sitsDown_0 rfl rfl ?_
  refine B_bipush dX12_sitsDown_1 bp_21 ?_
  refine B_dup2 dX12_sitsDown_3 rfl rfl ?_
  refine L_iald dX12_sitsDown_4 hw (by decide) di_21 ?_
  refine B_iconst dX12_sitsDown_5 ic_1 ?_
  refine B_iadd dX12_sitsDown_6 ?_
  refine L_iast dX12_sitsDown_7 hw (by decide) di_21 ?_
  refine B_lh (fun h1 => ?_)
  refine B_aload_n dX12_sitsDown_8 rfl rfl ?_
  refine B_bipush dX12_sitsDown_9 bp_22 ?_
  refine B_iconst dX12_sitsDown_11 ic_0 ?_
  refine B_aload_n dX12_sitsDown_12 rfl rfl ?_
  refine B_bipush dX12_sitsDown_13 bp_22 ?_
  refine L_iald dX12_sitsDown_15 hw (by decide) di_22 ?_
  refine B_iconst dX12_sitsDown_16 ic_3 ?_
  refine B_isub dX12_sitsDown_17 ?_
  refine B_mmax dX12_sitsDown_18 mt_X12_337 (Nat.le_of_ble_eq_true rfl) (Nat.le_of_ble_eq_true rfl) ?_
  refine L_iast dX12_sitsDown_21 hw (by decide) di_22 ?_
  exact B_return dX12_sitsDown_22 rfl rfl
def f_X12_tooMuch_J37 (w : Nat) (kL4 : Int32 → Int32 → Option (Int32)) (y3 : Int32) (z0 : Int32) (z1 : Int32) (h : dH) : Option (Int32) :=
  (some ((z0 ||| z1))).bind fun v5 =>
  kL4 v5 (y3 + 1)
set_option maxRecDepth 20000 in
set_option maxHeartbeats 4000000 in
theorem b_X12_tooMuch_J37 {w : Nat} {kL4 : Int32 → Int32 → Option (Int32)} (hw : XM.1[w]? = some (.inr (0, 209))) (h : dH) (hkL4 : ∀ (y2 : Int32) (y3 : Int32), B XM 0 RX12 cX12_tooMuch 4 (some .int) (fiP h) 4 [.ref 0, .ref w, .int y2, .int y3] [] h (kL4 y2 y3)) (y3 : Int32) (z0 : Int32) (z1 : Int32) : B XM 0 RX12 cX12_tooMuch 4 (some .int) (fiP h) 37 [.ref 0, .ref w, .null, .int y3] [.int z1, .int z0] h (f_X12_tooMuch_J37 w kL4 y3 z0 z1 h) := by
  unfold f_X12_tooMuch_J37
  refine B_ior dX12_tooMuch_37 ?_
  refine B_lv (fun v5 => ?_)
  refine B_istore_n (ls' := [.ref 0, .ref w, .int v5, .int y3]) dX12_tooMuch_38 rfl (Nat.le_of_ble_eq_true rfl) rfl rfl ?_
  refine B_iinc (w := (y3 + 1)) (ls' := [.ref 0, .ref w, .int v5, .int (y3 + 1)]) dX12_tooMuch_39 rfl (congrArg (fun z => y3 + z) ic_1) (Nat.le_of_ble_eq_true rfl) rfl rfl ?_
  refine B_goto (tgt := 4) dX12_tooMuch_42 (by decide) ?_
  exact hkL4 v5 (y3 + 1)  
def f_X12_tooMuch_L4 (w : Nat) (h : dH) : Nat → Int32 → Int32 → Option (Int32)
  | 0, _, _ => none
  | n + 1, y2, y3 =>
    if y3 < (h.1 0 24) then
    if dIn ((3 * y3) + 0) 209 then
    if dIn ((3 * y3) + 1) 209 then
    if (h.1 w (dI ((3 * y3) + 1))) < (h.1 w (dI ((3 * y3) + 0))) then
    f_X12_tooMuch_J37 w (f_X12_tooMuch_L4 w h n) y3 y2 (1 <<< (y3 &&& 31)) h
    else
    f_X12_tooMuch_J37 w (f_X12_tooMuch_L4 w h n) y3 y2 0 h
    else none
    else none
    else
    some y2
set_option maxRecDepth 20000 in
set_option maxHeartbeats 4000000 in
theorem b_X12_tooMuch_L4 {w : Nat} (hw : XM.1[w]? = some (.inr (0, 209))) (h : dH) : ∀ (n : Nat) (y2 : Int32) (y3 : Int32), B XM 0 RX12 cX12_tooMuch 4 (some .int) (fiP h) 4 [.ref 0, .ref w, .int y2, .int y3] [] h (f_X12_tooMuch_L4 w h n y2 y3) := by
  intro n
  induction n with
  | zero =>
    intro y2 y3
    exact B_none
  | succ n ih =>
    intro y2 y3
    rw [f_X12_tooMuch_L4]
    refine B_iload_n dX12_tooMuch_4 rfl rfl ?_
    refine B_aload_n dX12_tooMuch_5 rfl rfl ?_
    refine B_getI dX12_tooMuch_6 fl_X12_293 shM_0 rfl ?_
    refine C_icmp_ge (tgt := 45) dX12_tooMuch_9 (by decide) (fun q4 => ?_) (fun q4 => ?_)
    · refine B_iload_n dX12_tooMuch_45 rfl rfl ?_
      exact B_ireturn dX12_tooMuch_46 rfl rfl
    · refine B_iload_n dX12_tooMuch_12 rfl rfl ?_
      refine B_aload_n dX12_tooMuch_13 rfl rfl ?_
      refine B_iconst dX12_tooMuch_14 ic_3 ?_
      refine B_iload_n dX12_tooMuch_15 rfl rfl ?_
      refine B_imul dX12_tooMuch_16 ?_
      refine B_iconst dX12_tooMuch_17 ic_0 ?_
      refine B_iadd dX12_tooMuch_18 ?_
      refine C_chk (fun q1 => ?_)
      refine L_iald dX12_tooMuch_19 hw q1 rfl ?_
      refine B_aload_n dX12_tooMuch_20 rfl rfl ?_
      refine B_iconst dX12_tooMuch_21 ic_3 ?_
      refine B_iload_n dX12_tooMuch_22 rfl rfl ?_
      refine B_imul dX12_tooMuch_23 ?_
      refine B_iconst dX12_tooMuch_24 ic_1 ?_
      refine B_iadd dX12_tooMuch_25 ?_
      refine C_chk (fun q2 => ?_)
      refine L_iald dX12_tooMuch_26 hw q2 rfl ?_
      refine C_icmp_le (tgt := 36) dX12_tooMuch_27 (by decide) (fun q3 => ?_) (fun q3 => ?_)
      · refine B_iconst dX12_tooMuch_36 ic_0 ?_
        refine B_drop 2 (ls' := [.ref 0, .ref w, .null, .int y3]) rfl ?_
        exact b_X12_tooMuch_J37 hw h (fun qy2 qy3 => ih qy2 qy3) y3 y2 0
      · refine B_iconst dX12_tooMuch_30 ic_1 ?_
        refine B_iload_n dX12_tooMuch_31 rfl rfl ?_
        refine B_ishl dX12_tooMuch_32 ?_
        refine B_goto (tgt := 37) dX12_tooMuch_33 (by decide) ?_
        refine B_drop 2 (ls' := [.ref 0, .ref w, .null, .int y3]) rfl ?_
        exact b_X12_tooMuch_J37 hw h (fun qy2 qy3 => ih qy2 qy3) y3 y2 (1 <<< (y3 &&& 31))
def f_X12_tooMuch (w : Nat) (h : dH) : Option (Int32) :=
  f_X12_tooMuch_L4 w h dFu 0 0
set_option maxRecDepth 20000 in
set_option maxHeartbeats 4000000 in
theorem t_X12_tooMuch (w : Nat) (hw : XM.1[w]? = some (.inr (0, 209))) (h : dH) : T XM 0 yX12_tooMuch cX12_tooMuch 4 (some .int) (fiP h) [.ref 0, .ref w] h (f_X12_tooMuch w h) := by
  refine T_of [.ref 0, .ref w, .null, .null] (by decide) (fun _ => rfl) (fun _ => Nat.le_of_ble_eq_true rfl) ?_
  show B XM 0 RX12 cX12_tooMuch 4 (some .int) (fiP h) 0 [.ref 0, .ref w, .null, .null] [] h (f_X12_tooMuch w h)
  unfold f_X12_tooMuch
  refine B_iconst dX12_tooMuch_0 ic_0 ?_
  refine B_istore_n (ls' := [.ref 0, .ref w, .int 0, .null]) dX12_tooMuch_1 rfl (Nat.le_of_ble_eq_true rfl) rfl rfl ?_
  refine B_iconst dX12_tooMuch_2 ic_0 ?_
  refine B_istore_n (ls' := [.ref 0, .ref w, .int 0, .int 0]) dX12_tooMuch_3 rfl (Nat.le_of_ble_eq_true rfl) rfl rfl ?_
  exact b_X12_tooMuch_L4 hw h dFu 0 0
def f_X12_goDay_L92 (w : Nat) : Nat → Int32 → dH → Option (dH)
  | 0, _, _ => none
  | n + 1, y3, h =>
    if y3 < (h.1 0 24) then
    if dIn ((3 * y3) + 0) 209 then
    if dIn ((3 * y3) + 0) 209 then
    (some (dPut h w (dI ((3 * y3) + 0)) (jmax 0 ((h.1 w (dI ((3 * y3) + 0))) - (h.1 5 2))))).bind fun h22 =>
    if dIn ((3 * y3) + 2) 209 then
    (some (dPut h22 w (dI ((3 * y3) + 2)) 0)).bind fun h24 =>
    (f_X12_goDay_L92 w n) (y3 + 1) h24
    else none
    else none
    else none
    else
    (some (dPut h w 21 0)).bind fun h16 =>
    (some (dPut h16 w 22 0)).bind fun h17 =>
    (some (dPut h17 w 23 0)).bind fun h18 =>
    (some (dPut h18 w 24 0)).bind fun h19 =>
    some (dPut h19 w 27 ((h19.1 w 27) + 1))
set_option maxRecDepth 20000 in
set_option maxHeartbeats 4000000 in
theorem b_X12_goDay_L92 {w : Nat} (hw : XM.1[w]? = some (.inr (0, 209))) : ∀ (n : Nat) (y3 : Int32) (h : dH), B XM 1 RX12 cX12_goDay 4 none fiV 92 [.ref 0, .ref w, .null, .int y3] [] h (f_X12_goDay_L92 w n y3 h) := by
  intro n
  induction n with
  | zero =>
    intro y3 h
    exact B_none
  | succ n ih =>
    intro y3 h
    rw [f_X12_goDay_L92]
    refine B_iload_n dX12_goDay_92 rfl rfl ?_
    refine B_aload_n dX12_goDay_93 rfl rfl ?_
    refine B_getI dX12_goDay_94 fl_X12_293 shM_0 rfl ?_
    refine C_icmp_ge (tgt := 139) dX12_goDay_97 (by decide) (fun q25 => ?_) (fun q25 => ?_)
    · refine B_aload_n dX12_goDay_139 rfl rfl ?_
      refine B_bipush dX12_goDay_140 bp_21 ?_
      refine B_iconst dX12_goDay_142 ic_0 ?_
      refine L_iast dX12_goDay_143 hw (by decide) di_21 ?_
      refine B_lh (fun h16 => ?_)
      refine B_aload_n dX12_goDay_144 rfl rfl ?_
      refine B_bipush dX12_goDay_145 bp_22 ?_
      refine B_iconst dX12_goDay_147 ic_0 ?_
      refine L_iast dX12_goDay_148 hw (by decide) di_22 ?_
      refine B_lh (fun h17 => ?_)
      refine B_aload_n dX12_goDay_149 rfl rfl ?_
      refine B_bipush dX12_goDay_150 bp_23 ?_
      refine B_iconst dX12_goDay_152 ic_0 ?_
      refine L_iast dX12_goDay_153 hw (by decide) di_23 ?_
      refine B_lh (fun h18 => ?_)
      refine B_aload_n dX12_goDay_154 rfl rfl ?_
      refine B_bipush dX12_goDay_155 bp_24 ?_
      refine B_iconst dX12_goDay_157 ic_0 ?_
      refine L_iast dX12_goDay_158 hw (by decide) di_24 ?_
      refine B_lh (fun h19 => ?_)
      refine B_aload_n dX12_goDay_159 rfl rfl ?_
      refine B_bipush dX12_goDay_160 bp_27 ?_
      refine B_dup2 dX12_goDay_162 rfl rfl ?_
      refine L_iald dX12_goDay_163 hw (by decide) di_27 ?_
      refine B_iconst dX12_goDay_164 ic_1 ?_
      refine B_iadd dX12_goDay_165 ?_
      refine L_iast dX12_goDay_166 hw (by decide) di_27 ?_
      exact B_return dX12_goDay_167 rfl rfl
    · refine B_aload_n dX12_goDay_100 rfl rfl ?_
      refine B_iconst dX12_goDay_101 ic_3 ?_
      refine B_iload_n dX12_goDay_102 rfl rfl ?_
      refine B_imul dX12_goDay_103 ?_
      refine B_iconst dX12_goDay_104 ic_0 ?_
      refine B_iadd dX12_goDay_105 ?_
      refine B_iconst dX12_goDay_106 ic_0 ?_
      refine B_aload_n dX12_goDay_107 rfl rfl ?_
      refine B_iconst dX12_goDay_108 ic_3 ?_
      refine B_iload_n dX12_goDay_109 rfl rfl ?_
      refine B_imul dX12_goDay_110 ?_
      refine B_iconst dX12_goDay_111 ic_0 ?_
      refine B_iadd dX12_goDay_112 ?_
      refine C_chk (fun q20 => ?_)
      refine L_iald dX12_goDay_113 hw q20 rfl ?_
      refine B_aload_n dX12_goDay_114 rfl rfl ?_
      refine B_getR dX12_goDay_115 fl_X12_37 shM_0 rfl (rfM_0_18 _) ?_
      refine B_iconst dX12_goDay_118 ic_2 ?_
      refine L_iald dX12_goDay_119 shM_5 (by decide) di_2 ?_
      refine B_isub dX12_goDay_120 ?_
      refine B_mmax dX12_goDay_121 mt_X12_337 (Nat.le_of_ble_eq_true rfl) (Nat.le_of_ble_eq_true rfl) ?_
      refine C_chk (fun q21 => ?_)
      refine L_iast dX12_goDay_124 hw q21 rfl ?_
      refine B_lh (fun h22 => ?_)
      refine B_aload_n dX12_goDay_125 rfl rfl ?_
      refine B_iconst dX12_goDay_126 ic_3 ?_
      refine B_iload_n dX12_goDay_127 rfl rfl ?_
      refine B_imul dX12_goDay_128 ?_
      refine B_iconst dX12_goDay_129 ic_2 ?_
      refine B_iadd dX12_goDay_130 ?_
      refine B_iconst dX12_goDay_131 ic_0 ?_
      refine C_chk (fun q23 => ?_)
      refine L_iast dX12_goDay_132 hw q23 rfl ?_
      refine B_lh (fun h24 => ?_)
      refine B_iinc (w := (y3 + 1)) (ls' := [.ref 0, .ref w, .null, .int (y3 + 1)]) dX12_goDay_133 rfl (congrArg (fun z => y3 + z) ic_1) (Nat.le_of_ble_eq_true rfl) rfl rfl ?_
      refine B_goto (tgt := 92) dX12_goDay_136 (by decide) ?_
      exact ih (y3 + 1)  h24
def f_X12_goDay_J46 (w : Nat) (h : dH) : Option (dH) :=
  (some ((29 + (3 * (h.1 w 28))))).bind fun v2 =>
  if dIn v2 209 then
  (some (dPut h w (dI v2) (h.1 w 21))).bind fun h4 =>
  if dIn (v2 + 1) 209 then
  (some (dPut h4 w (dI (v2 + 1)) (h4.1 w 24))).bind fun h6 =>
  (f_X12_tooMuch w h6).bind fun v7 =>
  if dIn (v2 + 2) 209 then
  (some (dPut h6 w (dI (v2 + 2)) v7)).bind fun h9 =>
  (some (dPut h9 w 28 ((h9.1 w 28) + 1))).bind fun h10 =>
  f_X12_goDay_L92 w dFu 0 h10
  else none
  else none
  else none
set_option maxRecDepth 20000 in
set_option maxHeartbeats 4000000 in
theorem b_X12_goDay_J46 {w : Nat} (hw : XM.1[w]? = some (.inr (0, 209))) (h : dH) : B XM 1 RX12 cX12_goDay 4 none fiV 46 [.ref 0, .ref w, .null, .null] [] h (f_X12_goDay_J46 w h) := by
  unfold f_X12_goDay_J46
  refine B_bipush dX12_goDay_46 bp_29 ?_
  refine B_iconst dX12_goDay_48 ic_3 ?_
  refine B_aload_n dX12_goDay_49 rfl rfl ?_
  refine B_bipush dX12_goDay_50 bp_28 ?_
  refine L_iald dX12_goDay_52 hw (by decide) di_28 ?_
  refine B_imul dX12_goDay_53 ?_
  refine B_iadd dX12_goDay_54 ?_
  refine B_lv (fun v2 => ?_)
  refine B_istore_n (ls' := [.ref 0, .ref w, .int v2, .null]) dX12_goDay_55 rfl (Nat.le_of_ble_eq_true rfl) rfl rfl ?_
  refine B_aload_n dX12_goDay_56 rfl rfl ?_
  refine B_iload_n dX12_goDay_57 rfl rfl ?_
  refine B_aload_n dX12_goDay_58 rfl rfl ?_
  refine B_bipush dX12_goDay_59 bp_21 ?_
  refine L_iald dX12_goDay_61 hw (by decide) di_21 ?_
  refine C_chk (fun q3 => ?_)
  refine L_iast dX12_goDay_62 hw q3 rfl ?_
  refine B_lh (fun h4 => ?_)
  refine B_aload_n dX12_goDay_63 rfl rfl ?_
  refine B_iload_n dX12_goDay_64 rfl rfl ?_
  refine B_iconst dX12_goDay_65 ic_1 ?_
  refine B_iadd dX12_goDay_66 ?_
  refine B_aload_n dX12_goDay_67 rfl rfl ?_
  refine B_bipush dX12_goDay_68 bp_24 ?_
  refine L_iald dX12_goDay_70 hw (by decide) di_24 ?_
  refine C_chk (fun q5 => ?_)
  refine L_iast dX12_goDay_71 hw q5 rfl ?_
  refine B_lh (fun h6 => ?_)
  refine B_aload_n dX12_goDay_72 rfl rfl ?_
  refine B_iload_n dX12_goDay_73 rfl rfl ?_
  refine B_iconst dX12_goDay_74 ic_2 ?_
  refine B_iadd dX12_goDay_75 ?_
  refine B_aload_n dX12_goDay_76 rfl rfl ?_
  refine B_aload_n dX12_goDay_77 rfl rfl ?_
  refine B_Vp (st := [.int (v2 + 2), .ref w]) dX12_goDay_78 cl_X12_346 (t_X12_tooMuch w hw h6) (Nat.le_of_ble_eq_true rfl) shM_0 rfl rfl (Nat.le_of_ble_eq_true rfl) (fun v7 _ => ?_)
  refine C_chk (fun q8 => ?_)
  refine L_iast dX12_goDay_81 hw q8 rfl ?_
  refine B_lh (fun h9 => ?_)
  refine B_aload_n dX12_goDay_82 rfl rfl ?_
  refine B_bipush dX12_goDay_83 bp_28 ?_
  refine B_dup2 dX12_goDay_85 rfl rfl ?_
  refine L_iald dX12_goDay_86 hw (by decide) di_28 ?_
  refine B_iconst dX12_goDay_87 ic_1 ?_
  refine B_iadd dX12_goDay_88 ?_
  refine L_iast dX12_goDay_89 hw (by decide) di_28 ?_
  refine B_lh (fun h10 => ?_)
  refine B_iconst dX12_goDay_90 ic_0 ?_
  refine B_istore_n (ls' := [.ref 0, .ref w, .int v2, .int 0]) dX12_goDay_91 rfl (Nat.le_of_ble_eq_true rfl) rfl rfl ?_
  refine B_drop 2 (ls' := [.ref 0, .ref w, .null, .int 0]) rfl ?_
  exact b_X12_goDay_L92 hw dFu 0 h10
def f_X12_goDay_L11 (w : Nat) : Nat → Int32 → dH → Option (dH)
  | 0, _, _ => none
  | n + 1, y2, h =>
    if 177 < y2 then
    (some (dPut h w 28 ((h.1 w 28) - 1))).bind fun h11 =>
    f_X12_goDay_J46 w h11
    else
    if dIn ((28 + y2) + 3) 209 then
    if dIn (28 + y2) 209 then
    (some (dPut h w (dI (28 + y2)) (h.1 w (dI ((28 + y2) + 3))))).bind fun h14 =>
    (f_X12_goDay_L11 w n) (y2 + 1) h14
    else none
    else none
set_option maxRecDepth 20000 in
set_option maxHeartbeats 4000000 in
theorem b_X12_goDay_L11 {w : Nat} (hw : XM.1[w]? = some (.inr (0, 209))) : ∀ (n : Nat) (y2 : Int32) (h : dH), B XM 1 RX12 cX12_goDay 4 none fiV 11 [.ref 0, .ref w, .int y2, .null] [] h (f_X12_goDay_L11 w n y2 h) := by
  intro n
  induction n with
  | zero =>
    intro y2 h
    exact B_none
  | succ n ih =>
    intro y2 h
    rw [f_X12_goDay_L11]
    refine B_iload_n dX12_goDay_11 rfl rfl ?_
    refine B_sipush dX12_goDay_12 sp_177 ?_
    refine C_icmp_gt (tgt := 38) dX12_goDay_15 (by decide) (fun q15 => ?_) (fun q15 => ?_)
    · refine B_aload_n dX12_goDay_38 rfl rfl ?_
      refine B_bipush dX12_goDay_39 bp_28 ?_
      refine B_dup2 dX12_goDay_41 rfl rfl ?_
      refine L_iald dX12_goDay_42 hw (by decide) di_28 ?_
      refine B_iconst dX12_goDay_43 ic_1 ?_
      refine B_isub dX12_goDay_44 ?_
      refine L_iast dX12_goDay_45 hw (by decide) di_28 ?_
      refine B_lh (fun h11 => ?_)
      refine B_drop 2 (ls' := [.ref 0, .ref w, .null, .null]) rfl ?_
      exact b_X12_goDay_J46 hw h11
    · refine B_aload_n dX12_goDay_18 rfl rfl ?_
      refine B_bipush dX12_goDay_19 bp_28 ?_
      refine B_iload_n dX12_goDay_21 rfl rfl ?_
      refine B_iadd dX12_goDay_22 ?_
      refine B_aload_n dX12_goDay_23 rfl rfl ?_
      refine B_bipush dX12_goDay_24 bp_28 ?_
      refine B_iload_n dX12_goDay_26 rfl rfl ?_
      refine B_iadd dX12_goDay_27 ?_
      refine B_iconst dX12_goDay_28 ic_3 ?_
      refine B_iadd dX12_goDay_29 ?_
      refine C_chk (fun q12 => ?_)
      refine L_iald dX12_goDay_30 hw q12 rfl ?_
      refine C_chk (fun q13 => ?_)
      refine L_iast dX12_goDay_31 hw q13 rfl ?_
      refine B_lh (fun h14 => ?_)
      refine B_iinc (w := (y2 + 1)) (ls' := [.ref 0, .ref w, .int (y2 + 1), .null]) dX12_goDay_32 rfl (congrArg (fun z => y2 + z) ic_1) (Nat.le_of_ble_eq_true rfl) rfl rfl ?_
      refine B_goto (tgt := 11) dX12_goDay_35 (by decide) ?_
      exact ih (y2 + 1)  h14
def f_X12_goDay (w : Nat) (h : dH) : Option (dH) :=
  if (h.1 w 28) = 60 then
  f_X12_goDay_L11 w dFu 1 h
  else
  f_X12_goDay_J46 w h
set_option maxRecDepth 20000 in
set_option maxHeartbeats 4000000 in
theorem t_X12_goDay (w : Nat) (hw : XM.1[w]? = some (.inr (0, 209))) (h : dH) : T XM 1 yX12_goDay cX12_goDay 4 none fiV [.ref 0, .ref w] h (f_X12_goDay w h) := by
  refine T_of [.ref 0, .ref w, .null, .null] (by decide) (fun _ => rfl) (fun _ => Nat.le_of_ble_eq_true rfl) ?_
  show B XM 1 RX12 cX12_goDay 4 none fiV 0 [.ref 0, .ref w, .null, .null] [] h (f_X12_goDay w h)
  unfold f_X12_goDay
  refine B_aload_n dX12_goDay_0 rfl rfl ?_
  refine B_bipush dX12_goDay_1 bp_28 ?_
  refine L_iald dX12_goDay_3 hw (by decide) di_28 ?_
  refine B_bipush dX12_goDay_4 bp_60 ?_
  refine C_icmp_ne (tgt := 46) dX12_goDay_6 (by decide) (fun q1 => ?_) (fun q1 => ?_)
  · exact b_X12_goDay_J46 hw h
  · refine B_iconst dX12_goDay_9 ic_1 ?_
    refine B_istore_n (ls' := [.ref 0, .ref w, .int 1, .null]) dX12_goDay_10 rfl (Nat.le_of_ble_eq_true rfl) rfl rfl ?_
    exact b_X12_goDay_L11 hw dFu 1 h
def f_X12_rule (x1 : Int32) (h : dH) : Option (Int32 × dH) :=
  (some (dPut h 0 0 0)).bind fun h1 =>
  if 0 < (h1.1 0 24) then
  if (f_X12_isIn ((x1 : Int32).toInt64) 0 2 h1) then
  if dIn x1 3 then
  some ((h1.1 5 (dI x1)), h1)
  else none
  else
  some ((-1), h1)
  else
  some ((-1), h1)
set_option maxRecDepth 20000 in
set_option maxHeartbeats 4000000 in
theorem t_X12_rule (x1 : Int32) (h : dH) : T XM 1 yX12_rule cX12_rule 2 (some .int) fiI [.ref 0, .int x1] h (f_X12_rule x1 h) := by
  refine T_of [.ref 0, .int x1] (by decide) (fun _ => rfl) (fun _ => Nat.le_of_ble_eq_true rfl) ?_
  show B XM 1 RX12 cX12_rule 2 (some .int) fiI 0 [.ref 0, .int x1] [] h (f_X12_rule x1 h)
  unfold f_X12_rule
  refine B_aload_n dX12_rule_0 rfl rfl ?_
  refine B_iconst dX12_rule_1 ic_0 ?_
  refine B_putI dX12_rule_2 fl_X12_103 fw_X12_0 shM_0 rfl ?_
  refine B_lh (fun h1 => ?_)
  refine B_aload_n dX12_rule_5 rfl rfl ?_
  refine B_getI dX12_rule_6 fl_X12_293 shM_0 rfl ?_
  refine C_if_le (tgt := 33) dX12_rule_9 (by decide) (fun q4 => ?_) (fun q4 => ?_)
  · refine B_iconst dX12_rule_33 ic_m1 ?_
    exact B_ireturn dX12_rule_34 rfl rfl
  · refine B_iload_n dX12_rule_12 rfl rfl ?_
    refine B_i2l dX12_rule_13 ?_
    refine B_lconst (v := 0) dX12_rule_14 (by decide) ?_
    refine B_ldc2 dX12_rule_15 kc_X12_274 ?_
    refine B_STb (st := []) dX12_rule_18 cl_X12_224 (t_X12_isIn ((x1 : Int32).toInt64) 0 2 h1) (Nat.le_of_ble_eq_true rfl) rfl rfl (Nat.le_of_ble_eq_true rfl) ?_
    refine C_ifb_eq (tgt := 33) dX12_rule_21 (by decide) (fun q3 => ?_) (fun q3 => ?_)
    · refine B_iconst dX12_rule_33 ic_m1 ?_
      exact B_ireturn dX12_rule_34 rfl rfl
    · refine B_aload_n dX12_rule_24 rfl rfl ?_
      refine B_getR dX12_rule_25 fl_X12_37 shM_0 rfl (rfM_0_18 _) ?_
      refine B_iload_n dX12_rule_28 rfl rfl ?_
      refine C_chk (fun q2 => ?_)
      refine L_iald dX12_rule_29 shM_5 q2 rfl ?_
      refine B_goto (tgt := 34) dX12_rule_30 (by decide) ?_
      exact B_ireturn dX12_rule_34 rfl rfl
def f_X12_spot_J26 (y1 : Int32) (y2 : Int32) (z1 : Bool) (h : dH) : Option (Int32 × dH) :=
  (some (dPut h 0 0 (bi z1))).bind fun h3 =>
  if 0 < (h3.1 0 0) then
  some (0, h3)
  else
  if y2 = 4 then
  if dIn ((3 * y1) + 1) 209 then
  some ((h3.1 11 (dI ((3 * y1) + 1))), h3)
  else none
  else
  if y2 = 5 then
  if dIn ((3 * y1) + 0) 209 then
  some ((h3.1 11 (dI ((3 * y1) + 0))), h3)
  else none
  else
  if y2 = 6 then
  if dIn ((3 * y1) + 2) 209 then
  some ((h3.1 11 (dI ((3 * y1) + 2))), h3)
  else none
  else
  (f_X12_of y1 y2 h3).bind fun v8 =>
  some (v8, h3)
set_option maxRecDepth 20000 in
set_option maxHeartbeats 4000000 in
theorem b_X12_spot_J26 (y1 : Int32) (y2 : Int32) (z1 : Bool) (h : dH) : B XM 1 RX12 cX12_spot 3 (some .int) fiI 26 [.ref 0, .int y1, .int y2] [.int (bi z1), .ref 0] h (f_X12_spot_J26 y1 y2 z1 h) := by
  unfold f_X12_spot_J26
  refine B_putI dX12_spot_26 fl_X12_103 fw_X12_0 shM_0 rfl ?_
  refine B_lh (fun h3 => ?_)
  refine B_aload_n dX12_spot_29 rfl rfl ?_
  refine B_getI dX12_spot_30 fl_X12_103 shM_0 rfl ?_
  refine C_if_le (tgt := 38) dX12_spot_33 (by decide) (fun q9 => ?_) (fun q9 => ?_)
  · refine B_iload_n dX12_spot_38 rfl rfl ?_
    refine C_ite (fun n4_4 => ?_) (fun n4_4 => ?_)
    · refine B_tswIn (off := 25) (tgt := 64) dX12_spot_39 (by rw [n4_4]; decide) (by rw [n4_4]; decide) (by rw [n4_4]; decide) (by decide) ?_
      refine B_aload_n dX12_spot_64 rfl rfl ?_
      refine B_getR dX12_spot_65 fl_X12_55 shM_0 rfl (rfM_0_28 _) ?_
      refine B_iconst dX12_spot_68 ic_3 ?_
      refine B_iload_n dX12_spot_69 rfl rfl ?_
      refine B_imul dX12_spot_70 ?_
      refine B_iconst dX12_spot_71 ic_1 ?_
      refine B_iadd dX12_spot_72 ?_
      refine C_chk (fun q5 => ?_)
      refine L_iald dX12_spot_73 shM_11 q5 rfl ?_
      exact B_ireturn dX12_spot_74 rfl rfl
    · refine C_ite (fun n4_5 => ?_) (fun n4_5 => ?_)
      · refine B_tswIn (off := 36) (tgt := 75) dX12_spot_39 (by rw [n4_5]; decide) (by rw [n4_5]; decide) (by rw [n4_5]; decide) (by decide) ?_
        refine B_aload_n dX12_spot_75 rfl rfl ?_
        refine B_getR dX12_spot_76 fl_X12_55 shM_0 rfl (rfM_0_28 _) ?_
        refine B_iconst dX12_spot_79 ic_3 ?_
        refine B_iload_n dX12_spot_80 rfl rfl ?_
        refine B_imul dX12_spot_81 ?_
        refine B_iconst dX12_spot_82 ic_0 ?_
        refine B_iadd dX12_spot_83 ?_
        refine C_chk (fun q6 => ?_)
        refine L_iald dX12_spot_84 shM_11 q6 rfl ?_
        exact B_ireturn dX12_spot_85 rfl rfl
      · refine C_ite (fun n4_6 => ?_) (fun n4_6 => ?_)
        · refine B_tswIn (off := 47) (tgt := 86) dX12_spot_39 (by rw [n4_6]; decide) (by rw [n4_6]; decide) (by rw [n4_6]; decide) (by decide) ?_
          refine B_aload_n dX12_spot_86 rfl rfl ?_
          refine B_getR dX12_spot_87 fl_X12_55 shM_0 rfl (rfM_0_28 _) ?_
          refine B_iconst dX12_spot_90 ic_3 ?_
          refine B_iload_n dX12_spot_91 rfl rfl ?_
          refine B_imul dX12_spot_92 ?_
          refine B_iconst dX12_spot_93 ic_2 ?_
          refine B_iadd dX12_spot_94 ?_
          refine C_chk (fun q7 => ?_)
          refine L_iald dX12_spot_95 shM_11 q7 rfl ?_
          exact B_ireturn dX12_spot_96 rfl rfl
        · refine B_tswOut (tgt := 97) dX12_spot_39 (dsw (fun c h1 h2 => ?_)) (by decide) ?_
          · rcases (show c = 4 ∨ c = 5 ∨ c = 6 by omega) with rfl | rfl | rfl
            · exact n4_4
            · exact n4_5
            · exact n4_6
          · refine B_aload_n dX12_spot_97 rfl rfl ?_
            refine B_iload_n dX12_spot_98 rfl rfl ?_
            refine B_iload_n dX12_spot_99 rfl rfl ?_
            refine B_Vp (st := []) dX12_spot_100 cl_X12_305 (t_X12_of y1 y2 h3) (Nat.le_of_ble_eq_true rfl) shM_0 rfl rfl (Nat.le_of_ble_eq_true rfl) (fun v8 _ => ?_)
            exact B_ireturn dX12_spot_103 rfl rfl
  · refine B_iconst dX12_spot_36 ic_0 ?_
    exact B_ireturn dX12_spot_37 rfl rfl
def f_X12_spot_J25 (y1 : Int32) (y2 : Int32) (h : dH) : Option (Int32 × dH) :=
  f_X12_spot_J26 y1 y2 true h
set_option maxRecDepth 20000 in
set_option maxHeartbeats 4000000 in
theorem b_X12_spot_J25 (y1 : Int32) (y2 : Int32) (h : dH) : B XM 1 RX12 cX12_spot 3 (some .int) fiI 25 [.ref 0, .int y1, .int y2] [.ref 0] h (f_X12_spot_J25 y1 y2 h) := by
  unfold f_X12_spot_J25
  refine B_iconst dX12_spot_25 ic_1 ?_
  exact b_X12_spot_J26 y1 y2 true h
def f_X12_spot (x1 : Int32) (x2 : Int32) (h : dH) : Option (Int32 × dH) :=
  if (f_X12_isPlace x1 h) then
  if (f_X12_isIn ((x2 : Int32).toInt64) 0 6 h) then
  f_X12_spot_J26 x1 x2 false h
  else
  f_X12_spot_J25 x1 x2 h
  else
  f_X12_spot_J25 x1 x2 h
set_option maxRecDepth 20000 in
set_option maxHeartbeats 4000000 in
theorem t_X12_spot (x1 : Int32) (x2 : Int32) (h : dH) : T XM 1 yX12_spot cX12_spot 3 (some .int) fiI [.ref 0, .int x1, .int x2] h (f_X12_spot x1 x2 h) := by
  refine T_of [.ref 0, .int x1, .int x2] (by decide) (fun _ => rfl) (fun _ => Nat.le_of_ble_eq_true rfl) ?_
  show B XM 1 RX12 cX12_spot 3 (some .int) fiI 0 [.ref 0, .int x1, .int x2] [] h (f_X12_spot x1 x2 h)
  unfold f_X12_spot
  refine B_aload_n dX12_spot_0 rfl rfl ?_
  refine B_aload_n dX12_spot_1 rfl rfl ?_
  refine B_iload_n dX12_spot_2 rfl rfl ?_
  refine B_VTb (st := [.ref 0]) dX12_spot_3 cl_X12_339 (t_X12_isPlace x1 h) (Nat.le_of_ble_eq_true rfl) shM_0 rfl rfl (Nat.le_of_ble_eq_true rfl) ?_
  refine C_ifb_eq (tgt := 25) dX12_spot_6 (by decide) (fun q2 => ?_) (fun q2 => ?_)
  · exact b_X12_spot_J25 x1 x2 h
  · refine B_iload_n dX12_spot_9 rfl rfl ?_
    refine B_i2l dX12_spot_10 ?_
    refine B_lconst (v := 0) dX12_spot_11 (by decide) ?_
    refine B_ldc2 dX12_spot_12 kc_X12_349 ?_
    refine B_STb (st := [.ref 0]) dX12_spot_15 cl_X12_224 (t_X12_isIn ((x2 : Int32).toInt64) 0 6 h) (Nat.le_of_ble_eq_true rfl) rfl rfl (Nat.le_of_ble_eq_true rfl) ?_
    refine C_ifb_eq (tgt := 25) dX12_spot_18 (by decide) (fun q1 => ?_) (fun q1 => ?_)
    · exact b_X12_spot_J25 x1 x2 h
    · refine B_iconst dX12_spot_21 ic_0 ?_
      refine B_goto (tgt := 26) dX12_spot_22 (by decide) ?_
      exact b_X12_spot_J26 x1 x2 false h
def f_X12_law_J28 (y1 : Int32) (h : dH) : Option (Bool × dH) :=
  some (true, (dPut h 0 30 y1))
set_option maxRecDepth 20000 in
set_option maxHeartbeats 4000000 in
theorem b_X12_law_J28 (y1 : Int32) (h : dH) : B XM 1 RX12 cX12_law 2 (some .boolean) fiC 28 [.ref 0, .int y1] [] h (f_X12_law_J28 y1 h) := by
  unfold f_X12_law_J28
  refine B_aload_n dX12_law_28 rfl rfl ?_
  refine B_iload_n dX12_law_29 rfl rfl ?_
  refine B_putI dX12_law_30 fl_X12_61 fw_X12_30 shM_0 rfl ?_
  refine B_iconst dX12_law_33 ic_1 ?_
  exact B_zreturn dX12_law_34 rfl rfl rfl
def f_X12_law (x1 : Int32) (h : dH) : Option (Bool × dH) :=
  (some (dPut h 0 0 0)).bind fun h1 =>
  if x1 = (-1) then
  f_X12_law_J28 x1 h1
  else
  if (f_X12_isIn ((x1 : Int32).toInt64) 0 ((((h1.1 0 7) - 1) : Int32).toInt64) h1) then
  f_X12_law_J28 x1 h1
  else
  some (false, h1)
set_option maxRecDepth 20000 in
set_option maxHeartbeats 4000000 in
theorem t_X12_law (x1 : Int32) (h : dH) : T XM 1 yX12_law cX12_law 2 (some .boolean) fiC [.ref 0, .int x1] h (f_X12_law x1 h) := by
  refine T_of [.ref 0, .int x1] (by decide) (fun _ => rfl) (fun _ => Nat.le_of_ble_eq_true rfl) ?_
  show B XM 1 RX12 cX12_law 2 (some .boolean) fiC 0 [.ref 0, .int x1] [] h (f_X12_law x1 h)
  unfold f_X12_law
  refine B_aload_n dX12_law_0 rfl rfl ?_
  refine B_iconst dX12_law_1 ic_0 ?_
  refine B_putI dX12_law_2 fl_X12_103 fw_X12_0 shM_0 rfl ?_
  refine B_lh (fun h1 => ?_)
  refine B_iload_n dX12_law_5 rfl rfl ?_
  refine B_iconst dX12_law_6 ic_m1 ?_
  refine C_icmp_eq (tgt := 28) dX12_law_7 (by decide) (fun q3 => ?_) (fun q3 => ?_)
  · exact b_X12_law_J28 x1 h1
  · refine B_iload_n dX12_law_10 rfl rfl ?_
    refine B_i2l dX12_law_11 ?_
    refine B_lconst (v := 0) dX12_law_12 (by decide) ?_
    refine B_aload_n dX12_law_13 rfl rfl ?_
    refine B_getI dX12_law_14 fl_X12_285 shM_0 rfl ?_
    refine B_iconst dX12_law_17 ic_1 ?_
    refine B_isub dX12_law_18 ?_
    refine B_i2l dX12_law_19 ?_
    refine B_STb (st := []) dX12_law_20 cl_X12_224 (t_X12_isIn ((x1 : Int32).toInt64) 0 ((((h1.1 0 7) - 1) : Int32).toInt64) h1) (Nat.le_of_ble_eq_true rfl) rfl rfl (Nat.le_of_ble_eq_true rfl) ?_
    refine C_ifb_ne (tgt := 28) dX12_law_23 (by decide) (fun q2 => ?_) (fun q2 => ?_)
    · exact b_X12_law_J28 x1 h1
    · refine B_iconst dX12_law_26 ic_0 ?_
      exact B_zreturn dX12_law_27 rfl rfl rfl
def f_X12_gout (x1 : Int32) (h : dH) : Option (Bool × dH) :=
  (some (dPut h 0 0 0)).bind fun h1 =>
  if (f_X12_isIn ((x1 : Int32).toInt64) 0 9 h1) then
  if x1 = (h1.1 0 31) then
  some (false, h1)
  else
  some (true, (dPut h1 0 31 x1))
  else
  some (false, h1)
set_option maxRecDepth 20000 in
set_option maxHeartbeats 4000000 in
theorem t_X12_gout (x1 : Int32) (h : dH) : T XM 1 yX12_gout cX12_gout 2 (some .boolean) fiC [.ref 0, .int x1] h (f_X12_gout x1 h) := by
  refine T_of [.ref 0, .int x1] (by decide) (fun _ => rfl) (fun _ => Nat.le_of_ble_eq_true rfl) ?_
  show B XM 1 RX12 cX12_gout 2 (some .boolean) fiC 0 [.ref 0, .int x1] [] h (f_X12_gout x1 h)
  unfold f_X12_gout
  refine B_aload_n dX12_gout_0 rfl rfl ?_
  refine B_iconst dX12_gout_1 ic_0 ?_
  refine B_putI dX12_gout_2 fl_X12_103 fw_X12_0 shM_0 rfl ?_
  refine B_lh (fun h1 => ?_)
  refine B_iload_n dX12_gout_5 rfl rfl ?_
  refine B_i2l dX12_gout_6 ?_
  refine B_lconst (v := 0) dX12_gout_7 (by decide) ?_
  refine B_ldc2 dX12_gout_8 kc_X12_351 ?_
  refine B_STb (st := []) dX12_gout_11 cl_X12_224 (t_X12_isIn ((x1 : Int32).toInt64) 0 9 h1) (Nat.le_of_ble_eq_true rfl) rfl rfl (Nat.le_of_ble_eq_true rfl) ?_
  refine C_ifb_eq (tgt := 25) dX12_gout_14 (by decide) (fun q3 => ?_) (fun q3 => ?_)
  · refine B_iconst dX12_gout_25 ic_0 ?_
    exact B_zreturn dX12_gout_26 rfl rfl rfl
  · refine B_iload_n dX12_gout_17 rfl rfl ?_
    refine B_aload_n dX12_gout_18 rfl rfl ?_
    refine B_getI dX12_gout_19 fl_X12_65 shM_0 rfl ?_
    refine C_icmp_ne (tgt := 27) dX12_gout_22 (by decide) (fun q2 => ?_) (fun q2 => ?_)
    · refine B_aload_n dX12_gout_27 rfl rfl ?_
      refine B_iload_n dX12_gout_28 rfl rfl ?_
      refine B_putI dX12_gout_29 fl_X12_65 fw_X12_31 shM_0 rfl ?_
      refine B_iconst dX12_gout_32 ic_1 ?_
      exact B_zreturn dX12_gout_33 rfl rfl rfl
    · refine B_iconst dX12_gout_25 ic_0 ?_
      exact B_zreturn dX12_gout_26 rfl rfl rfl
def f_X12_steps_J28 (y1 : Int32) (y2 : Int32) (h : dH) : Option (Int32 × dH) :=
  if y1 = (-1) then
  (f_X12_far 11 y2 h).bind fun v6 =>
  some (v6, h)
  else
  (f_X12_between y1 y2 h).bind fun v5 =>
  some (v5, h)
set_option maxRecDepth 20000 in
set_option maxHeartbeats 4000000 in
theorem b_X12_steps_J28 (y1 : Int32) (y2 : Int32) (h : dH) : B XM 3 RX12 cX12_steps 3 (some .int) fiI 28 [.ref 0, .int y1, .int y2] [] h (f_X12_steps_J28 y1 y2 h) := by
  unfold f_X12_steps_J28
  refine B_iload_n dX12_steps_28 rfl rfl ?_
  refine B_iconst dX12_steps_29 ic_m1 ?_
  refine C_icmp_ne (tgt := 45) dX12_steps_30 (by decide) (fun q7 => ?_) (fun q7 => ?_)
  · refine B_aload_n dX12_steps_45 rfl rfl ?_
    refine B_iload_n dX12_steps_46 rfl rfl ?_
    refine B_iload_n dX12_steps_47 rfl rfl ?_
    refine B_Vp (st := []) dX12_steps_48 cl_X12_315 (t_X12_between y1 y2 h) (Nat.le_of_ble_eq_true rfl) shM_0 rfl rfl (Nat.le_of_ble_eq_true rfl) (fun v5 _ => ?_)
    exact B_ireturn dX12_steps_51 rfl rfl
  · refine B_aload_n dX12_steps_33 rfl rfl ?_
    refine B_aload_n dX12_steps_34 rfl rfl ?_
    refine B_getR dX12_steps_35 fl_X12_55 shM_0 rfl (rfM_0_28 _) ?_
    refine B_iload_n dX12_steps_38 rfl rfl ?_
    refine B_Vp (st := []) dX12_steps_39 cl_X12_328 (t_X12_far 11 shM_11 y2 h) (Nat.le_of_ble_eq_true rfl) shM_0 rfl rfl (Nat.le_of_ble_eq_true rfl) (fun v6 _ => ?_)
    refine B_goto (tgt := 51) dX12_steps_42 (by decide) ?_
    exact B_ireturn dX12_steps_51 rfl rfl
def f_X12_steps (x1 : Int32) (x2 : Int32) (h : dH) : Option (Int32 × dH) :=
  (some (dPut h 0 0 0)).bind fun h1 =>
  if (f_X12_isPlace x2 h1) then
  if x1 = (-1) then
  f_X12_steps_J28 x1 x2 h1
  else
  if (f_X12_isPlace x1 h1) then
  f_X12_steps_J28 x1 x2 h1
  else
  some ((-1), h1)
  else
  some ((-1), h1)
set_option maxRecDepth 20000 in
set_option maxHeartbeats 4000000 in
theorem t_X12_steps (x1 : Int32) (x2 : Int32) (h : dH) : T XM 3 yX12_steps cX12_steps 3 (some .int) fiI [.ref 0, .int x1, .int x2] h (f_X12_steps x1 x2 h) := by
  refine T_of [.ref 0, .int x1, .int x2] (by decide) (fun _ => rfl) (fun _ => Nat.le_of_ble_eq_true rfl) ?_
  show B XM 3 RX12 cX12_steps 3 (some .int) fiI 0 [.ref 0, .int x1, .int x2] [] h (f_X12_steps x1 x2 h)
  unfold f_X12_steps
  refine B_aload_n dX12_steps_0 rfl rfl ?_
  refine B_iconst dX12_steps_1 ic_0 ?_
  refine B_putI dX12_steps_2 fl_X12_103 fw_X12_0 shM_0 rfl ?_
  refine B_lh (fun h1 => ?_)
  refine B_aload_n dX12_steps_5 rfl rfl ?_
  refine B_iload_n dX12_steps_6 rfl rfl ?_
  refine B_VTb (st := []) dX12_steps_7 cl_X12_339 (t_X12_isPlace x2 h1) (Nat.le_of_ble_eq_true rfl) shM_0 rfl rfl (Nat.le_of_ble_eq_true rfl) ?_
  refine C_ifb_eq (tgt := 26) dX12_steps_10 (by decide) (fun q4 => ?_) (fun q4 => ?_)
  · refine B_iconst dX12_steps_26 ic_m1 ?_
    exact B_ireturn dX12_steps_27 rfl rfl
  · refine B_iload_n dX12_steps_13 rfl rfl ?_
    refine B_iconst dX12_steps_14 ic_m1 ?_
    refine C_icmp_eq (tgt := 28) dX12_steps_15 (by decide) (fun q3 => ?_) (fun q3 => ?_)
    · exact b_X12_steps_J28 x1 x2 h1
    · refine B_aload_n dX12_steps_18 rfl rfl ?_
      refine B_iload_n dX12_steps_19 rfl rfl ?_
      refine B_VTb (st := []) dX12_steps_20 cl_X12_339 (t_X12_isPlace x1 h1) (Nat.le_of_ble_eq_true rfl) shM_0 rfl rfl (Nat.le_of_ble_eq_true rfl) ?_
      refine C_ifb_ne (tgt := 28) dX12_steps_23 (by decide) (fun q2 => ?_) (fun q2 => ?_)
      · exact b_X12_steps_J28 x1 x2 h1
      · refine B_iconst dX12_steps_26 ic_m1 ?_
        exact B_ireturn dX12_steps_27 rfl rfl
def f_X12_remember_L52 : Nat → Int32 → dH → Option (dH)
  | 0, _, _ => none
  | n + 1, y1, h =>
    if y1 < 209 then
    if dIn y1 209 then
    if dIn ((209 * (h.1 0 35)) + y1) 8360 then
    (some (dPut h 15 (dI ((209 * (h.1 0 35)) + y1)) (h.1 11 (dI y1)))).bind fun h9 =>
    (f_X12_remember_L52 n) (y1 + 1) h9
    else none
    else none
    else
    some (dPut h 0 35 ((h.1 0 35) + 1))
set_option maxRecDepth 20000 in
set_option maxHeartbeats 4000000 in
theorem b_X12_remember_L52 : ∀ (n : Nat) (y1 : Int32) (h : dH), B XM 0 RX12 cX12_remember 2 none fiV 52 [.ref 0, .int y1] [] h (f_X12_remember_L52 n y1 h) := by
  intro n
  induction n with
  | zero =>
    intro y1 h
    exact B_none
  | succ n ih =>
    intro y1 h
    rw [f_X12_remember_L52]
    refine B_iload_n dX12_remember_52 rfl rfl ?_
    refine B_sipush dX12_remember_53 sp_209 ?_
    refine C_icmp_ge (tgt := 86) dX12_remember_56 (by decide) (fun q10 => ?_) (fun q10 => ?_)
    · refine B_aload_n dX12_remember_86 rfl rfl ?_
      refine B_dup dX12_remember_87 rfl ?_
      refine B_getI dX12_remember_88 fl_X12_299 shM_0 rfl ?_
      refine B_iconst dX12_remember_91 ic_1 ?_
      refine B_iadd dX12_remember_92 ?_
      refine B_putI dX12_remember_93 fl_X12_299 fw_X12_35 shM_0 rfl ?_
      exact B_return dX12_remember_96 rfl rfl
    · refine B_aload_n dX12_remember_59 rfl rfl ?_
      refine B_getR dX12_remember_60 fl_X12_75 shM_0 rfl (rfM_0_34 _) ?_
      refine B_sipush dX12_remember_63 sp_209 ?_
      refine B_aload_n dX12_remember_66 rfl rfl ?_
      refine B_getI dX12_remember_67 fl_X12_299 shM_0 rfl ?_
      refine B_imul dX12_remember_70 ?_
      refine B_iload_n dX12_remember_71 rfl rfl ?_
      refine B_iadd dX12_remember_72 ?_
      refine B_aload_n dX12_remember_73 rfl rfl ?_
      refine B_getR dX12_remember_74 fl_X12_55 shM_0 rfl (rfM_0_28 _) ?_
      refine B_iload_n dX12_remember_77 rfl rfl ?_
      refine C_chk (fun q7 => ?_)
      refine L_iald dX12_remember_78 shM_11 q7 rfl ?_
      refine C_chk (fun q8 => ?_)
      refine L_iast dX12_remember_79 shM_15 q8 rfl ?_
      refine B_lh (fun h9 => ?_)
      refine B_iinc (w := (y1 + 1)) (ls' := [.ref 0, .int (y1 + 1)]) dX12_remember_80 rfl (congrArg (fun z => y1 + z) ic_1) (Nat.le_of_ble_eq_true rfl) rfl rfl ?_
      refine B_goto (tgt := 52) dX12_remember_83 (by decide) ?_
      exact ih (y1 + 1)  h9
def f_X12_remember_J50 (h : dH) : Option (dH) :=
  f_X12_remember_L52 dFu 0 h
set_option maxRecDepth 20000 in
set_option maxHeartbeats 4000000 in
theorem b_X12_remember_J50 (h : dH) : B XM 0 RX12 cX12_remember 2 none fiV 50 [.ref 0, .null] [] h (f_X12_remember_J50 h) := by
  unfold f_X12_remember_J50
  refine B_iconst dX12_remember_50 ic_0 ?_
  refine B_istore_n (ls' := [.ref 0, .int 0]) dX12_remember_51 rfl (Nat.le_of_ble_eq_true rfl) rfl rfl ?_
  exact b_X12_remember_L52 dFu 0 h
def f_X12_remember_L11 : Nat → Int32 → dH → Option (dH)
  | 0, _, _ => none
  | n + 1, y1, h =>
    if y1 < 8151 then
    if dIn (y1 + 209) 8360 then
    if dIn y1 8360 then
    (some (dPut h 15 (dI y1) (h.1 15 (dI (y1 + 209))))).bind fun h5 =>
    (f_X12_remember_L11 n) (y1 + 1) h5
    else none
    else none
    else
    (some (dPut h 0 35 ((h.1 0 35) - 1))).bind fun h2 =>
    f_X12_remember_J50 h2
set_option maxRecDepth 20000 in
set_option maxHeartbeats 4000000 in
theorem b_X12_remember_L11 : ∀ (n : Nat) (y1 : Int32) (h : dH), B XM 0 RX12 cX12_remember 2 none fiV 11 [.ref 0, .int y1] [] h (f_X12_remember_L11 n y1 h) := by
  intro n
  induction n with
  | zero =>
    intro y1 h
    exact B_none
  | succ n ih =>
    intro y1 h
    rw [f_X12_remember_L11]
    refine B_iload_n dX12_remember_11 rfl rfl ?_
    refine B_sipush dX12_remember_12 sp_8151 ?_
    refine C_icmp_ge (tgt := 40) dX12_remember_15 (by decide) (fun q6 => ?_) (fun q6 => ?_)
    · refine B_aload_n dX12_remember_40 rfl rfl ?_
      refine B_dup dX12_remember_41 rfl ?_
      refine B_getI dX12_remember_42 fl_X12_299 shM_0 rfl ?_
      refine B_iconst dX12_remember_45 ic_1 ?_
      refine B_isub dX12_remember_46 ?_
      refine B_putI dX12_remember_47 fl_X12_299 fw_X12_35 shM_0 rfl ?_
      refine B_lh (fun h2 => ?_)
      refine B_drop 1 (ls' := [.ref 0, .null]) rfl ?_
      exact b_X12_remember_J50 h2
    · refine B_aload_n dX12_remember_18 rfl rfl ?_
      refine B_getR dX12_remember_19 fl_X12_75 shM_0 rfl (rfM_0_34 _) ?_
      refine B_iload_n dX12_remember_22 rfl rfl ?_
      refine B_aload_n dX12_remember_23 rfl rfl ?_
      refine B_getR dX12_remember_24 fl_X12_75 shM_0 rfl (rfM_0_34 _) ?_
      refine B_iload_n dX12_remember_27 rfl rfl ?_
      refine B_sipush dX12_remember_28 sp_209 ?_
      refine B_iadd dX12_remember_31 ?_
      refine C_chk (fun q3 => ?_)
      refine L_iald dX12_remember_32 shM_15 q3 rfl ?_
      refine C_chk (fun q4 => ?_)
      refine L_iast dX12_remember_33 shM_15 q4 rfl ?_
      refine B_lh (fun h5 => ?_)
      refine B_iinc (w := (y1 + 1)) (ls' := [.ref 0, .int (y1 + 1)]) dX12_remember_34 rfl (congrArg (fun z => y1 + z) ic_1) (Nat.le_of_ble_eq_true rfl) rfl rfl ?_
      refine B_goto (tgt := 11) dX12_remember_37 (by decide) ?_
      exact ih (y1 + 1)  h5
def f_X12_remember (h : dH) : Option (dH) :=
  if (h.1 0 35) = 40 then
  f_X12_remember_L11 dFu 0 h
  else
  f_X12_remember_J50 h
set_option maxRecDepth 20000 in
set_option maxHeartbeats 4000000 in
theorem t_X12_remember (h : dH) : T XM 0 yX12_remember cX12_remember 2 none fiV [.ref 0] h (f_X12_remember h) := by
  refine T_of [.ref 0, .null] (by decide) (fun _ => rfl) (fun _ => Nat.le_of_ble_eq_true rfl) ?_
  show B XM 0 RX12 cX12_remember 2 none fiV 0 [.ref 0, .null] [] h (f_X12_remember h)
  unfold f_X12_remember
  refine B_aload_n dX12_remember_0 rfl rfl ?_
  refine B_getI dX12_remember_1 fl_X12_299 shM_0 rfl ?_
  refine B_bipush dX12_remember_4 bp_40 ?_
  refine C_icmp_ne (tgt := 50) dX12_remember_6 (by decide) (fun q1 => ?_) (fun q1 => ?_)
  · exact b_X12_remember_J50 h
  · refine B_iconst dX12_remember_9 ic_0 ?_
    refine B_istore_n (ls' := [.ref 0, .int 0]) dX12_remember_10 rfl (Nat.le_of_ble_eq_true rfl) rfl rfl ?_
    exact b_X12_remember_L11 dFu 0 h
def f_X12_walk (x1 : Int32) (h : dH) : Option (Int32 × dH) :=
  (some (dPut h 0 0 0)).bind fun h1 =>
  (f_X12_canWalk 11 x1 h1).bind fun v2 =>
  if v2 then
  (f_X12_remember h1).bind fun h4 =>
  (f_X12_walks 11 x1 (h4.1 5 2) h4).bind fun rv5 =>
  some (rv5.1, rv5.2)
  else
  some ((-1), h1)
set_option maxRecDepth 20000 in
set_option maxHeartbeats 4000000 in
theorem t_X12_walk (x1 : Int32) (h : dH) : T XM 86 yX12_walk cX12_walk 2 (some .int) fiI [.ref 0, .int x1] h (f_X12_walk x1 h) := by
  refine T_of [.ref 0, .int x1] (by decide) (fun _ => rfl) (fun _ => Nat.le_of_ble_eq_true rfl) ?_
  show B XM 86 RX12 cX12_walk 2 (some .int) fiI 0 [.ref 0, .int x1] [] h (f_X12_walk x1 h)
  unfold f_X12_walk
  refine B_aload_n dX12_walk_0 rfl rfl ?_
  refine B_iconst dX12_walk_1 ic_0 ?_
  refine B_putI dX12_walk_2 fl_X12_103 fw_X12_0 shM_0 rfl ?_
  refine B_lh (fun h1 => ?_)
  refine B_aload_n dX12_walk_5 rfl rfl ?_
  refine B_aload_n dX12_walk_6 rfl rfl ?_
  refine B_getR dX12_walk_7 fl_X12_55 shM_0 rfl (rfM_0_28 _) ?_
  refine B_iload_n dX12_walk_10 rfl rfl ?_
  refine B_Vpb (st := []) dX12_walk_11 cl_X12_353 (t_X12_canWalk 11 shM_11 x1 h1) (Nat.le_of_ble_eq_true rfl) shM_0 rfl rfl (Nat.le_of_ble_eq_true rfl) (fun v2 _ => ?_)
  refine C_ifb_ne (tgt := 19) dX12_walk_14 (by decide) (fun q7 => ?_) (fun q7 => ?_)
  · refine B_aload_n dX12_walk_19 rfl rfl ?_
    refine B_VV (st := []) dX12_walk_20 cl_X12_357 (t_X12_remember h1) (Nat.le_of_ble_eq_true rfl) shM_0 rfl rfl (Nat.le_of_ble_eq_true rfl) (fun h4 _ => ?_)
    refine B_aload_n dX12_walk_23 rfl rfl ?_
    refine B_aload_n dX12_walk_24 rfl rfl ?_
    refine B_getR dX12_walk_25 fl_X12_55 shM_0 rfl (rfM_0_28 _) ?_
    refine B_iload_n dX12_walk_28 rfl rfl ?_
    refine B_aload_n dX12_walk_29 rfl rfl ?_
    refine B_getR dX12_walk_30 fl_X12_37 shM_0 rfl (rfM_0_18 _) ?_
    refine B_iconst dX12_walk_33 ic_2 ?_
    refine L_iald dX12_walk_34 shM_5 (by decide) di_2 ?_
    refine B_VI (st := []) dX12_walk_35 cl_X12_360 (t_X12_walks 11 shM_11 x1 (h4.1 5 2) h4) (Nat.le_of_ble_eq_true rfl) shM_0 rfl rfl (Nat.le_of_ble_eq_true rfl) (fun v5 h6 _ => ?_)
    exact B_ireturn dX12_walk_38 rfl rfl
  · refine B_iconst dX12_walk_17 ic_m1 ?_
    exact B_ireturn dX12_walk_18 rfl rfl
def f_X12_ledge (h : dH) : Option (Int32 × dH) :=
  (some (dPut h 0 0 0)).bind fun h1 =>
  if (h1.1 0 24) = 0 then
  some ((-1), h1)
  else
  if (f_X12_canRest 11 h1) then
  (f_X12_remember h1).bind fun h3 =>
  (f_X12_sitsDown 11 h3).bind fun h5 =>
  some ((h5.1 11 22), h5)
  else
  some ((-1), h1)
set_option maxRecDepth 20000 in
set_option maxHeartbeats 4000000 in
theorem t_X12_ledge (h : dH) : T XM 2 yX12_ledge cX12_ledge 1 (some .int) fiI [.ref 0] h (f_X12_ledge h) := by
  refine T_of [.ref 0] (by decide) (fun _ => rfl) (fun _ => Nat.le_of_ble_eq_true rfl) ?_
  show B XM 2 RX12 cX12_ledge 1 (some .int) fiI 0 [.ref 0] [] h (f_X12_ledge h)
  unfold f_X12_ledge
  refine B_aload_n dX12_ledge_0 rfl rfl ?_
  refine B_iconst dX12_ledge_1 ic_0 ?_
  refine B_putI dX12_ledge_2 fl_X12_103 fw_X12_0 shM_0 rfl ?_
  refine B_lh (fun h1 => ?_)
  refine B_aload_n dX12_ledge_5 rfl rfl ?_
  refine B_getI dX12_ledge_6 fl_X12_293 shM_0 rfl ?_
  refine C_if_eq (tgt := 23) dX12_ledge_9 (by decide) (fun q7 => ?_) (fun q7 => ?_)
  · refine B_iconst dX12_ledge_23 ic_m1 ?_
    exact B_ireturn dX12_ledge_24 rfl rfl
  · refine B_aload_n dX12_ledge_12 rfl rfl ?_
    refine B_aload_n dX12_ledge_13 rfl rfl ?_
    refine B_getR dX12_ledge_14 fl_X12_55 shM_0 rfl (rfM_0_28 _) ?_
    refine B_VTb (st := []) dX12_ledge_17 cl_X12_364 (t_X12_canRest 11 shM_11 h1) (Nat.le_of_ble_eq_true rfl) shM_0 rfl rfl (Nat.le_of_ble_eq_true rfl) ?_
    refine C_ifb_ne (tgt := 25) dX12_ledge_20 (by decide) (fun q6 => ?_) (fun q6 => ?_)
    · refine B_aload_n dX12_ledge_25 rfl rfl ?_
      refine B_VV (st := []) dX12_ledge_26 cl_X12_357 (t_X12_remember h1) (Nat.le_of_ble_eq_true rfl) shM_0 rfl rfl (Nat.le_of_ble_eq_true rfl) (fun h3 _ => ?_)
      refine B_aload_n dX12_ledge_29 rfl rfl ?_
      refine B_getR dX12_ledge_30 fl_X12_55 shM_0 rfl (rfM_0_28 _) ?_
      refine B_SV (st := []) dX12_ledge_33 cl_X12_368 (t_X12_sitsDown 11 shM_11 h3) (Nat.le_of_ble_eq_true rfl) rfl rfl (Nat.le_of_ble_eq_true rfl) (fun h5 _ => ?_)
      refine B_aload_n dX12_ledge_36 rfl rfl ?_
      refine B_getR dX12_ledge_37 fl_X12_55 shM_0 rfl (rfM_0_28 _) ?_
      refine B_bipush dX12_ledge_40 bp_22 ?_
      refine L_iald dX12_ledge_42 shM_11 (by decide) di_22 ?_
      exact B_ireturn dX12_ledge_43 rfl rfl
    · refine B_iconst dX12_ledge_23 ic_m1 ?_
      exact B_ireturn dX12_ledge_24 rfl rfl
def f_X12_canRestore (w : Nat) (x2 : Int32) (h : dH) : Bool :=
  if (f_X12_isPlace x2 h) then
  if (f_X12_has (h.1 w 26) x2 h) then
  true
  else
  false
  else
  false
set_option maxRecDepth 20000 in
set_option maxHeartbeats 4000000 in
theorem t_X12_canRestore (w : Nat) (hw : XM.1[w]? = some (.inr (0, 209))) (x2 : Int32) (h : dH) : T XM 1 yX12_canRestore cX12_canRestore 3 (some .boolean) (fiB h) [.ref 0, .ref w, .int x2] h (some (f_X12_canRestore w x2 h)) := by
  refine T_of [.ref 0, .ref w, .int x2] (by decide) (fun _ => rfl) (fun _ => Nat.le_of_ble_eq_true rfl) ?_
  show B XM 1 RX12 cX12_canRestore 3 (some .boolean) (fiB h) 0 [.ref 0, .ref w, .int x2] [] h (some (f_X12_canRestore w x2 h))
  unfold f_X12_canRestore
  refine B_aload_n dX12_canRestore_0 rfl rfl ?_
  refine B_iload_n dX12_canRestore_1 rfl rfl ?_
  refine B_VTb (st := []) dX12_canRestore_2 cl_X12_339 (t_X12_isPlace x2 h) (Nat.le_of_ble_eq_true rfl) shM_0 rfl rfl (Nat.le_of_ble_eq_true rfl) ?_
  refine C_some ?_
  refine C_ifb_eq (tgt := 23) dX12_canRestore_5 (by decide) (fun q2 => ?_) (fun q2 => ?_)
  · refine B_iconst dX12_canRestore_23 ic_0 ?_
    exact B_zreturn dX12_canRestore_24 rfl rfl rfl
  · refine B_aload_n dX12_canRestore_8 rfl rfl ?_
    refine B_bipush dX12_canRestore_9 bp_26 ?_
    refine L_iald dX12_canRestore_11 hw (by decide) di_26 ?_
    refine B_iload_n dX12_canRestore_12 rfl rfl ?_
    refine B_STb (st := []) dX12_canRestore_13 cl_X12_236 (t_X12_has (h.1 w 26) x2 h) (Nat.le_of_ble_eq_true rfl) rfl rfl (Nat.le_of_ble_eq_true rfl) ?_
    refine C_some ?_
    refine C_ifb_eq (tgt := 23) dX12_canRestore_16 (by decide) (fun q1 => ?_) (fun q1 => ?_)
    · refine B_iconst dX12_canRestore_23 ic_0 ?_
      exact B_zreturn dX12_canRestore_24 rfl rfl rfl
    · refine B_iconst dX12_canRestore_19 ic_1 ?_
      refine B_goto (tgt := 24) dX12_canRestore_20 (by decide) ?_
      exact B_zreturn dX12_canRestore_24 rfl rfl rfl
def f_X12_restores (w : Nat) (x1 : Int32) (h : dH) : Option (dH) :=
  if dIn ((3 * x1) + 0) 209 then
  if dIn ((3 * x1) + 0) 209 then
  (some (dPut h w (dI ((3 * x1) + 0)) ((h.1 w (dI ((3 * x1) + 0))) / 2))).bind fun h3 =>
  some (dPut h3 w 26 ((h3.1 w 26) &&& ((1 <<< (x1 &&& 31)) ^^^ (-1))))
  else none
  else none
set_option maxRecDepth 20000 in
set_option maxHeartbeats 4000000 in
theorem t_X12_restores (w : Nat) (hw : XM.1[w]? = some (.inr (0, 209))) (x1 : Int32) (h : dH) : T XM 0 yX12_restores cX12_restores 2 none fiV [.ref w, .int x1] h (f_X12_restores w x1 h) := by
  refine T_of [.ref w, .int x1] (by decide) (fun _ => rfl) (fun _ => Nat.le_of_ble_eq_true rfl) ?_
  show B XM 0 RX12 cX12_restores 2 none fiV 0 [.ref w, .int x1] [] h (f_X12_restores w x1 h)
  unfold f_X12_restores
  refine B_aload_n dX12_restores_0 rfl rfl ?_
  refine B_iconst dX12_restores_1 ic_3 ?_
  refine B_iload_n dX12_restores_2 rfl rfl ?_
  refine B_imul dX12_restores_3 ?_
  refine B_iconst dX12_restores_4 ic_0 ?_
  refine B_iadd dX12_restores_5 ?_
  refine B_dup2 dX12_restores_6 rfl rfl ?_
  refine C_chk (fun q1 => ?_)
  refine L_iald dX12_restores_7 hw q1 rfl ?_
  refine B_iconst dX12_restores_8 ic_2 ?_
  refine B_idiv dX12_restores_9 (by decide) ?_
  refine C_chk (fun q2 => ?_)
  refine L_iast dX12_restores_10 hw q2 rfl ?_
  refine B_lh (fun h3 => ?_)
  refine B_aload_n dX12_restores_11 rfl rfl ?_
  refine B_bipush dX12_restores_12 bp_26 ?_
  refine B_dup2 dX12_restores_14 rfl rfl ?_
  refine L_iald dX12_restores_15 hw (by decide) di_26 ?_
  refine B_iconst dX12_restores_16 ic_1 ?_
  refine B_iload_n dX12_restores_17 rfl rfl ?_
  refine B_ishl dX12_restores_18 ?_
  refine B_iconst dX12_restores_19 ic_m1 ?_
  refine B_ixor dX12_restores_20 ?_
  refine B_iand dX12_restores_21 ?_
  refine L_iast dX12_restores_22 hw (by decide) di_26 ?_
  exact B_return dX12_restores_23 rfl rfl
def f_X12_restore (x1 : Int32) (h : dH) : Option (Int32 × dH) :=
  (some (dPut h 0 0 0)).bind fun h1 =>
  if (f_X12_canRestore 11 x1 h1) then
  (f_X12_remember h1).bind fun h3 =>
  (f_X12_restores 11 x1 h3).bind fun h5 =>
  if dIn ((3 * x1) + 0) 209 then
  some ((h5.1 11 (dI ((3 * x1) + 0))), h5)
  else none
  else
  some ((-1), h1)
set_option maxRecDepth 20000 in
set_option maxHeartbeats 4000000 in
theorem t_X12_restore (x1 : Int32) (h : dH) : T XM 2 yX12_restore cX12_restore 2 (some .int) fiI [.ref 0, .int x1] h (f_X12_restore x1 h) := by
  refine T_of [.ref 0, .int x1] (by decide) (fun _ => rfl) (fun _ => Nat.le_of_ble_eq_true rfl) ?_
  show B XM 2 RX12 cX12_restore 2 (some .int) fiI 0 [.ref 0, .int x1] [] h (f_X12_restore x1 h)
  unfold f_X12_restore
  refine B_aload_n dX12_restore_0 rfl rfl ?_
  refine B_iconst dX12_restore_1 ic_0 ?_
  refine B_putI dX12_restore_2 fl_X12_103 fw_X12_0 shM_0 rfl ?_
  refine B_lh (fun h1 => ?_)
  refine B_aload_n dX12_restore_5 rfl rfl ?_
  refine B_aload_n dX12_restore_6 rfl rfl ?_
  refine B_getR dX12_restore_7 fl_X12_55 shM_0 rfl (rfM_0_28 _) ?_
  refine B_iload_n dX12_restore_10 rfl rfl ?_
  refine B_VTb (st := []) dX12_restore_11 cl_X12_372 (t_X12_canRestore 11 shM_11 x1 h1) (Nat.le_of_ble_eq_true rfl) shM_0 rfl rfl (Nat.le_of_ble_eq_true rfl) ?_
  refine C_ifb_ne (tgt := 19) dX12_restore_14 (by decide) (fun q7 => ?_) (fun q7 => ?_)
  · refine B_aload_n dX12_restore_19 rfl rfl ?_
    refine B_VV (st := []) dX12_restore_20 cl_X12_357 (t_X12_remember h1) (Nat.le_of_ble_eq_true rfl) shM_0 rfl rfl (Nat.le_of_ble_eq_true rfl) (fun h3 _ => ?_)
    refine B_aload_n dX12_restore_23 rfl rfl ?_
    refine B_getR dX12_restore_24 fl_X12_55 shM_0 rfl (rfM_0_28 _) ?_
    refine B_iload_n dX12_restore_27 rfl rfl ?_
    refine B_SV (st := []) dX12_restore_28 cl_X12_375 (t_X12_restores 11 shM_11 x1 h3) (Nat.le_of_ble_eq_true rfl) rfl rfl (Nat.le_of_ble_eq_true rfl) (fun h5 _ => ?_)
    refine B_aload_n dX12_restore_31 rfl rfl ?_
    refine B_getR dX12_restore_32 fl_X12_55 shM_0 rfl (rfM_0_28 _) ?_
    refine B_iconst dX12_restore_35 ic_3 ?_
    refine B_iload_n dX12_restore_36 rfl rfl ?_
    refine B_imul dX12_restore_37 ?_
    refine B_iconst dX12_restore_38 ic_0 ?_
    refine B_iadd dX12_restore_39 ?_
    refine C_chk (fun q6 => ?_)
    refine L_iald dX12_restore_40 shM_11 q6 rfl ?_
    exact B_ireturn dX12_restore_41 rfl rfl
  · refine B_iconst dX12_restore_17 ic_m1 ?_
    exact B_ireturn dX12_restore_18 rfl rfl
def f_X12_patience (x1 : Int32) (x2 : Int32) (h : dH) : Option (Int32 × dH) :=
  (some (dPut h 0 0 0)).bind fun h1 =>
  if (f_X12_isPlace x1 h1) then
  if (f_X12_isIn ((x2 : Int32).toInt64) 0 30 h1) then
  if dIn ((3 * x1) + 1) 209 then
  if (h1.1 11 (dI ((3 * x1) + 1))) = x2 then
  some ((-1), h1)
  else
  (f_X12_remember h1).bind fun h4 =>
  if dIn ((3 * x1) + 1) 209 then
  (some ((h4.1 11 (dI ((3 * x1) + 1))))).bind fun v6 =>
  if dIn ((3 * x1) + 1) 209 then
  some (v6, (dPut h4 11 (dI ((3 * x1) + 1)) x2))
  else none
  else none
  else none
  else
  some ((-1), h1)
  else
  some ((-1), h1)
set_option maxRecDepth 20000 in
set_option maxHeartbeats 4000000 in
theorem t_X12_patience (x1 : Int32) (x2 : Int32) (h : dH) : T XM 1 yX12_patience cX12_patience 4 (some .int) fiI [.ref 0, .int x1, .int x2] h (f_X12_patience x1 x2 h) := by
  refine T_of [.ref 0, .int x1, .int x2, .null] (by decide) (fun _ => rfl) (fun _ => Nat.le_of_ble_eq_true rfl) ?_
  show B XM 1 RX12 cX12_patience 4 (some .int) fiI 0 [.ref 0, .int x1, .int x2, .null] [] h (f_X12_patience x1 x2 h)
  unfold f_X12_patience
  refine B_aload_n dX12_patience_0 rfl rfl ?_
  refine B_iconst dX12_patience_1 ic_0 ?_
  refine B_putI dX12_patience_2 fl_X12_103 fw_X12_0 shM_0 rfl ?_
  refine B_lh (fun h1 => ?_)
  refine B_aload_n dX12_patience_5 rfl rfl ?_
  refine B_iload_n dX12_patience_6 rfl rfl ?_
  refine B_VTb (st := []) dX12_patience_7 cl_X12_339 (t_X12_isPlace x1 h1) (Nat.le_of_ble_eq_true rfl) shM_0 rfl rfl (Nat.le_of_ble_eq_true rfl) ?_
  refine C_ifb_eq (tgt := 39) dX12_patience_10 (by decide) (fun q10 => ?_) (fun q10 => ?_)
  · refine B_iconst dX12_patience_39 ic_m1 ?_
    exact B_ireturn dX12_patience_40 rfl rfl
  · refine B_iload_n dX12_patience_13 rfl rfl ?_
    refine B_i2l dX12_patience_14 ?_
    refine B_lconst (v := 0) dX12_patience_15 (by decide) ?_
    refine B_ldc2 dX12_patience_16 kc_X12_379 ?_
    refine B_STb (st := []) dX12_patience_19 cl_X12_224 (t_X12_isIn ((x2 : Int32).toInt64) 0 30 h1) (Nat.le_of_ble_eq_true rfl) rfl rfl (Nat.le_of_ble_eq_true rfl) ?_
    refine C_ifb_eq (tgt := 39) dX12_patience_22 (by decide) (fun q9 => ?_) (fun q9 => ?_)
    · refine B_iconst dX12_patience_39 ic_m1 ?_
      exact B_ireturn dX12_patience_40 rfl rfl
    · refine B_aload_n dX12_patience_25 rfl rfl ?_
      refine B_getR dX12_patience_26 fl_X12_55 shM_0 rfl (rfM_0_28 _) ?_
      refine B_iconst dX12_patience_29 ic_3 ?_
      refine B_iload_n dX12_patience_30 rfl rfl ?_
      refine B_imul dX12_patience_31 ?_
      refine B_iconst dX12_patience_32 ic_1 ?_
      refine B_iadd dX12_patience_33 ?_
      refine C_chk (fun q2 => ?_)
      refine L_iald dX12_patience_34 shM_11 q2 rfl ?_
      refine B_iload_n dX12_patience_35 rfl rfl ?_
      refine C_icmp_ne (tgt := 41) dX12_patience_36 (by decide) (fun q8 => ?_) (fun q8 => ?_)
      · refine B_aload_n dX12_patience_41 rfl rfl ?_
        refine B_VV (st := []) dX12_patience_42 cl_X12_357 (t_X12_remember h1) (Nat.le_of_ble_eq_true rfl) shM_0 rfl rfl (Nat.le_of_ble_eq_true rfl) (fun h4 _ => ?_)
        refine B_aload_n dX12_patience_45 rfl rfl ?_
        refine B_getR dX12_patience_46 fl_X12_55 shM_0 rfl (rfM_0_28 _) ?_
        refine B_iconst dX12_patience_49 ic_3 ?_
        refine B_iload_n dX12_patience_50 rfl rfl ?_
        refine B_imul dX12_patience_51 ?_
        refine B_iconst dX12_patience_52 ic_1 ?_
        refine B_iadd dX12_patience_53 ?_
        refine C_chk (fun q5 => ?_)
        refine L_iald dX12_patience_54 shM_11 q5 rfl ?_
        refine B_lv (fun v6 => ?_)
        refine B_istore_n (ls' := [.ref 0, .int x1, .int x2, .int v6]) dX12_patience_55 rfl (Nat.le_of_ble_eq_true rfl) rfl rfl ?_
        refine B_aload_n dX12_patience_56 rfl rfl ?_
        refine B_getR dX12_patience_57 fl_X12_55 shM_0 rfl (rfM_0_28 _) ?_
        refine B_iconst dX12_patience_60 ic_3 ?_
        refine B_iload_n dX12_patience_61 rfl rfl ?_
        refine B_imul dX12_patience_62 ?_
        refine B_iconst dX12_patience_63 ic_1 ?_
        refine B_iadd dX12_patience_64 ?_
        refine B_iload_n dX12_patience_65 rfl rfl ?_
        refine C_chk (fun q7 => ?_)
        refine L_iast dX12_patience_66 shM_11 q7 rfl ?_
        refine B_iload_n dX12_patience_67 rfl rfl ?_
        exact B_ireturn dX12_patience_68 rfl rfl
      · refine B_iconst dX12_patience_39 ic_m1 ?_
        exact B_ireturn dX12_patience_40 rfl rfl
def f_X12_day (h : dH) : Option (Int32 × dH) :=
  (some (dPut h 0 0 0)).bind fun h1 =>
  if (h1.1 0 24) = 0 then
  some ((-1), h1)
  else
  if (h1.1 11 27) = 999 then
  some ((-1), h1)
  else
  (f_X12_remember h1).bind fun h3 =>
  (f_X12_goDay 11 h3).bind fun h5 =>
  some ((h5.1 11 27), h5)
set_option maxRecDepth 20000 in
set_option maxHeartbeats 4000000 in
theorem t_X12_day (h : dH) : T XM 2 yX12_day cX12_day 1 (some .int) fiI [.ref 0] h (f_X12_day h) := by
  refine T_of [.ref 0] (by decide) (fun _ => rfl) (fun _ => Nat.le_of_ble_eq_true rfl) ?_
  show B XM 2 RX12 cX12_day 1 (some .int) fiI 0 [.ref 0] [] h (f_X12_day h)
  unfold f_X12_day
  refine B_aload_n dX12_day_0 rfl rfl ?_
  refine B_iconst dX12_day_1 ic_0 ?_
  refine B_putI dX12_day_2 fl_X12_103 fw_X12_0 shM_0 rfl ?_
  refine B_lh (fun h1 => ?_)
  refine B_aload_n dX12_day_5 rfl rfl ?_
  refine B_getI dX12_day_6 fl_X12_293 shM_0 rfl ?_
  refine C_if_eq (tgt := 25) dX12_day_9 (by decide) (fun q7 => ?_) (fun q7 => ?_)
  · refine B_iconst dX12_day_25 ic_m1 ?_
    exact B_ireturn dX12_day_26 rfl rfl
  · refine B_aload_n dX12_day_12 rfl rfl ?_
    refine B_getR dX12_day_13 fl_X12_55 shM_0 rfl (rfM_0_28 _) ?_
    refine B_bipush dX12_day_16 bp_27 ?_
    refine L_iald dX12_day_18 shM_11 (by decide) di_27 ?_
    refine B_sipush dX12_day_19 sp_999 ?_
    refine C_icmp_ne (tgt := 27) dX12_day_22 (by decide) (fun q6 => ?_) (fun q6 => ?_)
    · refine B_aload_n dX12_day_27 rfl rfl ?_
      refine B_VV (st := []) dX12_day_28 cl_X12_357 (t_X12_remember h1) (Nat.le_of_ble_eq_true rfl) shM_0 rfl rfl (Nat.le_of_ble_eq_true rfl) (fun h3 _ => ?_)
      refine B_aload_n dX12_day_31 rfl rfl ?_
      refine B_aload_n dX12_day_32 rfl rfl ?_
      refine B_getR dX12_day_33 fl_X12_55 shM_0 rfl (rfM_0_28 _) ?_
      refine B_VV (st := []) dX12_day_36 cl_X12_381 (t_X12_goDay 11 shM_11 h3) (Nat.le_of_ble_eq_true rfl) shM_0 rfl rfl (Nat.le_of_ble_eq_true rfl) (fun h5 _ => ?_)
      refine B_aload_n dX12_day_39 rfl rfl ?_
      refine B_getR dX12_day_40 fl_X12_55 shM_0 rfl (rfM_0_28 _) ?_
      refine B_bipush dX12_day_43 bp_27 ?_
      refine L_iald dX12_day_45 shM_11 (by decide) di_27 ?_
      exact B_ireturn dX12_day_46 rfl rfl
    · refine B_iconst dX12_day_25 ic_m1 ?_
      exact B_ireturn dX12_day_26 rfl rfl
def f_X12_draw (x1 : Int32) (h : dH) : Option (Int32 × dH) :=
  (some (dPutL h 0 36 (((h.2.1 0 36) * 6364136223846793005) + 1442695040888963407))).bind fun h1 =>
  if ¬ (x1 : Int32).toInt64 = 0 then
  some ((((((h1.2.1 0 36)).toUInt64 >>> ((33 : Int32).toInt64.toUInt64 &&& Int64.toUInt64 63)).toInt64 - (((h1.2.1 0 36)).toUInt64 >>> ((33 : Int32).toInt64.toUInt64 &&& Int64.toUInt64 63)).toInt64 / (x1 : Int32).toInt64 * (x1 : Int32).toInt64) : Int64).toInt32, h1)
  else none
set_option maxRecDepth 20000 in
set_option maxHeartbeats 4000000 in
theorem t_X12_draw (x1 : Int32) (h : dH) : T XM 0 yX12_draw cX12_draw 2 (some .int) fiI [.ref 0, .int x1] h (f_X12_draw x1 h) := by
  refine T_of [.ref 0, .int x1] (by decide) (fun _ => rfl) (fun _ => Nat.le_of_ble_eq_true rfl) ?_
  show B XM 0 RX12 cX12_draw 2 (some .int) fiI 0 [.ref 0, .int x1] [] h (f_X12_draw x1 h)
  unfold f_X12_draw
  refine B_aload_n dX12_draw_0 rfl rfl ?_
  refine B_aload_n dX12_draw_1 rfl rfl ?_
  refine B_getJ dX12_draw_2 fl_X12_384 shM_0 rfl ?_
  refine B_ldc2 dX12_draw_5 kc_X12_388 ?_
  refine B_lmul dX12_draw_8 ?_
  refine B_ldc2 dX12_draw_9 kc_X12_390 ?_
  refine B_ladd dX12_draw_12 ?_
  refine B_putJ dX12_draw_13 fl_X12_384 fw_X12_36 shM_0 rfl ?_
  refine B_lh (fun h1 => ?_)
  refine B_aload_n dX12_draw_16 rfl rfl ?_
  refine B_getJ dX12_draw_17 fl_X12_384 shM_0 rfl ?_
  refine B_bipush dX12_draw_20 bp_33 ?_
  refine B_lushr dX12_draw_22 ?_
  refine B_iload_n dX12_draw_23 rfl rfl ?_
  refine B_i2l dX12_draw_24 ?_
  refine C_chk (fun q2 => ?_)
  refine B_lrem dX12_draw_25 q2 ?_
  refine B_l2i dX12_draw_26 ?_
  exact B_ireturn dX12_draw_27 rfl rfl
def f_X12_years_J149 (kL37 : Int32 → Int32 → Int32 → dH → Option (Int32 × dH)) (y1 : Int32) (y4 : Int32) (y5 : Int32) (h : dH) : Option (Int32 × dH) :=
  kL37 y1 y4 (y5 + 1) h
set_option maxRecDepth 20000 in
set_option maxHeartbeats 4000000 in
theorem b_X12_years_J149 {kL37 : Int32 → Int32 → Int32 → dH → Option (Int32 × dH)} (hkL37 : ∀ (y1 : Int32) (y4 : Int32) (y5 : Int32) (h : dH), B XM 86 RX12 cX12_years 8 (some .int) fiI 37 [.ref 0, .int y1, .null, .null, .int y4, .int y5, .null, .null] [] h (kL37 y1 y4 y5 h)) (y1 : Int32) (y4 : Int32) (y5 : Int32) (h : dH) : B XM 86 RX12 cX12_years 8 (some .int) fiI 149 [.ref 0, .int y1, .null, .null, .int y4, .int y5, .null, .null] [] h (f_X12_years_J149 kL37 y1 y4 y5 h) := by
  unfold f_X12_years_J149
  refine B_iinc (w := (y5 + 1)) (ls' := [.ref 0, .int y1, .null, .null, .int y4, .int (y5 + 1), .null, .null]) dX12_years_149 rfl (congrArg (fun z => y5 + z) ic_1) (Nat.le_of_ble_eq_true rfl) rfl rfl ?_
  refine B_goto (tgt := 37) dX12_years_152 (by decide) ?_
  exact hkL37 y1 y4 (y5 + 1)  h
def f_X12_years_L37 : Nat → Int32 → Int32 → Int32 → dH → Option (Int32 × dH)
  | 0, _, _, _, _ => none
  | n + 1, y1, y4, y5, h =>
    if y5 < y1 then
    (f_X12_remember h).bind fun h6 =>
    (f_X12_draw 10 h6).bind fun rv7 =>
    if rv7.1 < (rv7.2.1 0 31) then
    if (rv7.2.1 11 27) < 999 then
    (f_X12_goDay 11 rv7.2).bind fun h19 =>
    f_X12_years_J149 (f_X12_years_L37 n) y1 y4 y5 h19
    else
    f_X12_years_J149 (f_X12_years_L37 n) y1 y4 y5 rv7.2
    else
    (f_X12_draw (rv7.2.1 0 24) rv7.2).bind fun rv9 =>
    (f_X12_canWalk 11 rv9.1 rv9.2).bind fun v11 =>
    if v11 then
    (f_X12_walks 11 rv9.1 (rv9.2.1 5 2) rv9.2).bind fun rv15 =>
    f_X12_years_J149 (f_X12_years_L37 n) y1 (y4 + 1) y5 rv15.2
    else
    if (f_X12_canRest 11 rv9.2) then
    (f_X12_sitsDown 11 rv9.2).bind fun h13 =>
    f_X12_years_J149 (f_X12_years_L37 n) y1 y4 y5 h13
    else
    f_X12_years_J149 (f_X12_years_L37 n) y1 y4 y5 rv9.2
    else
    some (y4, h)
set_option maxRecDepth 20000 in
set_option maxHeartbeats 4000000 in
theorem b_X12_years_L37 : ∀ (n : Nat) (y1 : Int32) (y4 : Int32) (y5 : Int32) (h : dH), B XM 86 RX12 cX12_years 8 (some .int) fiI 37 [.ref 0, .int y1, .null, .null, .int y4, .int y5, .null, .null] [] h (f_X12_years_L37 n y1 y4 y5 h) := by
  intro n
  induction n with
  | zero =>
    intro y1 y4 y5 h
    exact B_none
  | succ n ih =>
    intro y1 y4 y5 h
    rw [f_X12_years_L37]
    refine B_iload dX12_years_37 rfl ?_
    refine B_iload_n dX12_years_39 rfl rfl ?_
    refine C_icmp_ge (tgt := 155) dX12_years_40 (by decide) (fun q22 => ?_) (fun q22 => ?_)
    · refine B_iload dX12_years_155 rfl ?_
      exact B_ireturn dX12_years_157 rfl rfl
    · refine B_aload_n dX12_years_43 rfl rfl ?_
      refine B_VV (st := []) dX12_years_44 cl_X12_357 (t_X12_remember h) (Nat.le_of_ble_eq_true rfl) shM_0 rfl rfl (Nat.le_of_ble_eq_true rfl) (fun h6 _ => ?_)
      refine B_aload_n dX12_years_47 rfl rfl ?_
      refine B_bipush dX12_years_48 bp_10 ?_
      refine B_VI (st := []) dX12_years_50 cl_X12_394 (t_X12_draw 10 h6) (Nat.le_of_ble_eq_true rfl) shM_0 rfl rfl (Nat.le_of_ble_eq_true rfl) (fun v7 h8 _ => ?_)
      refine B_aload_n dX12_years_53 rfl rfl ?_
      refine B_getI dX12_years_54 fl_X12_65 shM_0 rfl ?_
      refine C_icmp_ge (tgt := 84) dX12_years_57 (by decide) (fun q21 => ?_) (fun q21 => ?_)
      · refine B_aload_n dX12_years_84 rfl rfl ?_
        refine B_aload_n dX12_years_85 rfl rfl ?_
        refine B_getI dX12_years_86 fl_X12_293 shM_0 rfl ?_
        refine B_VI (st := []) dX12_years_89 cl_X12_394 (t_X12_draw (h8.1 0 24) h8) (Nat.le_of_ble_eq_true rfl) shM_0 rfl rfl (Nat.le_of_ble_eq_true rfl) (fun v9 h10 _ => ?_)
        refine B_istore (ls' := [.ref 0, .int y1, .null, .null, .int y4, .int y5, .int v9, .null]) dX12_years_92 (Nat.le_of_ble_eq_true rfl) rfl rfl ?_
        refine B_aload_n dX12_years_94 rfl rfl ?_
        refine B_aload_n dX12_years_95 rfl rfl ?_
        refine B_getR dX12_years_96 fl_X12_55 shM_0 rfl (rfM_0_28 _) ?_
        refine B_iload dX12_years_99 rfl ?_
        refine B_Vpb (st := []) dX12_years_101 cl_X12_353 (t_X12_canWalk 11 shM_11 v9 h10) (Nat.le_of_ble_eq_true rfl) shM_0 rfl rfl (Nat.le_of_ble_eq_true rfl) (fun v11 _ => ?_)
        refine C_ifb_eq (tgt := 131) dX12_years_104 (by decide) (fun q17 => ?_) (fun q17 => ?_)
        · refine B_aload_n dX12_years_131 rfl rfl ?_
          refine B_aload_n dX12_years_132 rfl rfl ?_
          refine B_getR dX12_years_133 fl_X12_55 shM_0 rfl (rfM_0_28 _) ?_
          refine B_VTb (st := []) dX12_years_136 cl_X12_364 (t_X12_canRest 11 shM_11 h10) (Nat.le_of_ble_eq_true rfl) shM_0 rfl rfl (Nat.le_of_ble_eq_true rfl) ?_
          refine C_ifb_eq (tgt := 149) dX12_years_139 (by decide) (fun q14 => ?_) (fun q14 => ?_)
          · refine B_drop 6 (ls' := [.ref 0, .int y1, .null, .null, .int y4, .int y5, .null, .null]) rfl ?_
            exact b_X12_years_J149 (fun qy1 qy4 qy5 qh => ih qy1 qy4 qy5 qh) y1 y4 y5 h10
          · refine B_aload_n dX12_years_142 rfl rfl ?_
            refine B_getR dX12_years_143 fl_X12_55 shM_0 rfl (rfM_0_28 _) ?_
            refine B_SV (st := []) dX12_years_146 cl_X12_368 (t_X12_sitsDown 11 shM_11 h10) (Nat.le_of_ble_eq_true rfl) rfl rfl (Nat.le_of_ble_eq_true rfl) (fun h13 _ => ?_)
            refine B_drop 6 (ls' := [.ref 0, .int y1, .null, .null, .int y4, .int y5, .null, .null]) rfl ?_
            exact b_X12_years_J149 (fun qy1 qy4 qy5 qh => ih qy1 qy4 qy5 qh) y1 y4 y5 h13
        · refine B_aload_n dX12_years_107 rfl rfl ?_
          refine B_aload_n dX12_years_108 rfl rfl ?_
          refine B_getR dX12_years_109 fl_X12_55 shM_0 rfl (rfM_0_28 _) ?_
          refine B_iload dX12_years_112 rfl ?_
          refine B_aload_n dX12_years_114 rfl rfl ?_
          refine B_getR dX12_years_115 fl_X12_37 shM_0 rfl (rfM_0_18 _) ?_
          refine B_iconst dX12_years_118 ic_2 ?_
          refine L_iald dX12_years_119 shM_5 (by decide) di_2 ?_
          refine B_VI (st := []) dX12_years_120 cl_X12_360 (t_X12_walks 11 shM_11 v9 (h10.1 5 2) h10) (Nat.le_of_ble_eq_true rfl) shM_0 rfl rfl (Nat.le_of_ble_eq_true rfl) (fun v15 h16 _ => ?_)
          refine B_istore (ls' := [.ref 0, .int y1, .null, .null, .int y4, .int y5, .int v9, .int v15]) dX12_years_123 (Nat.le_of_ble_eq_true rfl) rfl rfl ?_
          refine B_iinc (w := (y4 + 1)) (ls' := [.ref 0, .int y1, .null, .null, .int (y4 + 1), .int y5, .int v9, .int v15]) dX12_years_125 rfl (congrArg (fun z => y4 + z) ic_1) (Nat.le_of_ble_eq_true rfl) rfl rfl ?_
          refine B_goto (tgt := 149) dX12_years_128 (by decide) ?_
          refine B_drop 6 (ls' := [.ref 0, .int y1, .null, .null, .int (y4 + 1), .int y5, .null, .int v15]) rfl ?_
          refine B_drop 7 (ls' := [.ref 0, .int y1, .null, .null, .int (y4 + 1), .int y5, .null, .null]) rfl ?_
          exact b_X12_years_J149 (fun qy1 qy4 qy5 qh => ih qy1 qy4 qy5 qh) y1 (y4 + 1) y5 h16
      · refine B_aload_n dX12_years_60 rfl rfl ?_
        refine B_getR dX12_years_61 fl_X12_55 shM_0 rfl (rfM_0_28 _) ?_
        refine B_bipush dX12_years_64 bp_27 ?_
        refine L_iald dX12_years_66 shM_11 (by decide) di_27 ?_
        refine B_sipush dX12_years_67 sp_999 ?_
        refine C_icmp_ge (tgt := 149) dX12_years_70 (by decide) (fun q20 => ?_) (fun q20 => ?_)
        · exact b_X12_years_J149 (fun qy1 qy4 qy5 qh => ih qy1 qy4 qy5 qh) y1 y4 y5 h8
        · refine B_aload_n dX12_years_73 rfl rfl ?_
          refine B_aload_n dX12_years_74 rfl rfl ?_
          refine B_getR dX12_years_75 fl_X12_55 shM_0 rfl (rfM_0_28 _) ?_
          refine B_VV (st := []) dX12_years_78 cl_X12_381 (t_X12_goDay 11 shM_11 h8) (Nat.le_of_ble_eq_true rfl) shM_0 rfl rfl (Nat.le_of_ble_eq_true rfl) (fun h19 _ => ?_)
          refine B_goto (tgt := 149) dX12_years_81 (by decide) ?_
          exact b_X12_years_J149 (fun qy1 qy4 qy5 qh => ih qy1 qy4 qy5 qh) y1 y4 y5 h19
def f_X12_years (x1 : Int32) (x2 : Int64) (h : dH) : Option (Int32 × dH) :=
  (some (dPut h 0 0 0)).bind fun h1 =>
  if (h1.1 0 24) = 0 then
  some ((-1), h1)
  else
  if (f_X12_isIn ((x1 : Int32).toInt64) 1 60 h1) then
  (some (dPutL h1 0 36 x2)).bind fun h2 =>
  f_X12_years_L37 dFu x1 0 0 h2
  else
  some ((-1), h1)
set_option maxRecDepth 20000 in
set_option maxHeartbeats 4000000 in
theorem t_X12_years (x1 : Int32) (x2 : Int64) (h : dH) : T XM 86 yX12_years cX12_years 8 (some .int) fiI [.ref 0, .int x1, .long x2] h (f_X12_years x1 x2 h) := by
  refine T_of [.ref 0, .int x1, .long x2, .null, .null, .null, .null, .null] (by decide) (fun _ => rfl) (fun _ => Nat.le_of_ble_eq_true rfl) ?_
  show B XM 86 RX12 cX12_years 8 (some .int) fiI 0 [.ref 0, .int x1, .long x2, .null, .null, .null, .null, .null] [] h (f_X12_years x1 x2 h)
  unfold f_X12_years
  refine B_aload_n dX12_years_0 rfl rfl ?_
  refine B_iconst dX12_years_1 ic_0 ?_
  refine B_putI dX12_years_2 fl_X12_103 fw_X12_0 shM_0 rfl ?_
  refine B_lh (fun h1 => ?_)
  refine B_aload_n dX12_years_5 rfl rfl ?_
  refine B_getI dX12_years_6 fl_X12_293 shM_0 rfl ?_
  refine C_if_eq (tgt := 24) dX12_years_9 (by decide) (fun q4 => ?_) (fun q4 => ?_)
  · refine B_iconst dX12_years_24 ic_m1 ?_
    exact B_ireturn dX12_years_25 rfl rfl
  · refine B_iload_n dX12_years_12 rfl rfl ?_
    refine B_i2l dX12_years_13 ?_
    refine B_lconst (v := 1) dX12_years_14 (by decide) ?_
    refine B_ldc2 dX12_years_15 kc_X12_392 ?_
    refine B_STb (st := []) dX12_years_18 cl_X12_224 (t_X12_isIn ((x1 : Int32).toInt64) 1 60 h1) (Nat.le_of_ble_eq_true rfl) rfl rfl (Nat.le_of_ble_eq_true rfl) ?_
    refine C_ifb_ne (tgt := 26) dX12_years_21 (by decide) (fun q3 => ?_) (fun q3 => ?_)
    · refine B_aload_n dX12_years_26 rfl rfl ?_
      refine B_lload_n dX12_years_27 rfl rfl ?_
      refine B_putJ dX12_years_28 fl_X12_384 fw_X12_36 shM_0 rfl ?_
      refine B_lh (fun h2 => ?_)
      refine B_iconst dX12_years_31 ic_0 ?_
      refine B_istore (ls' := [.ref 0, .int x1, .long x2, .null, .int 0, .null, .null, .null]) dX12_years_32 (Nat.le_of_ble_eq_true rfl) rfl rfl ?_
      refine B_iconst dX12_years_34 ic_0 ?_
      refine B_istore (ls' := [.ref 0, .int x1, .long x2, .null, .int 0, .int 0, .null, .null]) dX12_years_35 (Nat.le_of_ble_eq_true rfl) rfl rfl ?_
      refine B_drop 2 (ls' := [.ref 0, .int x1, .null, .null, .int 0, .int 0, .null, .null]) rfl ?_
      exact b_X12_years_L37 dFu x1 0 0 h2
    · refine B_iconst dX12_years_24 ic_m1 ?_
      exact B_ireturn dX12_years_25 rfl rfl
def f_X12_undo_L26 : Nat → Int32 → dH → Option (Int32 × dH)
  | 0, _, _ => none
  | n + 1, y1, h =>
    if y1 < 209 then
    if dIn ((209 * (h.1 0 35)) + y1) 8360 then
    if dIn y1 209 then
    (some (dPut h 11 (dI y1) (h.1 15 (dI ((209 * (h.1 0 35)) + y1))))).bind fun h6 =>
    (f_X12_undo_L26 n) (y1 + 1) h6
    else none
    else none
    else
    some ((h.1 0 35), h)
set_option maxRecDepth 20000 in
set_option maxHeartbeats 4000000 in
theorem b_X12_undo_L26 : ∀ (n : Nat) (y1 : Int32) (h : dH), B XM 0 RX12 cX12_undo 2 (some .int) fiI 26 [.ref 0, .int y1] [] h (f_X12_undo_L26 n y1 h) := by
  intro n
  induction n with
  | zero =>
    intro y1 h
    exact B_none
  | succ n ih =>
    intro y1 h
    rw [f_X12_undo_L26]
    refine B_iload_n dX12_undo_26 rfl rfl ?_
    refine B_sipush dX12_undo_27 sp_209 ?_
    refine C_icmp_ge (tgt := 60) dX12_undo_30 (by decide) (fun q7 => ?_) (fun q7 => ?_)
    · refine B_aload_n dX12_undo_60 rfl rfl ?_
      refine B_getI dX12_undo_61 fl_X12_299 shM_0 rfl ?_
      exact B_ireturn dX12_undo_64 rfl rfl
    · refine B_aload_n dX12_undo_33 rfl rfl ?_
      refine B_getR dX12_undo_34 fl_X12_55 shM_0 rfl (rfM_0_28 _) ?_
      refine B_iload_n dX12_undo_37 rfl rfl ?_
      refine B_aload_n dX12_undo_38 rfl rfl ?_
      refine B_getR dX12_undo_39 fl_X12_75 shM_0 rfl (rfM_0_34 _) ?_
      refine B_sipush dX12_undo_42 sp_209 ?_
      refine B_aload_n dX12_undo_45 rfl rfl ?_
      refine B_getI dX12_undo_46 fl_X12_299 shM_0 rfl ?_
      refine B_imul dX12_undo_49 ?_
      refine B_iload_n dX12_undo_50 rfl rfl ?_
      refine B_iadd dX12_undo_51 ?_
      refine C_chk (fun q4 => ?_)
      refine L_iald dX12_undo_52 shM_15 q4 rfl ?_
      refine C_chk (fun q5 => ?_)
      refine L_iast dX12_undo_53 shM_11 q5 rfl ?_
      refine B_lh (fun h6 => ?_)
      refine B_iinc (w := (y1 + 1)) (ls' := [.ref 0, .int (y1 + 1)]) dX12_undo_54 rfl (congrArg (fun z => y1 + z) ic_1) (Nat.le_of_ble_eq_true rfl) rfl rfl ?_
      refine B_goto (tgt := 26) dX12_undo_57 (by decide) ?_
      exact ih (y1 + 1)  h6
def f_X12_undo (h : dH) : Option (Int32 × dH) :=
  (some (dPut h 0 0 0)).bind fun h1 =>
  if (h1.1 0 35) = 0 then
  some ((-1), h1)
  else
  (some (dPut h1 0 35 ((h1.1 0 35) - 1))).bind fun h2 =>
  f_X12_undo_L26 dFu 0 h2
set_option maxRecDepth 20000 in
set_option maxHeartbeats 4000000 in
theorem t_X12_undo (h : dH) : T XM 0 yX12_undo cX12_undo 2 (some .int) fiI [.ref 0] h (f_X12_undo h) := by
  refine T_of [.ref 0, .null] (by decide) (fun _ => rfl) (fun _ => Nat.le_of_ble_eq_true rfl) ?_
  show B XM 0 RX12 cX12_undo 2 (some .int) fiI 0 [.ref 0, .null] [] h (f_X12_undo h)
  unfold f_X12_undo
  refine B_aload_n dX12_undo_0 rfl rfl ?_
  refine B_iconst dX12_undo_1 ic_0 ?_
  refine B_putI dX12_undo_2 fl_X12_103 fw_X12_0 shM_0 rfl ?_
  refine B_lh (fun h1 => ?_)
  refine B_aload_n dX12_undo_5 rfl rfl ?_
  refine B_getI dX12_undo_6 fl_X12_299 shM_0 rfl ?_
  refine C_if_ne (tgt := 14) dX12_undo_9 (by decide) (fun q3 => ?_) (fun q3 => ?_)
  · refine B_aload_n dX12_undo_14 rfl rfl ?_
    refine B_dup dX12_undo_15 rfl ?_
    refine B_getI dX12_undo_16 fl_X12_299 shM_0 rfl ?_
    refine B_iconst dX12_undo_19 ic_1 ?_
    refine B_isub dX12_undo_20 ?_
    refine B_putI dX12_undo_21 fl_X12_299 fw_X12_35 shM_0 rfl ?_
    refine B_lh (fun h2 => ?_)
    refine B_iconst dX12_undo_24 ic_0 ?_
    refine B_istore_n (ls' := [.ref 0, .int 0]) dX12_undo_25 rfl (Nat.le_of_ble_eq_true rfl) rfl rfl ?_
    exact b_X12_undo_L26 dFu 0 h2
  · refine B_iconst dX12_undo_12 ic_m1 ?_
    exact B_ireturn dX12_undo_13 rfl rfl
