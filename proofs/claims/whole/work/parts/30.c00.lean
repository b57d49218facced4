def f_X0_forget (h : dH) : Option (dH) :=
  some (dPut h 70 0 0)
set_option maxRecDepth 20000 in
set_option maxHeartbeats 4000000 in
theorem t_X0_forget (h : dH) : T XC 0 yX0_forget cX0_forget 1 none fiV [.ref 70] h (f_X0_forget h) := by
  refine T_of [.ref 70] (by decide) (fun _ => rfl) (fun _ => Nat.le_of_ble_eq_true rfl) ?_
  show B XC 0 RX0 cX0_forget 1 none fiV 0 [.ref 70] [] h (f_X0_forget h)
  unfold f_X0_forget
  refine B_aload_n dX0_forget_0 rfl rfl ?_
  refine B_iconst dX0_forget_1 ic_0 ?_
  refine B_putI dX0_forget_2 fl_X0_17 fw_X0_0 shC_70 rfl ?_
  exact B_return dX0_forget_5 rfl rfl
def f_X8_saveTo (r rn : Nat) (x2 : Int32) (h : dH) : Option (dH) :=
  if x2 < 0 then
  some h
  else
  if (Int32.ofNat rn) < (x2 + 28) then
  some h
  else
  if dCk 0 x2 28 28 rn then
  some (dCpy h 67 r (dI 0) (dI x2) (dI 28))
  else none
set_option maxRecDepth 20000 in
set_option maxHeartbeats 4000000 in
theorem t_X8_saveTo (r rn : Nat) (hr : XC.1[r]? = some (.inr (0, rn))) (x2 : Int32) (h : dH) : T XC 1 yX8_saveTo cX8_saveTo 3 none fiV [.ref 66, .ref r, .int x2] h (f_X8_saveTo r rn x2 h) := by
  refine T_of [.ref 66, .ref r, .int x2] (by decide) (fun _ => rfl) (fun _ => Nat.le_of_ble_eq_true rfl) ?_
  show B XC 1 RX8 cX8_saveTo 3 none fiV 0 [.ref 66, .ref r, .int x2] [] h (f_X8_saveTo r rn x2 h)
  unfold f_X8_saveTo
  refine B_iload_n dX8_saveTo_0 rfl rfl ?_
  refine C_if_lt (tgt := 25) dX8_saveTo_1 (by decide) (fun q3 => ?_) (fun q3 => ?_)
  · exact B_return dX8_saveTo_25 rfl rfl
  · refine B_iload_n dX8_saveTo_4 rfl rfl ?_
    refine B_bipush dX8_saveTo_5 bp_28 ?_
    refine B_iadd dX8_saveTo_7 ?_
    refine B_aload_n dX8_saveTo_8 rfl rfl ?_
    refine B_alen dX8_saveTo_9 hr rfl ?_
    refine C_icmp_gt (tgt := 25) dX8_saveTo_10 (by decide) (fun q2 => ?_) (fun q2 => ?_)
    · exact B_return dX8_saveTo_25 rfl rfl
    · refine B_aload_n dX8_saveTo_13 rfl rfl ?_
      refine B_getR dX8_saveTo_14 fl_X8_11 shC_66 rfl (rfC_66_2 _) ?_
      refine B_iconst dX8_saveTo_17 ic_0 ?_
      refine B_aload_n dX8_saveTo_18 rfl rfl ?_
      refine B_iload_n dX8_saveTo_19 rfl rfl ?_
      refine B_bipush dX8_saveTo_20 bp_28 ?_
      refine C_chk (fun q1 => ?_)
      refine L_copy dX8_saveTo_22 cp_X8_29 (Nat.le_of_ble_eq_true rfl) (Nat.le_of_ble_eq_true rfl) shC_67 hr q1 ?_
      exact B_return dX8_saveTo_25 rfl rfl
def f_X0_keep_J37 (z1 : Int32) (h : dH) : Option (dH) :=
  (some (dPut h 70 2 z1)).bind fun h4 =>
  some (dPut h4 70 0 (jmin 40 ((h4.1 70 0) + 1)))
set_option maxRecDepth 20000 in
set_option maxHeartbeats 4000000 in
theorem b_X0_keep_J37 (z1 : Int32) (h : dH) : B XC 2 RX0 cX0_keep 2 none fiV 37 [.ref 70, .null] [.int z1, .ref 70] h (f_X0_keep_J37 z1 h) := by
  unfold f_X0_keep_J37
  refine B_putI dX0_keep_37 fl_X0_21 fw_X0_2 shC_70 rfl ?_
  refine B_lh (fun h4 => ?_)
  refine B_aload_n dX0_keep_40 rfl rfl ?_
  refine B_bipush dX0_keep_41 bp_40 ?_
  refine B_aload_n dX0_keep_43 rfl rfl ?_
  refine B_getI dX0_keep_44 fl_X0_17 shC_70 rfl ?_
  refine B_iconst dX0_keep_47 ic_1 ?_
  refine B_iadd dX0_keep_48 ?_
  refine B_mmin dX0_keep_49 mt_X0_28 (Nat.le_of_ble_eq_true rfl) (Nat.le_of_ble_eq_true rfl) ?_
  refine B_putI dX0_keep_52 fl_X0_17 fw_X0_0 shC_70 rfl ?_
  exact B_return dX0_keep_55 rfl rfl
def f_X0_keep (h : dH) : Option (dH) :=
  (f_X8_saveTo 71 1120 ((h.1 70 2) * 28) h).bind fun h2 =>
  if ((h2.1 70 2) + 1) < 40 then
  f_X0_keep_J37 ((h2.1 70 2) + 1) h2
  else
  f_X0_keep_J37 0 h2
set_option maxRecDepth 20000 in
set_option maxHeartbeats 4000000 in
theorem t_X0_keep (h : dH) : T XC 2 yX0_keep cX0_keep 2 none fiV [.ref 70, .ref 66] h (f_X0_keep h) := by
  refine T_of [.ref 70, .ref 66] (by decide) (fun _ => rfl) (fun _ => Nat.le_of_ble_eq_true rfl) ?_
  show B XC 2 RX0 cX0_keep 2 none fiV 0 [.ref 70, .ref 66] [] h (f_X0_keep h)
  unfold f_X0_keep
  refine B_aload_n dX0_keep_0 rfl rfl ?_
  refine B_aload_n dX0_keep_1 rfl rfl ?_
  refine B_getR dX0_keep_2 fl_X0_13 shC_70 rfl (rfC_70_1 _) ?_
  refine B_aload_n dX0_keep_5 rfl rfl ?_
  refine B_getI dX0_keep_6 fl_X0_21 shC_70 rfl ?_
  refine B_bipush dX0_keep_9 bp_28 ?_
  refine B_imul dX0_keep_11 ?_
  refine B_VV (st := []) dX0_keep_12 cl_X0_24 (t_X8_saveTo 71 1120 shC_71 ((h.1 70 2) * 28) h) (Nat.le_of_ble_eq_true rfl) shC_66 rfl rfl (Nat.le_of_ble_eq_true rfl) (fun h2 _ => ?_)
  refine B_aload_n dX0_keep_15 rfl rfl ?_
  refine B_aload_n dX0_keep_16 rfl rfl ?_
  refine B_getI dX0_keep_17 fl_X0_21 shC_70 rfl ?_
  refine B_iconst dX0_keep_20 ic_1 ?_
  refine B_iadd dX0_keep_21 ?_
  refine B_bipush dX0_keep_22 bp_40 ?_
  refine C_icmp_ge (tgt := 36) dX0_keep_24 (by decide) (fun q3 => ?_) (fun q3 => ?_)
  · refine B_iconst dX0_keep_36 ic_0 ?_
    refine B_drop 1 (ls' := [.ref 70, .null]) rfl ?_
    exact b_X0_keep_J37 0 h2
  · refine B_aload_n dX0_keep_27 rfl rfl ?_
    refine B_getI dX0_keep_28 fl_X0_21 shC_70 rfl ?_
    refine B_iconst dX0_keep_31 ic_1 ?_
    refine B_iadd dX0_keep_32 ?_
    refine B_goto (tgt := 37) dX0_keep_33 (by decide) ?_
    refine B_drop 1 (ls' := [.ref 70, .null]) rfl ?_
    exact b_X0_keep_J37 ((h2.1 70 2) + 1) h2
def f_X8_loadFrom (t : Nat) (r rn : Nat) (x2 : Int32) (h : dH) : Option (dH) :=
  if x2 < 0 then
  some h
  else
  if (Int32.ofNat rn) < (x2 + 28) then
  some h
  else
  if dCk x2 0 28 rn 28 then
  some (dCpy h r (t + 1) (dI x2) (dI 0) (dI 28))
  else none
set_option maxRecDepth 20000 in
set_option maxHeartbeats 4000000 in
theorem t_X8_loadFrom (t : Nat) (ht : XC.1[t]? = some (.inl 8)) (r rn : Nat) (hr : XC.1[r]? = some (.inr (0, rn))) (x2 : Int32) (h : dH) : T XC 1 yX8_loadFrom cX8_loadFrom 3 none fiV [.ref t, .ref r, .int x2] h (f_X8_loadFrom t r rn x2 h) := by
  refine T_of [.ref t, .ref r, .int x2] (by decide) (fun _ => rfl) (fun _ => Nat.le_of_ble_eq_true rfl) ?_
  show B XC 1 RX8 cX8_loadFrom 3 none fiV 0 [.ref t, .ref r, .int x2] [] h (f_X8_loadFrom t r rn x2 h)
  unfold f_X8_loadFrom
  refine B_iload_n dX8_loadFrom_0 rfl rfl ?_
  refine C_if_lt (tgt := 25) dX8_loadFrom_1 (by decide) (fun q3 => ?_) (fun q3 => ?_)
  · exact B_return dX8_loadFrom_25 rfl rfl
  · refine B_iload_n dX8_loadFrom_4 rfl rfl ?_
    refine B_bipush dX8_loadFrom_5 bp_28 ?_
    refine B_iadd dX8_loadFrom_7 ?_
    refine B_aload_n dX8_loadFrom_8 rfl rfl ?_
    refine B_alen dX8_loadFrom_9 hr rfl ?_
    refine C_icmp_gt (tgt := 25) dX8_loadFrom_10 (by decide) (fun q2 => ?_) (fun q2 => ?_)
    · exact B_return dX8_loadFrom_25 rfl rfl
    · refine B_aload_n dX8_loadFrom_13 rfl rfl ?_
      refine B_iload_n dX8_loadFrom_14 rfl rfl ?_
      refine B_aload_n dX8_loadFrom_15 rfl rfl ?_
      refine B_getR dX8_loadFrom_16 fl_X8_11 ht rfl (rfX8_2 _ ht) ?_
      refine B_iconst dX8_loadFrom_19 ic_0 ?_
      refine B_bipush dX8_loadFrom_20 bp_28 ?_
      refine C_chk (fun q1 => ?_)
      refine L_copy dX8_loadFrom_22 cp_X8_29 (Nat.le_of_ble_eq_true rfl) (Nat.le_of_ble_eq_true rfl) hr (shX8_2 ht) q1 ?_
      exact B_return dX8_loadFrom_25 rfl rfl
def f_X0_takeBack_J28 (z1 : Int32) (h : dH) : Option (Int32 × dH) :=
  (some (dPut h 70 2 z1)).bind fun h3 =>
  (f_X8_loadFrom 66 71 1120 ((h3.1 70 2) * 28) h3).bind fun h5 =>
  some (((dPut h5 70 0 ((h5.1 70 0) - 1)).1 70 0), (dPut h5 70 0 ((h5.1 70 0) - 1)))
set_option maxRecDepth 20000 in
set_option maxHeartbeats 4000000 in
theorem b_X0_takeBack_J28 (z1 : Int32) (h : dH) : B XC 2 RX0 cX0_takeBack 2 (some .int) fiI 28 [.ref 70, .ref 66] [.int z1, .ref 70] h (f_X0_takeBack_J28 z1 h) := by
  unfold f_X0_takeBack_J28
  refine B_putI dX0_takeBack_28 fl_X0_21 fw_X0_2 shC_70 rfl ?_
  refine B_lh (fun h3 => ?_)
  refine B_aload_n dX0_takeBack_31 rfl rfl ?_
  refine B_aload_n dX0_takeBack_32 rfl rfl ?_
  refine B_getR dX0_takeBack_33 fl_X0_13 shC_70 rfl (rfC_70_1 _) ?_
  refine B_aload_n dX0_takeBack_36 rfl rfl ?_
  refine B_getI dX0_takeBack_37 fl_X0_21 shC_70 rfl ?_
  refine B_bipush dX0_takeBack_40 bp_28 ?_
  refine B_imul dX0_takeBack_42 ?_
  refine B_VV (st := []) dX0_takeBack_43 cl_X0_34 (t_X8_loadFrom 66 shC_66 71 1120 shC_71 ((h3.1 70 2) * 28) h3) (Nat.le_of_ble_eq_true rfl) shC_66 rfl rfl (Nat.le_of_ble_eq_true rfl) (fun h5 _ => ?_)
  refine B_aload_n dX0_takeBack_46 rfl rfl ?_
  refine B_dup dX0_takeBack_47 rfl ?_
  refine B_getI dX0_takeBack_48 fl_X0_17 shC_70 rfl ?_
  refine B_iconst dX0_takeBack_51 ic_1 ?_
  refine B_isub dX0_takeBack_52 ?_
  refine B_putI dX0_takeBack_53 fl_X0_17 fw_X0_0 shC_70 rfl ?_
  refine B_aload_n dX0_takeBack_56 rfl rfl ?_
  refine B_getI dX0_takeBack_57 fl_X0_17 shC_70 rfl ?_
  exact B_ireturn dX0_takeBack_60 rfl rfl
def f_X0_takeBack (h : dH) : Option (Int32 × dH) :=
  if (h.1 70 0) = 0 then
  some ((-1), h)
  else
  if 0 < (h.1 70 2) then
  f_X0_takeBack_J28 ((h.1 70 2) - 1) h
  else
  f_X0_takeBack_J28 39 h
set_option maxRecDepth 20000 in
set_option maxHeartbeats 4000000 in
theorem t_X0_takeBack (h : dH) : T XC 2 yX0_takeBack cX0_takeBack 2 (some .int) fiI [.ref 70, .ref 66] h (f_X0_takeBack h) := by
  refine T_of [.ref 70, .ref 66] (by decide) (fun _ => rfl) (fun _ => Nat.le_of_ble_eq_true rfl) ?_
  show B XC 2 RX0 cX0_takeBack 2 (some .int) fiI 0 [.ref 70, .ref 66] [] h (f_X0_takeBack h)
  unfold f_X0_takeBack
  refine B_aload_n dX0_takeBack_0 rfl rfl ?_
  refine B_getI dX0_takeBack_1 fl_X0_17 shC_70 rfl ?_
  refine C_if_ne (tgt := 9) dX0_takeBack_4 (by decide) (fun q2 => ?_) (fun q2 => ?_)
  · refine B_aload_n dX0_takeBack_9 rfl rfl ?_
    refine B_aload_n dX0_takeBack_10 rfl rfl ?_
    refine B_getI dX0_takeBack_11 fl_X0_21 shC_70 rfl ?_
    refine C_if_le (tgt := 26) dX0_takeBack_14 (by decide) (fun q1 => ?_) (fun q1 => ?_)
    · refine B_bipush dX0_takeBack_26 bp_39 ?_
      exact b_X0_takeBack_J28 39 h
    · refine B_aload_n dX0_takeBack_17 rfl rfl ?_
      refine B_getI dX0_takeBack_18 fl_X0_21 shC_70 rfl ?_
      refine B_iconst dX0_takeBack_21 ic_1 ?_
      refine B_isub dX0_takeBack_22 ?_
      refine B_goto (tgt := 28) dX0_takeBack_23 (by decide) ?_
      exact b_X0_takeBack_J28 ((h.1 70 2) - 1) h
  · refine B_iconst dX0_takeBack_7 ic_m1 ?_
    exact B_ireturn dX0_takeBack_8 rfl rfl
def f_X1_isPlace (t : Nat) (x1 : Int32) (h : dH) : Bool :=
  if x1 < 0 then
  false
  else
  if x1 < (h.1 t 2) then
  true
  else
  false
set_option maxRecDepth 20000 in
set_option maxHeartbeats 4000000 in
theorem t_X1_isPlace (t : Nat) (ht : XC.1[t]? = some (.inl 1)) (x1 : Int32) (h : dH) : T XC 0 yX1_isPlace cX1_isPlace 2 (some .boolean) (fiB h) [.ref t, .int x1] h (some (f_X1_isPlace t x1 h)) := by
  refine T_of [.ref t, .int x1] (by decide) (fun _ => rfl) (fun _ => Nat.le_of_ble_eq_true rfl) ?_
  show B XC 0 RX1 cX1_isPlace 2 (some .boolean) (fiB h) 0 [.ref t, .int x1] [] h (some (f_X1_isPlace t x1 h))
  unfold f_X1_isPlace
  refine B_iload_n dX1_isPlace_0 rfl rfl ?_
  refine C_some ?_
  refine C_if_lt (tgt := 16) dX1_isPlace_1 (by decide) (fun q2 => ?_) (fun q2 => ?_)
  · refine B_iconst dX1_isPlace_16 ic_0 ?_
    exact B_zreturn dX1_isPlace_17 rfl rfl rfl
  · refine B_iload_n dX1_isPlace_4 rfl rfl ?_
    refine B_aload_n dX1_isPlace_5 rfl rfl ?_
    refine B_getI dX1_isPlace_6 fl_X1_29 ht rfl ?_
    refine C_some ?_
    refine C_icmp_ge (tgt := 16) dX1_isPlace_9 (by decide) (fun q1 => ?_) (fun q1 => ?_)
    · refine B_iconst dX1_isPlace_16 ic_0 ?_
      exact B_zreturn dX1_isPlace_17 rfl rfl rfl
    · refine B_iconst dX1_isPlace_12 ic_1 ?_
      refine B_goto (tgt := 17) dX1_isPlace_13 (by decide) ?_
      exact B_zreturn dX1_isPlace_17 rfl rfl rfl
def f_X1_toldOf (t : Nat) (x1 : Int32) (x2 : Int32) (h : dH) : Option (Int32) :=
  if (f_X1_isPlace t x1 h) then
  if x2 < 0 then
  some 0
  else
  if 4 < x2 then
  some 0
  else
  if dIn x1 7 then
  if dIn x2 5 then
  some (h.1 (t + 3 + dI x1) (dI x2))
  else none
  else none
  else
  some 0
set_option maxRecDepth 20000 in
set_option maxHeartbeats 4000000 in
theorem t_X1_toldOf (t : Nat) (ht : XC.1[t]? = some (.inl 1)) (x1 : Int32) (x2 : Int32) (h : dH) : T XC 1 yX1_toldOf cX1_toldOf 3 (some .int) (fiP h) [.ref t, .int x1, .int x2] h (f_X1_toldOf t x1 x2 h) := by
  refine T_of [.ref t, .int x1, .int x2] (by decide) (fun _ => rfl) (fun _ => Nat.le_of_ble_eq_true rfl) ?_
  show B XC 1 RX1 cX1_toldOf 3 (some .int) (fiP h) 0 [.ref t, .int x1, .int x2] [] h (f_X1_toldOf t x1 x2 h)
  unfold f_X1_toldOf
  refine B_aload_n dX1_toldOf_0 rfl rfl ?_
  refine B_iload_n dX1_toldOf_1 rfl rfl ?_
  refine B_VTb (st := []) dX1_toldOf_2 cl_X1_46 (t_X1_isPlace t ht x1 h) (Nat.le_of_ble_eq_true rfl) ht rfl rfl (Nat.le_of_ble_eq_true rfl) ?_
  refine C_ifb_eq (tgt := 28) dX1_toldOf_5 (by decide) (fun q5 => ?_) (fun q5 => ?_)
  · refine B_iconst dX1_toldOf_28 ic_0 ?_
    exact B_ireturn dX1_toldOf_29 rfl rfl
  · refine B_iload_n dX1_toldOf_8 rfl rfl ?_
    refine C_if_lt (tgt := 28) dX1_toldOf_9 (by decide) (fun q4 => ?_) (fun q4 => ?_)
    · refine B_iconst dX1_toldOf_28 ic_0 ?_
      exact B_ireturn dX1_toldOf_29 rfl rfl
    · refine B_iload_n dX1_toldOf_12 rfl rfl ?_
      refine B_iconst dX1_toldOf_13 ic_4 ?_
      refine C_icmp_gt (tgt := 28) dX1_toldOf_14 (by decide) (fun q3 => ?_) (fun q3 => ?_)
      · refine B_iconst dX1_toldOf_28 ic_0 ?_
        exact B_ireturn dX1_toldOf_29 rfl rfl
      · refine B_aload_n dX1_toldOf_17 rfl rfl ?_
        refine B_getR dX1_toldOf_18 fl_X1_17 ht rfl (rfX1_1 _ ht) ?_
        refine B_iload_n dX1_toldOf_21 rfl rfl ?_
        refine C_chk (fun q1 => ?_)
        refine B_aald dX1_toldOf_22 (shX1_1 ht) q1 (rrX1_1 _ ht q1) ?_
        refine B_iload_n dX1_toldOf_23 rfl rfl ?_
        refine C_chk (fun q2 => ?_)
        refine L_iald dX1_toldOf_24 (rowX1_1 ht q1) q2 rfl ?_
        refine B_goto (tgt := 29) dX1_toldOf_25 (by decide) ?_
        exact B_ireturn dX1_toldOf_29 rfl rfl
def f_X1_measure_L12 (t : Nat) (kL2 : Int32 → dH → Option (dH)) : Nat → Int32 → Int32 → dH → Option (dH)
  | 0, _, _, _ => none
  | n + 1, y1, y2, h =>
    if y2 < (h.1 t 2) then
    if dIn (y1 + 1) 8 then
    (f_X1_toldOf t y1 0 h).bind fun v3 =>
    (f_X1_toldOf t y2 0 h).bind fun v4 =>
    (f_X1_toldOf t y1 1 h).bind fun v5 =>
    (f_X1_toldOf t y2 1 h).bind fun v6 =>
    if dIn (y2 + 1) 8 then
    (some (dPut h (t + 11 + dI (y1 + 1)) (dI (y2 + 1)) ((jabs (v3 - v4)) + (jabs (v5 - v6))))).bind fun h8 =>
    (f_X1_measure_L12 t kL2 n) y1 (y2 + 1) h8
    else none
    else none
    else
    kL2 (y1 + 1) h
set_option maxRecDepth 20000 in
set_option maxHeartbeats 4000000 in
theorem b_X1_measure_L12 {t : Nat} {kL2 : Int32 → dH → Option (dH)} (ht : XC.1[t]? = some (.inl 1)) (hkL2 : ∀ (y1 : Int32) (h : dH), B XC 2 RX1 cX1_measure 3 none fiV 2 [.ref t, .int y1, .null] [] h (kL2 y1 h)) : ∀ (n : Nat) (y1 : Int32) (y2 : Int32) (h : dH), B XC 2 RX1 cX1_measure 3 none fiV 12 [.ref t, .int y1, .int y2] [] h (f_X1_measure_L12 t kL2 n y1 y2 h) := by
  intro n
  induction n with
  | zero =>
    intro y1 y2 h
    exact B_none
  | succ n ih =>
    intro y1 y2 h
    rw [f_X1_measure_L12]
    refine B_iload_n dX1_measure_12 rfl rfl ?_
    refine B_aload_n dX1_measure_13 rfl rfl ?_
    refine B_getI dX1_measure_14 fl_X1_29 ht rfl ?_
    refine C_icmp_ge (tgt := 71) dX1_measure_17 (by decide) (fun q9 => ?_) (fun q9 => ?_)
    · refine B_iinc (w := (y1 + 1)) (ls' := [.ref t, .int (y1 + 1), .int y2]) dX1_measure_71 rfl (congrArg (fun z => y1 + z) ic_1) (Nat.le_of_ble_eq_true rfl) rfl rfl ?_
      refine B_goto (tgt := 2) dX1_measure_74 (by decide) ?_
      refine B_drop 2 (ls' := [.ref t, .int (y1 + 1), .null]) rfl ?_
      exact hkL2 (y1 + 1)  h
    · refine B_aload_n dX1_measure_20 rfl rfl ?_
      refine B_getR dX1_measure_21 fl_X1_20 ht rfl (rfX1_3 _ ht) ?_
      refine B_iload_n dX1_measure_24 rfl rfl ?_
      refine B_iconst dX1_measure_25 ic_1 ?_
      refine B_iadd dX1_measure_26 ?_
      refine C_chk (fun q2 => ?_)
      refine B_aald dX1_measure_27 (shX1_3 ht) q2 (rrX1_3 _ ht q2) ?_
      refine B_iload_n dX1_measure_28 rfl rfl ?_
      refine B_iconst dX1_measure_29 ic_1 ?_
      refine B_iadd dX1_measure_30 ?_
      refine B_aload_n dX1_measure_31 rfl rfl ?_
      refine B_iload_n dX1_measure_32 rfl rfl ?_
      refine B_iconst dX1_measure_33 ic_0 ?_
      refine B_Vp (st := [.int (y2 + 1), .ref (t + 11 + dI (y1 + 1))]) dX1_measure_34 cl_X1_36 (t_X1_toldOf t ht y1 0 h) (Nat.le_of_ble_eq_true rfl) ht rfl rfl (Nat.le_of_ble_eq_true rfl) (fun v3 _ => ?_)
      refine B_aload_n dX1_measure_37 rfl rfl ?_
      refine B_iload_n dX1_measure_38 rfl rfl ?_
      refine B_iconst dX1_measure_39 ic_0 ?_
      refine B_Vp (st := [.int v3, .int (y2 + 1), .ref (t + 11 + dI (y1 + 1))]) dX1_measure_40 cl_X1_36 (t_X1_toldOf t ht y2 0 h) (Nat.le_of_ble_eq_true rfl) ht rfl rfl (Nat.le_of_ble_eq_true rfl) (fun v4 _ => ?_)
      refine B_isub dX1_measure_43 ?_
      refine B_mabs dX1_measure_44 mt_X1_40 (Nat.le_of_ble_eq_true rfl) (Nat.le_of_ble_eq_true rfl) ?_
      refine B_aload_n dX1_measure_47 rfl rfl ?_
      refine B_iload_n dX1_measure_48 rfl rfl ?_
      refine B_iconst dX1_measure_49 ic_1 ?_
      refine B_Vp (st := [.int (jabs (v3 - v4)), .int (y2 + 1), .ref (t + 11 + dI (y1 + 1))]) dX1_measure_50 cl_X1_36 (t_X1_toldOf t ht y1 1 h) (Nat.le_of_ble_eq_true rfl) ht rfl rfl (Nat.le_of_ble_eq_true rfl) (fun v5 _ => ?_)
      refine B_aload_n dX1_measure_53 rfl rfl ?_
      refine B_iload_n dX1_measure_54 rfl rfl ?_
      refine B_iconst dX1_measure_55 ic_1 ?_
      refine B_Vp (st := [.int v5, .int (jabs (v3 - v4)), .int (y2 + 1), .ref (t + 11 + dI (y1 + 1))]) dX1_measure_56 cl_X1_36 (t_X1_toldOf t ht y2 1 h) (Nat.le_of_ble_eq_true rfl) ht rfl rfl (Nat.le_of_ble_eq_true rfl) (fun v6 _ => ?_)
      refine B_isub dX1_measure_59 ?_
      refine B_mabs dX1_measure_60 mt_X1_40 (Nat.le_of_ble_eq_true rfl) (Nat.le_of_ble_eq_true rfl) ?_
      refine B_iadd dX1_measure_63 ?_
      refine C_chk (fun q7 => ?_)
      refine L_iast dX1_measure_64 (rowX1_3 ht q2) q7 rfl ?_
      refine B_lh (fun h8 => ?_)
      refine B_iinc (w := (y2 + 1)) (ls' := [.ref t, .int y1, .int (y2 + 1)]) dX1_measure_65 rfl (congrArg (fun z => y2 + z) ic_1) (Nat.le_of_ble_eq_true rfl) rfl rfl ?_
      refine B_goto (tgt := 12) dX1_measure_68 (by decide) ?_
      exact ih y1 (y2 + 1)  h8
def f_X1_measure_L2 (t : Nat) : Nat → Int32 → dH → Option (dH)
  | 0, _, _ => none
  | n + 1, y1, h =>
    if y1 < (h.1 t 2) then
    f_X1_measure_L12 t (f_X1_measure_L2 t n) dFu y1 (-1) h
    else
    some h
set_option maxRecDepth 20000 in
set_option maxHeartbeats 4000000 in
theorem b_X1_measure_L2 {t : Nat} (ht : XC.1[t]? = some (.inl 1)) : ∀ (n : Nat) (y1 : Int32) (h : dH), B XC 2 RX1 cX1_measure 3 none fiV 2 [.ref t, .int y1, .null] [] h (f_X1_measure_L2 t n y1 h) := by
  intro n
  induction n with
  | zero =>
    intro y1 h
    exact B_none
  | succ n ih =>
    intro y1 h
    rw [f_X1_measure_L2]
    refine B_iload_n dX1_measure_2 rfl rfl ?_
    refine B_aload_n dX1_measure_3 rfl rfl ?_
    refine B_getI dX1_measure_4 fl_X1_29 ht rfl ?_
    refine C_icmp_ge (tgt := 77) dX1_measure_7 (by decide) (fun q1 => ?_) (fun q1 => ?_)
    · exact B_return dX1_measure_77 rfl rfl
    · refine B_iconst dX1_measure_10 ic_m1 ?_
      refine B_istore_n (ls' := [.ref t, .int y1, .int (-1)]) dX1_measure_11 rfl (Nat.le_of_ble_eq_true rfl) rfl rfl ?_
      exact b_X1_measure_L12 ht (fun qy1 qh => ih qy1 qh) dFu y1 (-1) h
def f_X1_measure (t : Nat) (h : dH) : Option (dH) :=
  f_X1_measure_L2 t dFu (-1) h
set_option maxRecDepth 20000 in
set_option maxHeartbeats 4000000 in
theorem t_X1_measure (t : Nat) (ht : XC.1[t]? = some (.inl 1)) (h : dH) : T XC 2 yX1_measure cX1_measure 3 none fiV [.ref t] h (f_X1_measure t h) := by
  refine T_of [.ref t, .null, .null] (by decide) (fun _ => rfl) (fun _ => Nat.le_of_ble_eq_true rfl) ?_
  show B XC 2 RX1 cX1_measure 3 none fiV 0 [.ref t, .null, .null] [] h (f_X1_measure t h)
  unfold f_X1_measure
  refine B_iconst dX1_measure_0 ic_m1 ?_
  refine B_istore_n (ls' := [.ref t, .int (-1), .null]) dX1_measure_1 rfl (Nat.le_of_ble_eq_true rfl) rfl rfl ?_
  exact b_X1_measure_L2 ht dFu (-1) h
def f_X1_copyFrom_L20 : Nat → Int32 → dH → Option (dH)
  | 0, _, _ => none
  | n + 1, y2, h =>
    if y2 < 7 then
    if dIn y2 7 then
    if dIn y2 7 then
    if dIn y2 7 then
    if dCk 0 0 5 5 5 then
    (some (dCpy h (25 + dI y2) (6 + dI y2) (dI 0) (dI 0) (dI 5))).bind fun h10 =>
    (f_X1_copyFrom_L20 n) (y2 + 1) h10
    else none
    else none
    else none
    else none
    else
    (some (dPut h 3 2 (h.1 22 2))).bind fun h3 =>
    (f_X1_measure 3 h3).bind fun h5 =>
    some h5
set_option maxRecDepth 20000 in
set_option maxHeartbeats 4000000 in
theorem b_X1_copyFrom_L20 : ∀ (n : Nat) (y2 : Int32) (h : dH), B XC 3 RX1 cX1_copyFrom 3 none fiV 20 [.ref 3, .ref 22, .int y2] [] h (f_X1_copyFrom_L20 n y2 h) := by
  intro n
  induction n with
  | zero =>
    intro y2 h
    exact B_none
  | succ n ih =>
    intro y2 h
    rw [f_X1_copyFrom_L20]
    refine B_iload_n dX1_copyFrom_20 rfl rfl ?_
    refine B_bipush dX1_copyFrom_21 bp_7 ?_
    refine C_icmp_ge (tgt := 56) dX1_copyFrom_23 (by decide) (fun q11 => ?_) (fun q11 => ?_)
    · refine B_aload_n dX1_copyFrom_56 rfl rfl ?_
      refine B_aload_n dX1_copyFrom_57 rfl rfl ?_
      refine B_getI dX1_copyFrom_58 fl_X1_29 shC_22 rfl ?_
      refine B_putI dX1_copyFrom_61 fl_X1_29 fw_X1_2 shC_3 rfl ?_
      refine B_lh (fun h3 => ?_)
      refine B_aload_n dX1_copyFrom_64 rfl rfl ?_
      refine B_VV (st := []) dX1_copyFrom_65 cl_X1_33 (t_X1_measure 3 shC_3 h3) (Nat.le_of_ble_eq_true rfl) shC_3 rfl rfl (Nat.le_of_ble_eq_true rfl) (fun h5 _ => ?_)
      exact B_return dX1_copyFrom_68 rfl rfl
    · refine B_aload_n dX1_copyFrom_26 rfl rfl ?_
      refine B_getR dX1_copyFrom_27 fl_X1_17 shC_22 rfl (rfC_22_1 _) ?_
      refine B_iload_n dX1_copyFrom_30 rfl rfl ?_
      refine C_chk (fun q6 => ?_)
      refine B_aald dX1_copyFrom_31 shC_24 q6 (rrC_24 _ q6) ?_
      refine B_iconst dX1_copyFrom_32 ic_0 ?_
      refine B_aload_n dX1_copyFrom_33 rfl rfl ?_
      refine B_getR dX1_copyFrom_34 fl_X1_17 shC_3 rfl (rfC_3_1 _) ?_
      refine B_iload_n dX1_copyFrom_37 rfl rfl ?_
      refine C_chk (fun q7 => ?_)
      refine B_aald dX1_copyFrom_38 shC_5 q7 (rrC_5 _ q7) ?_
      refine B_iconst dX1_copyFrom_39 ic_0 ?_
      refine B_aload_n dX1_copyFrom_40 rfl rfl ?_
      refine B_getR dX1_copyFrom_41 fl_X1_17 shC_3 rfl (rfC_3_1 _) ?_
      refine B_iload_n dX1_copyFrom_44 rfl rfl ?_
      refine C_chk (fun q8 => ?_)
      refine B_aald dX1_copyFrom_45 shC_5 q8 (rrC_5 _ q8) ?_
      refine B_alen (v := 5) dX1_copyFrom_46 (rowC_5 q8) (by decide) ?_
      refine C_chk (fun q9 => ?_)
      refine L_copy dX1_copyFrom_47 cp_X1_23 (Nat.le_of_ble_eq_true rfl) (Nat.le_of_ble_eq_true rfl) (rowC_24 q6) (rowC_5 q7) q9 ?_
      refine B_lh (fun h10 => ?_)
      refine B_iinc (w := (y2 + 1)) (ls' := [.ref 3, .ref 22, .int (y2 + 1)]) dX1_copyFrom_50 rfl (congrArg (fun z => y2 + z) ic_1) (Nat.le_of_ble_eq_true rfl) rfl rfl ?_
      refine B_goto (tgt := 20) dX1_copyFrom_53 (by decide) ?_
      exact ih (y2 + 1)  h10
def f_X1_copyFrom (h : dH) : Option (dH) :=
  if dCk 0 0 3 3 3 then
  (some (dCpy h 23 4 (dI 0) (dI 0) (dI 3))).bind fun h2 =>
  f_X1_copyFrom_L20 dFu 0 h2
  else none
set_option maxRecDepth 20000 in
set_option maxHeartbeats 4000000 in
theorem t_X1_copyFrom (h : dH) : T XC 3 yX1_copyFrom cX1_copyFrom 3 none fiV [.ref 3, .ref 22] h (f_X1_copyFrom h) := by
  refine T_of [.ref 3, .ref 22, .null] (by decide) (fun _ => rfl) (fun _ => Nat.le_of_ble_eq_true rfl) ?_
  show B XC 3 RX1 cX1_copyFrom 3 none fiV 0 [.ref 3, .ref 22, .null] [] h (f_X1_copyFrom h)
  unfold f_X1_copyFrom
  refine B_aload_n dX1_copyFrom_0 rfl rfl ?_
  refine B_getR dX1_copyFrom_1 fl_X1_9 shC_22 rfl (rfC_22_0 _) ?_
  refine B_iconst dX1_copyFrom_4 ic_0 ?_
  refine B_aload_n dX1_copyFrom_5 rfl rfl ?_
  refine B_getR dX1_copyFrom_6 fl_X1_9 shC_3 rfl (rfC_3_0 _) ?_
  refine B_iconst dX1_copyFrom_9 ic_0 ?_
  refine B_aload_n dX1_copyFrom_10 rfl rfl ?_
  refine B_getR dX1_copyFrom_11 fl_X1_9 shC_3 rfl (rfC_3_0 _) ?_
  refine B_alen (v := 3) dX1_copyFrom_14 shC_4 (by decide) ?_
  refine C_chk (fun q1 => ?_)
  refine L_copy dX1_copyFrom_15 cp_X1_23 (Nat.le_of_ble_eq_true rfl) (Nat.le_of_ble_eq_true rfl) shC_23 shC_4 q1 ?_
  refine B_lh (fun h2 => ?_)
  refine B_iconst dX1_copyFrom_18 ic_0 ?_
  refine B_istore_n (ls' := [.ref 3, .ref 22, .int 0]) dX1_copyFrom_19 rfl (Nat.le_of_ble_eq_true rfl) rfl rfl ?_
  exact b_X1_copyFrom_L20 dFu 0 h2
def f_X1_isThere (h : dH) : Bool :=
  if 0 < (h.1 3 2) then
  true
  else
  false
set_option maxRecDepth 20000 in
set_option maxHeartbeats 4000000 in
theorem t_X1_isThere (h : dH) : T XC 0 yX1_isThere cX1_isThere 1 (some .boolean) (fiB h) [.ref 3] h (some (f_X1_isThere h)) := by
  refine T_of [.ref 3] (by decide) (fun _ => rfl) (fun _ => Nat.le_of_ble_eq_true rfl) ?_
  show B XC 0 RX1 cX1_isThere 1 (some .boolean) (fiB h) 0 [.ref 3] [] h (some (f_X1_isThere h))
  unfold f_X1_isThere
  refine B_aload_n dX1_isThere_0 rfl rfl ?_
  refine B_getI dX1_isThere_1 fl_X1_29 shC_3 rfl ?_
  refine C_some ?_
  refine C_if_le (tgt := 11) dX1_isThere_4 (by decide) (fun q1 => ?_) (fun q1 => ?_)
  · refine B_iconst dX1_isThere_11 ic_0 ?_
    exact B_zreturn dX1_isThere_12 rfl rfl rfl
  · refine B_iconst dX1_isThere_7 ic_1 ?_
    refine B_goto (tgt := 12) dX1_isThere_8 (by decide) ?_
    exact B_zreturn dX1_isThere_12 rfl rfl rfl
def f_X1_isSet (x1 : Int32) (h : dH) : Bool :=
  if 0 < x1 then
  if x1 < (1 <<< ((h.1 3 2) &&& 31)) then
  true
  else
  false
  else
  false
set_option maxRecDepth 20000 in
set_option maxHeartbeats 4000000 in
theorem t_X1_isSet (x1 : Int32) (h : dH) : T XC 0 yX1_isSet cX1_isSet 2 (some .boolean) (fiB h) [.ref 3, .int x1] h (some (f_X1_isSet x1 h)) := by
  refine T_of [.ref 3, .int x1] (by decide) (fun _ => rfl) (fun _ => Nat.le_of_ble_eq_true rfl) ?_
  show B XC 0 RX1 cX1_isSet 2 (some .boolean) (fiB h) 0 [.ref 3, .int x1] [] h (some (f_X1_isSet x1 h))
  unfold f_X1_isSet
  refine B_iload_n dX1_isSet_0 rfl rfl ?_
  refine C_some ?_
  refine C_if_le (tgt := 18) dX1_isSet_1 (by decide) (fun q2 => ?_) (fun q2 => ?_)
  · refine B_iconst dX1_isSet_18 ic_0 ?_
    exact B_zreturn dX1_isSet_19 rfl rfl rfl
  · refine B_iload_n dX1_isSet_4 rfl rfl ?_
    refine B_iconst dX1_isSet_5 ic_1 ?_
    refine B_aload_n dX1_isSet_6 rfl rfl ?_
    refine B_getI dX1_isSet_7 fl_X1_29 shC_3 rfl ?_
    refine B_ishl dX1_isSet_10 ?_
    refine C_some ?_
    refine C_icmp_ge (tgt := 18) dX1_isSet_11 (by decide) (fun q1 => ?_) (fun q1 => ?_)
    · refine B_iconst dX1_isSet_18 ic_0 ?_
      exact B_zreturn dX1_isSet_19 rfl rfl rfl
    · refine B_iconst dX1_isSet_14 ic_1 ?_
      refine B_goto (tgt := 19) dX1_isSet_15 (by decide) ?_
      exact B_zreturn dX1_isSet_19 rfl rfl rfl
def f_X1_apart (t : Nat) (x1 : Int32) (x2 : Int32) (h : dH) : Option (Int32) :=
  if x1 < (-1) then
  some 0
  else
  if x1 < (h.1 t 2) then
  if x2 < (-1) then
  some 0
  else
  if x2 < (h.1 t 2) then
  if dIn (x1 + 1) 8 then
  if dIn (x2 + 1) 8 then
  some (h.1 (t + 11 + dI (x1 + 1)) (dI (x2 + 1)))
  else none
  else none
  else
  some 0
  else
  some 0
set_option maxRecDepth 20000 in
set_option maxHeartbeats 4000000 in
theorem t_X1_apart (t : Nat) (ht : XC.1[t]? = some (.inl 1)) (x1 : Int32) (x2 : Int32) (h : dH) : T XC 0 yX1_apart cX1_apart 3 (some .int) (fiP h) [.ref t, .int x1, .int x2] h (f_X1_apart t x1 x2 h) := by
  refine T_of [.ref t, .int x1, .int x2] (by decide) (fun _ => rfl) (fun _ => Nat.le_of_ble_eq_true rfl) ?_
  show B XC 0 RX1 cX1_apart 3 (some .int) (fiP h) 0 [.ref t, .int x1, .int x2] [] h (f_X1_apart t x1 x2 h)
  unfold f_X1_apart
  refine B_iload_n dX1_apart_0 rfl rfl ?_
  refine B_iconst dX1_apart_1 ic_m1 ?_
  refine C_icmp_lt (tgt := 41) dX1_apart_2 (by decide) (fun q6 => ?_) (fun q6 => ?_)
  · refine B_iconst dX1_apart_41 ic_0 ?_
    exact B_ireturn dX1_apart_42 rfl rfl
  · refine B_iload_n dX1_apart_5 rfl rfl ?_
    refine B_aload_n dX1_apart_6 rfl rfl ?_
    refine B_getI dX1_apart_7 fl_X1_29 ht rfl ?_
    refine C_icmp_ge (tgt := 41) dX1_apart_10 (by decide) (fun q5 => ?_) (fun q5 => ?_)
    · refine B_iconst dX1_apart_41 ic_0 ?_
      exact B_ireturn dX1_apart_42 rfl rfl
    · refine B_iload_n dX1_apart_13 rfl rfl ?_
      refine B_iconst dX1_apart_14 ic_m1 ?_
      refine C_icmp_lt (tgt := 41) dX1_apart_15 (by decide) (fun q4 => ?_) (fun q4 => ?_)
      · refine B_iconst dX1_apart_41 ic_0 ?_
        exact B_ireturn dX1_apart_42 rfl rfl
      · refine B_iload_n dX1_apart_18 rfl rfl ?_
        refine B_aload_n dX1_apart_19 rfl rfl ?_
        refine B_getI dX1_apart_20 fl_X1_29 ht rfl ?_
        refine C_icmp_ge (tgt := 41) dX1_apart_23 (by decide) (fun q3 => ?_) (fun q3 => ?_)
        · refine B_iconst dX1_apart_41 ic_0 ?_
          exact B_ireturn dX1_apart_42 rfl rfl
        · refine B_aload_n dX1_apart_26 rfl rfl ?_
          refine B_getR dX1_apart_27 fl_X1_20 ht rfl (rfX1_3 _ ht) ?_
          refine B_iload_n dX1_apart_30 rfl rfl ?_
          refine B_iconst dX1_apart_31 ic_1 ?_
          refine B_iadd dX1_apart_32 ?_
          refine C_chk (fun q1 => ?_)
          refine B_aald dX1_apart_33 (shX1_3 ht) q1 (rrX1_3 _ ht q1) ?_
          refine B_iload_n dX1_apart_34 rfl rfl ?_
          refine B_iconst dX1_apart_35 ic_1 ?_
          refine B_iadd dX1_apart_36 ?_
          refine C_chk (fun q2 => ?_)
          refine L_iald dX1_apart_37 (rowX1_3 ht q1) q2 rfl ?_
          refine B_goto (tgt := 42) dX1_apart_38 (by decide) ?_
          exact B_ireturn dX1_apart_42 rfl rfl
def f_X1_hasTwoInOne_L12 (t : Nat) (kL2 : Int32 → Option (Bool)) (h : dH) : Nat → Int32 → Int32 → Option (Bool)
  | 0, _, _ => none
  | n + 1, y1, y2 =>
    if y2 < y1 then
    (f_X1_apart t y1 y2 h).bind fun v2 =>
    if v2 = 0 then
    some true
    else
    (f_X1_hasTwoInOne_L12 t kL2 h n) y1 (y2 + 1)
    else
    kL2 (y1 + 1)
set_option maxRecDepth 20000 in
set_option maxHeartbeats 4000000 in
theorem b_X1_hasTwoInOne_L12 {t : Nat} {kL2 : Int32 → Option (Bool)} (ht : XC.1[t]? = some (.inl 1)) (h : dH) (hkL2 : ∀ (y1 : Int32), B XC 1 RX1 cX1_hasTwoInOne 3 (some .boolean) (fiB h) 2 [.ref t, .int y1, .null] [] h (kL2 y1)) : ∀ (n : Nat) (y1 : Int32) (y2 : Int32), B XC 1 RX1 cX1_hasTwoInOne 3 (some .boolean) (fiB h) 12 [.ref t, .int y1, .int y2] [] h (f_X1_hasTwoInOne_L12 t kL2 h n y1 y2) := by
  intro n
  induction n with
  | zero =>
    intro y1 y2
    exact B_none
  | succ n ih =>
    intro y1 y2
    rw [f_X1_hasTwoInOne_L12]
    refine B_iload_n dX1_hasTwoInOne_12 rfl rfl ?_
    refine B_iload_n dX1_hasTwoInOne_13 rfl rfl ?_
    refine C_icmp_ge (tgt := 34) dX1_hasTwoInOne_14 (by decide) (fun q4 => ?_) (fun q4 => ?_)
    · refine B_iinc (w := (y1 + 1)) (ls' := [.ref t, .int (y1 + 1), .int y2]) dX1_hasTwoInOne_34 rfl (congrArg (fun z => y1 + z) ic_1) (Nat.le_of_ble_eq_true rfl) rfl rfl ?_
      refine B_goto (tgt := 2) dX1_hasTwoInOne_37 (by decide) ?_
      refine B_drop 2 (ls' := [.ref t, .int (y1 + 1), .null]) rfl ?_
      exact hkL2 (y1 + 1)  
    · refine B_aload_n dX1_hasTwoInOne_17 rfl rfl ?_
      refine B_iload_n dX1_hasTwoInOne_18 rfl rfl ?_
      refine B_iload_n dX1_hasTwoInOne_19 rfl rfl ?_
      refine B_Vp (st := []) dX1_hasTwoInOne_20 cl_X1_50 (t_X1_apart t ht y1 y2 h) (Nat.le_of_ble_eq_true rfl) ht rfl rfl (Nat.le_of_ble_eq_true rfl) (fun v2 _ => ?_)
      refine C_if_ne (tgt := 28) dX1_hasTwoInOne_23 (by decide) (fun q3 => ?_) (fun q3 => ?_)
      · refine B_iinc (w := (y2 + 1)) (ls' := [.ref t, .int y1, .int (y2 + 1)]) dX1_hasTwoInOne_28 rfl (congrArg (fun z => y2 + z) ic_1) (Nat.le_of_ble_eq_true rfl) rfl rfl ?_
        refine B_goto (tgt := 12) dX1_hasTwoInOne_31 (by decide) ?_
        exact ih y1 (y2 + 1)  
      · refine B_iconst dX1_hasTwoInOne_26 ic_1 ?_
        exact B_zreturn dX1_hasTwoInOne_27 rfl rfl rfl
def f_X1_hasTwoInOne_L2 (t : Nat) (h : dH) : Nat → Int32 → Option (Bool)
  | 0, _ => none
  | n + 1, y1 =>
    if y1 < (h.1 t 2) then
    f_X1_hasTwoInOne_L12 t (f_X1_hasTwoInOne_L2 t h n) h dFu y1 0
    else
    some false
set_option maxRecDepth 20000 in
set_option maxHeartbeats 4000000 in
theorem b_X1_hasTwoInOne_L2 {t : Nat} (ht : XC.1[t]? = some (.inl 1)) (h : dH) : ∀ (n : Nat) (y1 : Int32), B XC 1 RX1 cX1_hasTwoInOne 3 (some .boolean) (fiB h) 2 [.ref t, .int y1, .null] [] h (f_X1_hasTwoInOne_L2 t h n y1) := by
  intro n
  induction n with
  | zero =>
    intro y1
    exact B_none
  | succ n ih =>
    intro y1
    rw [f_X1_hasTwoInOne_L2]
    refine B_iload_n dX1_hasTwoInOne_2 rfl rfl ?_
    refine B_aload_n dX1_hasTwoInOne_3 rfl rfl ?_
    refine B_getI dX1_hasTwoInOne_4 fl_X1_29 ht rfl ?_
    refine C_icmp_ge (tgt := 40) dX1_hasTwoInOne_7 (by decide) (fun q1 => ?_) (fun q1 => ?_)
    · refine B_iconst dX1_hasTwoInOne_40 ic_0 ?_
      exact B_zreturn dX1_hasTwoInOne_41 rfl rfl rfl
    · refine B_iconst dX1_hasTwoInOne_10 ic_0 ?_
      refine B_istore_n (ls' := [.ref t, .int y1, .int 0]) dX1_hasTwoInOne_11 rfl (Nat.le_of_ble_eq_true rfl) rfl rfl ?_
      exact b_X1_hasTwoInOne_L12 ht h (fun qy1 => ih qy1) dFu y1 0
def f_X1_hasTwoInOne (t : Nat) (h : dH) : Option (Bool) :=
  f_X1_hasTwoInOne_L2 t h dFu 0
set_option maxRecDepth 20000 in
set_option maxHeartbeats 4000000 in
theorem t_X1_hasTwoInOne (t : Nat) (ht : XC.1[t]? = some (.inl 1)) (h : dH) : T XC 1 yX1_hasTwoInOne cX1_hasTwoInOne 3 (some .boolean) (fiB h) [.ref t] h (f_X1_hasTwoInOne t h) := by
  refine T_of [.ref t, .null, .null] (by decide) (fun _ => rfl) (fun _ => Nat.le_of_ble_eq_true rfl) ?_
  show B XC 1 RX1 cX1_hasTwoInOne 3 (some .boolean) (fiB h) 0 [.ref t, .null, .null] [] h (f_X1_hasTwoInOne t h)
  unfold f_X1_hasTwoInOne
  refine B_iconst dX1_hasTwoInOne_0 ic_0 ?_
  refine B_istore_n (ls' := [.ref t, .int 0, .null]) dX1_hasTwoInOne_1 rfl (Nat.le_of_ble_eq_true rfl) rfl rfl ?_
  exact b_X1_hasTwoInOne_L2 ht h dFu 0
def f_X1_spread_L14 (kL4 : Int32 → Int32 → Option (Int32)) (h : dH) : Nat → Int32 → Int32 → Int32 → Option (Int32)
  | 0, _, _, _ => none
  | n + 1, y1, y2, y3 =>
    if y3 < y2 then
    (f_X1_apart 3 y2 y3 h).bind fun v2 =>
    (some ((jmax y1 v2))).bind fun v3 =>
    (f_X1_spread_L14 kL4 h n) v3 y2 (y3 + 1)
    else
    kL4 y1 (y2 + 1)
set_option maxRecDepth 20000 in
set_option maxHeartbeats 4000000 in
theorem b_X1_spread_L14 {kL4 : Int32 → Int32 → Option (Int32)} (h : dH) (hkL4 : ∀ (y1 : Int32) (y2 : Int32), B XC 1 RX1 cX1_spread 4 (some .int) (fiP h) 4 [.ref 3, .int y1, .int y2, .null] [] h (kL4 y1 y2)) : ∀ (n : Nat) (y1 : Int32) (y2 : Int32) (y3 : Int32), B XC 1 RX1 cX1_spread 4 (some .int) (fiP h) 14 [.ref 3, .int y1, .int y2, .int y3] [] h (f_X1_spread_L14 kL4 h n y1 y2 y3) := by
  intro n
  induction n with
  | zero =>
    intro y1 y2 y3
    exact B_none
  | succ n ih =>
    intro y1 y2 y3
    rw [f_X1_spread_L14]
    refine B_iload_n dX1_spread_14 rfl rfl ?_
    refine B_iload_n dX1_spread_15 rfl rfl ?_
    refine C_icmp_ge (tgt := 36) dX1_spread_16 (by decide) (fun q4 => ?_) (fun q4 => ?_)
    · refine B_iinc (w := (y2 + 1)) (ls' := [.ref 3, .int y1, .int (y2 + 1), .int y3]) dX1_spread_36 rfl (congrArg (fun z => y2 + z) ic_1) (Nat.le_of_ble_eq_true rfl) rfl rfl ?_
      refine B_goto (tgt := 4) dX1_spread_39 (by decide) ?_
      refine B_drop 3 (ls' := [.ref 3, .int y1, .int (y2 + 1), .null]) rfl ?_
      exact hkL4 y1 (y2 + 1)  
    · refine B_iload_n dX1_spread_19 rfl rfl ?_
      refine B_aload_n dX1_spread_20 rfl rfl ?_
      refine B_iload_n dX1_spread_21 rfl rfl ?_
      refine B_iload_n dX1_spread_22 rfl rfl ?_
      refine B_Vp (st := [.int y1]) dX1_spread_23 cl_X1_50 (t_X1_apart 3 shC_3 y2 y3 h) (Nat.le_of_ble_eq_true rfl) shC_3 rfl rfl (Nat.le_of_ble_eq_true rfl) (fun v2 _ => ?_)
      refine B_mmax dX1_spread_26 mt_X1_53 (Nat.le_of_ble_eq_true rfl) (Nat.le_of_ble_eq_true rfl) ?_
      refine B_lv (fun v3 => ?_)
      refine B_istore_n (ls' := [.ref 3, .int v3, .int y2, .int y3]) dX1_spread_29 rfl (Nat.le_of_ble_eq_true rfl) rfl rfl ?_
      refine B_iinc (w := (y3 + 1)) (ls' := [.ref 3, .int v3, .int y2, .int (y3 + 1)]) dX1_spread_30 rfl (congrArg (fun z => y3 + z) ic_1) (Nat.le_of_ble_eq_true rfl) rfl rfl ?_
      refine B_goto (tgt := 14) dX1_spread_33 (by decide) ?_
      exact ih v3 y2 (y3 + 1)  
def f_X1_spread_L4 (h : dH) : Nat → Int32 → Int32 → Option (Int32)
  | 0, _, _ => none
  | n + 1, y1, y2 =>
    if y2 < (h.1 3 2) then
    f_X1_spread_L14 (f_X1_spread_L4 h n) h dFu y1 y2 0
    else
    some y1
set_option maxRecDepth 20000 in
set_option maxHeartbeats 4000000 in
theorem b_X1_spread_L4 (h : dH) : ∀ (n : Nat) (y1 : Int32) (y2 : Int32), B XC 1 RX1 cX1_spread 4 (some .int) (fiP h) 4 [.ref 3, .int y1, .int y2, .null] [] h (f_X1_spread_L4 h n y1 y2) := by
  intro n
  induction n with
  | zero =>
    intro y1 y2
    exact B_none
  | succ n ih =>
    intro y1 y2
    rw [f_X1_spread_L4]
    refine B_iload_n dX1_spread_4 rfl rfl ?_
    refine B_aload_n dX1_spread_5 rfl rfl ?_
    refine B_getI dX1_spread_6 fl_X1_29 shC_3 rfl ?_
    refine C_icmp_ge (tgt := 42) dX1_spread_9 (by decide) (fun q1 => ?_) (fun q1 => ?_)
    · refine B_iload_n dX1_spread_42 rfl rfl ?_
      exact B_ireturn dX1_spread_43 rfl rfl
    · refine B_iconst dX1_spread_12 ic_0 ?_
      refine B_istore_n (ls' := [.ref 3, .int y1, .int y2, .int 0]) dX1_spread_13 rfl (Nat.le_of_ble_eq_true rfl) rfl rfl ?_
      exact b_X1_spread_L14 h (fun qy1 qy2 => ih qy1 qy2) dFu y1 y2 0
def f_X1_spread (h : dH) : Option (Int32) :=
  f_X1_spread_L4 h dFu 0 0
set_option maxRecDepth 20000 in
set_option maxHeartbeats 4000000 in
theorem t_X1_spread (h : dH) : T XC 1 yX1_spread cX1_spread 4 (some .int) (fiP h) [.ref 3] h (f_X1_spread h) := by
  refine T_of [.ref 3, .null, .null, .null] (by decide) (fun _ => rfl) (fun _ => Nat.le_of_ble_eq_true rfl) ?_
  show B XC 1 RX1 cX1_spread 4 (some .int) (fiP h) 0 [.ref 3, .null, .null, .null] [] h (f_X1_spread h)
  unfold f_X1_spread
  refine B_iconst dX1_spread_0 ic_0 ?_
  refine B_istore_n (ls' := [.ref 3, .int 0, .null, .null]) dX1_spread_1 rfl (Nat.le_of_ble_eq_true rfl) rfl rfl ?_
  refine B_iconst dX1_spread_2 ic_0 ?_
  refine B_istore_n (ls' := [.ref 3, .int 0, .int 0, .null]) dX1_spread_3 rfl (Nat.le_of_ble_eq_true rfl) rfl rfl ?_
  exact b_X1_spread_L4 h dFu 0 0
def f_X1_ofKind_J28 (kL4 : Int32 → Int32 → Int32 → Option (Int32)) (y1 : Int32) (y2 : Int32) (y3 : Int32) (h : dH) : Option (Int32) :=
  kL4 y1 y2 (y3 + 1)
set_option maxRecDepth 20000 in
set_option maxHeartbeats 4000000 in
theorem b_X1_ofKind_J28 {kL4 : Int32 → Int32 → Int32 → Option (Int32)} (h : dH) (hkL4 : ∀ (y1 : Int32) (y2 : Int32) (y3 : Int32), B XC 2 RX1 cX1_ofKind 4 (some .int) (fiP h) 4 [.ref 3, .int y1, .int y2, .int y3] [] h (kL4 y1 y2 y3)) (y1 : Int32) (y2 : Int32) (y3 : Int32) : B XC 2 RX1 cX1_ofKind 4 (some .int) (fiP h) 28 [.ref 3, .int y1, .int y2, .int y3] [] h (f_X1_ofKind_J28 kL4 y1 y2 y3 h) := by
  unfold f_X1_ofKind_J28
  refine B_iinc (w := (y3 + 1)) (ls' := [.ref 3, .int y1, .int y2, .int (y3 + 1)]) dX1_ofKind_28 rfl (congrArg (fun z => y3 + z) ic_1) (Nat.le_of_ble_eq_true rfl) rfl rfl ?_
  refine B_goto (tgt := 4) dX1_ofKind_31 (by decide) ?_
  exact hkL4 y1 y2 (y3 + 1)  
def f_X1_ofKind_L4 (h : dH) : Nat → Int32 → Int32 → Int32 → Option (Int32)
  | 0, _, _, _ => none
  | n + 1, y1, y2, y3 =>
    if y3 < (h.1 3 2) then
    (f_X1_toldOf 3 y3 2 h).bind fun v1 =>
    if v1 = y1 then
    (some ((y2 ||| (1 <<< (y3 &&& 31))))).bind fun v2 =>
    f_X1_ofKind_J28 (f_X1_ofKind_L4 h n) y1 v2 y3 h
    else
    f_X1_ofKind_J28 (f_X1_ofKind_L4 h n) y1 y2 y3 h
    else
    some y2
set_option maxRecDepth 20000 in
set_option maxHeartbeats 4000000 in
theorem b_X1_ofKind_L4 (h : dH) : ∀ (n : Nat) (y1 : Int32) (y2 : Int32) (y3 : Int32), B XC 2 RX1 cX1_ofKind 4 (some .int) (fiP h) 4 [.ref 3, .int y1, .int y2, .int y3] [] h (f_X1_ofKind_L4 h n y1 y2 y3) := by
  intro n
  induction n with
  | zero =>
    intro y1 y2 y3
    exact B_none
  | succ n ih =>
    intro y1 y2 y3
    rw [f_X1_ofKind_L4]
    refine B_iload_n dX1_ofKind_4 rfl rfl ?_
    refine B_aload_n dX1_ofKind_5 rfl rfl ?_
    refine B_getI dX1_ofKind_6 fl_X1_29 shC_3 rfl ?_
    refine C_icmp_ge (tgt := 34) dX1_ofKind_9 (by decide) (fun q4 => ?_) (fun q4 => ?_)
    · refine B_iload_n dX1_ofKind_34 rfl rfl ?_
      exact B_ireturn dX1_ofKind_35 rfl rfl
    · refine B_aload_n dX1_ofKind_12 rfl rfl ?_
      refine B_iload_n dX1_ofKind_13 rfl rfl ?_
      refine B_iconst dX1_ofKind_14 ic_2 ?_
      refine B_Vp (st := []) dX1_ofKind_15 cl_X1_36 (t_X1_toldOf 3 shC_3 y3 2 h) (Nat.le_of_ble_eq_true rfl) shC_3 rfl rfl (Nat.le_of_ble_eq_true rfl) (fun v1 _ => ?_)
      refine B_iload_n dX1_ofKind_18 rfl rfl ?_
      refine C_icmp_ne (tgt := 28) dX1_ofKind_19 (by decide) (fun q3 => ?_) (fun q3 => ?_)
      · exact b_X1_ofKind_J28 h (fun qy1 qy2 qy3 => ih qy1 qy2 qy3) y1 y2 y3
      · refine B_iload_n dX1_ofKind_22 rfl rfl ?_
        refine B_iconst dX1_ofKind_23 ic_1 ?_
        refine B_iload_n dX1_ofKind_24 rfl rfl ?_
        refine B_ishl dX1_ofKind_25 ?_
        refine B_ior dX1_ofKind_26 ?_
        refine B_lv (fun v2 => ?_)
        refine B_istore_n (ls' := [.ref 3, .int y1, .int v2, .int y3]) dX1_ofKind_27 rfl (Nat.le_of_ble_eq_true rfl) rfl rfl ?_
        exact b_X1_ofKind_J28 h (fun qy1 qy2 qy3 => ih qy1 qy2 qy3) y1 v2 y3
def f_X1_ofKind (x1 : Int32) (h : dH) : Option (Int32) :=
  f_X1_ofKind_L4 h dFu x1 0 0
set_option maxRecDepth 20000 in
set_option maxHeartbeats 4000000 in
theorem t_X1_ofKind (x1 : Int32) (h : dH) : T XC 2 yX1_ofKind cX1_ofKind 4 (some .int) (fiP h) [.ref 3, .int x1] h (f_X1_ofKind x1 h) := by
  refine T_of [.ref 3, .int x1, .null, .null] (by decide) (fun _ => rfl) (fun _ => Nat.le_of_ble_eq_true rfl) ?_
  show B XC 2 RX1 cX1_ofKind 4 (some .int) (fiP h) 0 [.ref 3, .int x1, .null, .null] [] h (f_X1_ofKind x1 h)
  unfold f_X1_ofKind
  refine B_iconst dX1_ofKind_0 ic_0 ?_
  refine B_istore_n (ls' := [.ref 3, .int x1, .int 0, .null]) dX1_ofKind_1 rfl (Nat.le_of_ble_eq_true rfl) rfl rfl ?_
  refine B_iconst dX1_ofKind_2 ic_0 ?_
  refine B_istore_n (ls' := [.ref 3, .int x1, .int 0, .int 0]) dX1_ofKind_3 rfl (Nat.le_of_ble_eq_true rfl) rfl rfl ?_
  exact b_X1_ofKind_L4 h dFu x1 0 0
def f_X1_roundComes_J61 (kL7 : Int32 → Int32 → Int32 → Int32 → Option (Int32)) (kL16 : Int32 → Int32 → Int32 → Int32 → Int32 → Option (Int32)) (y1 : Int32) (y2 : Int32) (y3 : Int32) (y4 : Int32) (y5 : Int32) (h : dH) : Option (Int32) :=
  kL16 y1 y2 y3 y4 (y5 + 1)
set_option maxRecDepth 20000 in
set_option maxHeartbeats 4000000 in
theorem b_X1_roundComes_J61 {kL7 : Int32 → Int32 → Int32 → Int32 → Option (Int32)} {kL16 : Int32 → Int32 → Int32 → Int32 → Int32 → Option (Int32)} (h : dH) (hkL7 : ∀ (y1 : Int32) (y2 : Int32) (y3 : Int32) (y4 : Int32), B XC 2 RX1 cX1_roundComes 6 (some .int) (fiP h) 7 [.ref 3, .int y1, .int y2, .int y3, .int y4, .null] [] h (kL7 y1 y2 y3 y4)) (hkL16 : ∀ (y1 : Int32) (y2 : Int32) (y3 : Int32) (y4 : Int32) (y5 : Int32), B XC 2 RX1 cX1_roundComes 6 (some .int) (fiP h) 16 [.ref 3, .int y1, .int y2, .int y3, .int y4, .int y5] [] h (kL16 y1 y2 y3 y4 y5)) (y1 : Int32) (y2 : Int32) (y3 : Int32) (y4 : Int32) (y5 : Int32) : B XC 2 RX1 cX1_roundComes 6 (some .int) (fiP h) 61 [.ref 3, .int y1, .int y2, .int y3, .int y4, .int y5] [] h (f_X1_roundComes_J61 kL7 kL16 y1 y2 y3 y4 y5 h) := by
  unfold f_X1_roundComes_J61
  refine B_iinc (w := (y5 + 1)) (ls' := [.ref 3, .int y1, .int y2, .int y3, .int y4, .int (y5 + 1)]) dX1_roundComes_61 rfl (congrArg (fun z => y5 + z) ic_1) (Nat.le_of_ble_eq_true rfl) rfl rfl ?_
  refine B_goto (tgt := 16) dX1_roundComes_64 (by decide) ?_
  exact hkL16 y1 y2 y3 y4 (y5 + 1)  
def f_X1_roundComes_L16 (kL7 : Int32 → Int32 → Int32 → Int32 → Option (Int32)) (h : dH) : Nat → Int32 → Int32 → Int32 → Int32 → Int32 → Option (Int32)
  | 0, _, _, _, _, _ => none
  | n + 1, y1, y2, y3, y4, y5 =>
    if y5 < (h.1 3 2) then
    (f_X1_toldOf 3 y5 2 h).bind fun v2 =>
    if v2 = y4 then
    (f_X1_apart 3 y3 y5 h).bind fun v3 =>
    if y5 = y1 then
    some (y2 + v3)
    else
    f_X1_roundComes_J61 kL7 (f_X1_roundComes_L16 kL7 h n) y1 ((y2 + v3) + 2) y5 y4 y5 h
    else
    f_X1_roundComes_J61 kL7 (f_X1_roundComes_L16 kL7 h n) y1 y2 y3 y4 y5 h
    else
    kL7 y1 y2 y3 (y4 + 1)
set_option maxRecDepth 20000 in
set_option maxHeartbeats 4000000 in
theorem b_X1_roundComes_L16 {kL7 : Int32 → Int32 → Int32 → Int32 → Option (Int32)} (h : dH) (hkL7 : ∀ (y1 : Int32) (y2 : Int32) (y3 : Int32) (y4 : Int32), B XC 2 RX1 cX1_roundComes 6 (some .int) (fiP h) 7 [.ref 3, .int y1, .int y2, .int y3, .int y4, .null] [] h (kL7 y1 y2 y3 y4)) : ∀ (n : Nat) (y1 : Int32) (y2 : Int32) (y3 : Int32) (y4 : Int32) (y5 : Int32), B XC 2 RX1 cX1_roundComes 6 (some .int) (fiP h) 16 [.ref 3, .int y1, .int y2, .int y3, .int y4, .int y5] [] h (f_X1_roundComes_L16 kL7 h n y1 y2 y3 y4 y5) := by
  intro n
  induction n with
  | zero =>
    intro y1 y2 y3 y4 y5
    exact B_none
  | succ n ih =>
    intro y1 y2 y3 y4 y5
    rw [f_X1_roundComes_L16]
    refine B_iload dX1_roundComes_16 rfl ?_
    refine B_aload_n dX1_roundComes_18 rfl rfl ?_
    refine B_getI dX1_roundComes_19 fl_X1_29 shC_3 rfl ?_
    refine C_icmp_ge (tgt := 67) dX1_roundComes_22 (by decide) (fun q6 => ?_) (fun q6 => ?_)
    · refine B_iinc (w := (y4 + 1)) (ls' := [.ref 3, .int y1, .int y2, .int y3, .int (y4 + 1), .int y5]) dX1_roundComes_67 rfl (congrArg (fun z => y4 + z) ic_1) (Nat.le_of_ble_eq_true rfl) rfl rfl ?_
      refine B_goto (tgt := 7) dX1_roundComes_70 (by decide) ?_
      refine B_drop 5 (ls' := [.ref 3, .int y1, .int y2, .int y3, .int (y4 + 1), .null]) rfl ?_
      exact hkL7 y1 y2 y3 (y4 + 1)  
    · refine B_aload_n dX1_roundComes_25 rfl rfl ?_
      refine B_iload dX1_roundComes_26 rfl ?_
      refine B_iconst dX1_roundComes_28 ic_2 ?_
      refine B_Vp (st := []) dX1_roundComes_29 cl_X1_36 (t_X1_toldOf 3 shC_3 y5 2 h) (Nat.le_of_ble_eq_true rfl) shC_3 rfl rfl (Nat.le_of_ble_eq_true rfl) (fun v2 _ => ?_)
      refine B_iload dX1_roundComes_32 rfl ?_
      refine C_icmp_ne (tgt := 61) dX1_roundComes_34 (by decide) (fun q5 => ?_) (fun q5 => ?_)
      · exact b_X1_roundComes_J61 h hkL7 (fun qy1 qy2 qy3 qy4 qy5 => ih qy1 qy2 qy3 qy4 qy5) y1 y2 y3 y4 y5
      · refine B_iload_n dX1_roundComes_37 rfl rfl ?_
        refine B_aload_n dX1_roundComes_38 rfl rfl ?_
        refine B_iload_n dX1_roundComes_39 rfl rfl ?_
        refine B_iload dX1_roundComes_40 rfl ?_
        refine B_Vp (st := [.int y2]) dX1_roundComes_42 cl_X1_50 (t_X1_apart 3 shC_3 y3 y5 h) (Nat.le_of_ble_eq_true rfl) shC_3 rfl rfl (Nat.le_of_ble_eq_true rfl) (fun v3 _ => ?_)
        refine B_iadd dX1_roundComes_45 ?_
        refine B_istore_n (ls' := [.ref 3, .int y1, .int (y2 + v3), .int y3, .int y4, .int y5]) dX1_roundComes_46 rfl (Nat.le_of_ble_eq_true rfl) rfl rfl ?_
        refine B_iload dX1_roundComes_47 rfl ?_
        refine B_iload_n dX1_roundComes_49 rfl rfl ?_
        refine C_icmp_ne (tgt := 55) dX1_roundComes_50 (by decide) (fun q4 => ?_) (fun q4 => ?_)
        · refine B_iinc (w := ((y2 + v3) + 2)) (ls' := [.ref 3, .int y1, .int ((y2 + v3) + 2), .int y3, .int y4, .int y5]) dX1_roundComes_55 rfl (congrArg (fun z => (y2 + v3) + z) ic_2) (Nat.le_of_ble_eq_true rfl) rfl rfl ?_
          refine B_iload dX1_roundComes_58 rfl ?_
          refine B_istore_n (ls' := [.ref 3, .int y1, .int ((y2 + v3) + 2), .int y5, .int y4, .int y5]) dX1_roundComes_60 rfl (Nat.le_of_ble_eq_true rfl) rfl rfl ?_
          exact b_X1_roundComes_J61 h hkL7 (fun qy1 qy2 qy3 qy4 qy5 => ih qy1 qy2 qy3 qy4 qy5) y1 ((y2 + v3) + 2) y5 y4 y5
        · refine B_iload_n dX1_roundComes_53 rfl rfl ?_
          exact B_ireturn dX1_roundComes_54 rfl rfl
def f_X1_roundComes_L7 (h : dH) : Nat → Int32 → Int32 → Int32 → Int32 → Option (Int32)
  | 0, _, _, _, _ => none
  | n + 1, y1, y2, y3, y4 =>
    if y4 < 4 then
    f_X1_roundComes_L16 (f_X1_roundComes_L7 h n) h dFu y1 y2 y3 y4 0
    else
    some (-1)
set_option maxRecDepth 20000 in
set_option maxHeartbeats 4000000 in
theorem b_X1_roundComes_L7 (h : dH) : ∀ (n : Nat) (y1 : Int32) (y2 : Int32) (y3 : Int32) (y4 : Int32), B XC 2 RX1 cX1_roundComes 6 (some .int) (fiP h) 7 [.ref 3, .int y1, .int y2, .int y3, .int y4, .null] [] h (f_X1_roundComes_L7 h n y1 y2 y3 y4) := by
  intro n
  induction n with
  | zero =>
    intro y1 y2 y3 y4
    exact B_none
  | succ n ih =>
    intro y1 y2 y3 y4
    rw [f_X1_roundComes_L7]
    refine B_iload dX1_roundComes_7 rfl ?_
    refine B_iconst dX1_roundComes_9 ic_4 ?_
    refine C_icmp_ge (tgt := 73) dX1_roundComes_10 (by decide) (fun q1 => ?_) (fun q1 => ?_)
    · refine B_iconst dX1_roundComes_73 ic_m1 ?_
      exact B_ireturn dX1_roundComes_74 rfl rfl
    · refine B_iconst dX1_roundComes_13 ic_0 ?_
      refine B_istore (ls' := [.ref 3, .int y1, .int y2, .int y3, .int y4, .int 0]) dX1_roundComes_14 (Nat.le_of_ble_eq_true rfl) rfl rfl ?_
      exact b_X1_roundComes_L16 h (fun qy1 qy2 qy3 qy4 => ih qy1 qy2 qy3 qy4) dFu y1 y2 y3 y4 0
def f_X1_roundComes (x1 : Int32) (h : dH) : Option (Int32) :=
  f_X1_roundComes_L7 h dFu x1 0 (-1) 0
set_option maxRecDepth 20000 in
set_option maxHeartbeats 4000000 in
theorem t_X1_roundComes (x1 : Int32) (h : dH) : T XC 2 yX1_roundComes cX1_roundComes 6 (some .int) (fiP h) [.ref 3, .int x1] h (f_X1_roundComes x1 h) := by
  refine T_of [.ref 3, .int x1, .null, .null, .null, .null] (by decide) (fun _ => rfl) (fun _ => Nat.le_of_ble_eq_true rfl) ?_
  show B XC 2 RX1 cX1_roundComes 6 (some .int) (fiP h) 0 [.ref 3, .int x1, .null, .null, .null, .null] [] h (f_X1_roundComes x1 h)
  unfold f_X1_roundComes
  refine B_iconst dX1_roundComes_0 ic_0 ?_
  refine B_istore_n (ls' := [.ref 3, .int x1, .int 0, .null, .null, .null]) dX1_roundComes_1 rfl (Nat.le_of_ble_eq_true rfl) rfl rfl ?_
  refine B_iconst dX1_roundComes_2 ic_m1 ?_
  refine B_istore_n (ls' := [.ref 3, .int x1, .int 0, .int (-1), .null, .null]) dX1_roundComes_3 rfl (Nat.le_of_ble_eq_true rfl) rfl rfl ?_
  refine B_iconst dX1_roundComes_4 ic_0 ?_
  refine B_istore (ls' := [.ref 3, .int x1, .int 0, .int (-1), .int 0, .null]) dX1_roundComes_5 (Nat.le_of_ble_eq_true rfl) rfl rfl ?_
  exact b_X1_roundComes_L7 h dFu x1 0 (-1) 0
def f_X9_sign_J38 (h : dH) : Option (Int32 × dH) :=
  if (h.1 1 2) < (h.1 1 1) then
  if dIn (h.1 1 2) 240 then
  some ((h.1 2 (dI (h.1 1 2))), h)
  else none
  else
  some ((-1), h)
set_option maxRecDepth 20000 in
set_option maxHeartbeats 4000000 in
theorem b_X9_sign_J38 (h : dH) : B XC 0 RX9 cX9_sign 1 (some .int) fiI 38 [.ref 1] [] h (f_X9_sign_J38 h) := by
  unfold f_X9_sign_J38
  refine B_aload_n dX9_sign_38 rfl rfl ?_
  refine B_getI dX9_sign_39 fl_X9_19 shC_1 rfl ?_
  refine B_aload_n dX9_sign_42 rfl rfl ?_
  refine B_getI dX9_sign_43 fl_X9_15 shC_1 rfl ?_
  refine C_icmp_ge (tgt := 61) dX9_sign_46 (by decide) (fun q6 => ?_) (fun q6 => ?_)
  · refine B_iconst dX9_sign_61 ic_m1 ?_
    exact B_ireturn dX9_sign_62 rfl rfl
  · refine B_aload_n dX9_sign_49 rfl rfl ?_
    refine B_getR dX9_sign_50 fl_X9_9 shC_1 rfl (rfC_1_0 _) ?_
    refine B_aload_n dX9_sign_53 rfl rfl ?_
    refine B_getI dX9_sign_54 fl_X9_19 shC_1 rfl ?_
    refine C_chk (fun q5 => ?_)
    refine L_iald dX9_sign_57 shC_2 q5 rfl ?_
    refine B_goto (tgt := 62) dX9_sign_58 (by decide) ?_
    exact B_ireturn dX9_sign_62 rfl rfl
def f_X9_sign_L0 : Nat → dH → Option (Int32 × dH)
  | 0, _ => none
  | n + 1, h =>
    if (h.1 1 2) < (h.1 1 1) then
    if dIn (h.1 1 2) 240 then
    if (h.1 2 (dI (h.1 1 2))) = 32 then
    (some (dPut h 1 2 ((h.1 1 2) + 1))).bind fun h8 =>
    (f_X9_sign_L0 n) h8
    else
    f_X9_sign_J38 h
    else none
    else
    f_X9_sign_J38 h
set_option maxRecDepth 20000 in
set_option maxHeartbeats 4000000 in
theorem b_X9_sign_L0 : ∀ (n : Nat) (h : dH), B XC 0 RX9 cX9_sign 1 (some .int) fiI 0 [.ref 1] [] h (f_X9_sign_L0 n h) := by
  intro n
  induction n with
  | zero =>
    intro h
    exact B_none
  | succ n ih =>
    intro h
    rw [f_X9_sign_L0]
    refine B_aload_n dX9_sign_0 rfl rfl ?_
    refine B_getI dX9_sign_1 fl_X9_19 shC_1 rfl ?_
    refine B_aload_n dX9_sign_4 rfl rfl ?_
    refine B_getI dX9_sign_5 fl_X9_15 shC_1 rfl ?_
    refine C_icmp_ge (tgt := 38) dX9_sign_8 (by decide) (fun q10 => ?_) (fun q10 => ?_)
    · exact b_X9_sign_J38 h
    · refine B_aload_n dX9_sign_11 rfl rfl ?_
      refine B_getR dX9_sign_12 fl_X9_9 shC_1 rfl (rfC_1_0 _) ?_
      refine B_aload_n dX9_sign_15 rfl rfl ?_
      refine B_getI dX9_sign_16 fl_X9_19 shC_1 rfl ?_
      refine C_chk (fun q7 => ?_)
      refine L_iald dX9_sign_19 shC_2 q7 rfl ?_
      refine B_bipush dX9_sign_20 bp_32 ?_
      refine C_icmp_ne (tgt := 38) dX9_sign_22 (by decide) (fun q9 => ?_) (fun q9 => ?_)
      · exact b_X9_sign_J38 h
      · refine B_aload_n dX9_sign_25 rfl rfl ?_
        refine B_dup dX9_sign_26 rfl ?_
        refine B_getI dX9_sign_27 fl_X9_19 shC_1 rfl ?_
        refine B_iconst dX9_sign_30 ic_1 ?_
        refine B_iadd dX9_sign_31 ?_
        refine B_putI dX9_sign_32 fl_X9_19 fw_X9_2 shC_1 rfl ?_
        refine B_lh (fun h8 => ?_)
        refine B_goto (tgt := 0) dX9_sign_35 (by decide) ?_
        exact ih   h8
def f_X9_sign (h : dH) : Option (Int32 × dH) :=
  if (h.1 1 2) < (h.1 1 1) then
  if dIn (h.1 1 2) 240 then
  if (h.1 2 (dI (h.1 1 2))) = 32 then
  (some (dPut h 1 2 ((h.1 1 2) + 1))).bind fun h2 =>
  f_X9_sign_L0 dFu h2
  else
  f_X9_sign_J38 h
  else none
  else
  f_X9_sign_J38 h
set_option maxRecDepth 20000 in
set_option maxHeartbeats 4000000 in
theorem t_X9_sign (h : dH) : T XC 0 yX9_sign cX9_sign 1 (some .int) fiI [.ref 1] h (f_X9_sign h) := by
  refine T_of [.ref 1] (by decide) (fun _ => rfl) (fun _ => Nat.le_of_ble_eq_true rfl) ?_
  show B XC 0 RX9 cX9_sign 1 (some .int) fiI 0 [.ref 1] [] h (f_X9_sign h)
  unfold f_X9_sign
  refine B_aload_n dX9_sign_0 rfl rfl ?_
  refine B_getI dX9_sign_1 fl_X9_19 shC_1 rfl ?_
  refine B_aload_n dX9_sign_4 rfl rfl ?_
  refine B_getI dX9_sign_5 fl_X9_15 shC_1 rfl ?_
  refine C_icmp_ge (tgt := 38) dX9_sign_8 (by decide) (fun q4 => ?_) (fun q4 => ?_)
  · exact b_X9_sign_J38 h
  · refine B_aload_n dX9_sign_11 rfl rfl ?_
    refine B_getR dX9_sign_12 fl_X9_9 shC_1 rfl (rfC_1_0 _) ?_
    refine B_aload_n dX9_sign_15 rfl rfl ?_
    refine B_getI dX9_sign_16 fl_X9_19 shC_1 rfl ?_
    refine C_chk (fun q1 => ?_)
    refine L_iald dX9_sign_19 shC_2 q1 rfl ?_
    refine B_bipush dX9_sign_20 bp_32 ?_
    refine C_icmp_ne (tgt := 38) dX9_sign_22 (by decide) (fun q3 => ?_) (fun q3 => ?_)
    · exact b_X9_sign_J38 h
    · refine B_aload_n dX9_sign_25 rfl rfl ?_
      refine B_dup dX9_sign_26 rfl ?_
      refine B_getI dX9_sign_27 fl_X9_19 shC_1 rfl ?_
      refine B_iconst dX9_sign_30 ic_1 ?_
      refine B_iadd dX9_sign_31 ?_
      refine B_putI dX9_sign_32 fl_X9_19 fw_X9_2 shC_1 rfl ?_
      refine B_lh (fun h2 => ?_)
      refine B_goto (tgt := 0) dX9_sign_35 (by decide) ?_
      exact b_X9_sign_L0 dFu h2
def f_X9_isDigit (x0 : Int32) (h : dH) : Bool :=
  if x0 < 48 then
  false
  else
  if 57 < x0 then
  false
  else
  true
set_option maxRecDepth 20000 in
set_option maxHeartbeats 4000000 in
theorem t_X9_isDigit (x0 : Int32) (h : dH) : T XC 0 yX9_isDigit cX9_isDigit 1 (some .boolean) (fiB h) [.int x0] h (some (f_X9_isDigit x0 h)) := by
  refine T_of [.int x0] (by decide) (fun _ => rfl) (fun _ => Nat.le_of_ble_eq_true rfl) ?_
  show B XC 0 RX9 cX9_isDigit 1 (some .boolean) (fiB h) 0 [.int x0] [] h (some (f_X9_isDigit x0 h))
  unfold f_X9_isDigit
  refine B_iload_n dX9_isDigit_0 rfl rfl ?_
  refine B_bipush dX9_isDigit_1 bp_48 ?_
  refine C_some ?_
  refine C_icmp_lt (tgt := 16) dX9_isDigit_3 (by decide) (fun q2 => ?_) (fun q2 => ?_)
  · refine B_iconst dX9_isDigit_16 ic_0 ?_
    exact B_zreturn dX9_isDigit_17 rfl rfl rfl
  · refine B_iload_n dX9_isDigit_6 rfl rfl ?_
    refine B_bipush dX9_isDigit_7 bp_57 ?_
    refine C_some ?_
    refine C_icmp_gt (tgt := 16) dX9_isDigit_9 (by decide) (fun q1 => ?_) (fun q1 => ?_)
    · refine B_iconst dX9_isDigit_16 ic_0 ?_
      exact B_zreturn dX9_isDigit_17 rfl rfl rfl
    · refine B_iconst dX9_isDigit_12 ic_1 ?_
      refine B_goto (tgt := 17) dX9_isDigit_13 (by decide) ?_
      exact B_zreturn dX9_isDigit_17 rfl rfl rfl
def f_X9_readNumber_J110 (h : dH) : Option (Bool × dH) :=
  some (false, (dPut h 1 2 ((h.1 1 2) - 1)))
set_option maxRecDepth 20000 in
set_option maxHeartbeats 4000000 in
theorem b_X9_readNumber_J110 (h : dH) : B XC 1 RX9 cX9_readNumber 5 (some .boolean) fiC 110 [.ref 1, .null, .null, .null, .null] [] h (f_X9_readNumber_J110 h) := by
  unfold f_X9_readNumber_J110
  refine B_aload_n dX9_readNumber_110 rfl rfl ?_
  refine B_dup dX9_readNumber_111 rfl ?_
  refine B_getI dX9_readNumber_112 fl_X9_19 shC_1 rfl ?_
  refine B_iconst dX9_readNumber_115 ic_1 ?_
  refine B_isub dX9_readNumber_116 ?_
  refine B_putI dX9_readNumber_117 fl_X9_19 fw_X9_2 shC_1 rfl ?_
  refine B_iconst dX9_readNumber_120 ic_0 ?_
  exact B_zreturn dX9_readNumber_121 rfl rfl rfl
def f_X9_readNumber_J87 (y2 : Int32) (y3 : Int32) (y4 : Int32) (h : dH) : Option (Bool × dH) :=
  if y4 = 0 then
  some (false, h)
  else
  if (h.1 1 3) < y2 then
  f_X9_readNumber_J110 h
  else
  if y3 < (h.1 1 3) then
  f_X9_readNumber_J110 h
  else
  some (true, h)
set_option maxRecDepth 20000 in
set_option maxHeartbeats 4000000 in
theorem b_X9_readNumber_J87 (y2 : Int32) (y3 : Int32) (y4 : Int32) (h : dH) : B XC 1 RX9 cX9_readNumber 5 (some .boolean) fiC 87 [.ref 1, .null, .int y2, .int y3, .int y4] [] h (f_X9_readNumber_J87 y2 y3 y4 h) := by
  unfold f_X9_readNumber_J87
  refine B_iload dX9_readNumber_87 rfl ?_
  refine C_if_ne (tgt := 94) dX9_readNumber_89 (by decide) (fun q13 => ?_) (fun q13 => ?_)
  · refine B_aload_n dX9_readNumber_94 rfl rfl ?_
    refine B_getI dX9_readNumber_95 fl_X9_26 shC_1 rfl ?_
    refine B_iload_n dX9_readNumber_98 rfl rfl ?_
    refine C_icmp_lt (tgt := 110) dX9_readNumber_99 (by decide) (fun q12 => ?_) (fun q12 => ?_)
    · refine B_drop 2 (ls' := [.ref 1, .null, .null, .int y3, .int y4]) rfl ?_
      refine B_drop 3 (ls' := [.ref 1, .null, .null, .null, .int y4]) rfl ?_
      refine B_drop 4 (ls' := [.ref 1, .null, .null, .null, .null]) rfl ?_
      exact b_X9_readNumber_J110 h
    · refine B_aload_n dX9_readNumber_102 rfl rfl ?_
      refine B_getI dX9_readNumber_103 fl_X9_26 shC_1 rfl ?_
      refine B_iload_n dX9_readNumber_106 rfl rfl ?_
      refine C_icmp_le (tgt := 122) dX9_readNumber_107 (by decide) (fun q11 => ?_) (fun q11 => ?_)
      · refine B_iconst dX9_readNumber_122 ic_1 ?_
        exact B_zreturn dX9_readNumber_123 rfl rfl rfl
      · refine B_drop 2 (ls' := [.ref 1, .null, .null, .int y3, .int y4]) rfl ?_
        refine B_drop 3 (ls' := [.ref 1, .null, .null, .null, .int y4]) rfl ?_
        refine B_drop 4 (ls' := [.ref 1, .null, .null, .null, .null]) rfl ?_
        exact b_X9_readNumber_J110 h
  · refine B_iconst dX9_readNumber_92 ic_0 ?_
    exact B_zreturn dX9_readNumber_93 rfl rfl rfl
def f_X9_readNumber_L13 : Nat → Int32 → Int32 → Int32 → Int32 → dH → Option (Bool × dH)
  | 0, _, _, _, _, _ => none
  | n + 1, y1, y2, y3, y4, h =>
    if (h.1 1 2) < (h.1 1 1) then
    if dIn (h.1 1 2) 240 then
    if (f_X9_isDigit (h.1 2 (dI (h.1 1 2))) h) then
    if y4 = y1 then
    some (false, h)
    else
    if dIn (h.1 1 2) 240 then
    (some (dPut h 1 3 ((((h.1 1 3) * 10) + (h.1 2 (dI (h.1 1 2)))) - 48))).bind fun h6 =>
    (some (dPut h6 1 2 ((h6.1 1 2) + 1))).bind fun h7 =>
    (f_X9_readNumber_L13 n) y1 y2 y3 (y4 + 1) h7
    else none
    else
    f_X9_readNumber_J87 y2 y3 y4 h
    else none
    else
    f_X9_readNumber_J87 y2 y3 y4 h
set_option maxRecDepth 20000 in
set_option maxHeartbeats 4000000 in
theorem b_X9_readNumber_L13 : ∀ (n : Nat) (y1 : Int32) (y2 : Int32) (y3 : Int32) (y4 : Int32) (h : dH), B XC 1 RX9 cX9_readNumber 5 (some .boolean) fiC 13 [.ref 1, .int y1, .int y2, .int y3, .int y4] [] h (f_X9_readNumber_L13 n y1 y2 y3 y4 h) := by
  intro n
  induction n with
  | zero =>
    intro y1 y2 y3 y4 h
    exact B_none
  | succ n ih =>
    intro y1 y2 y3 y4 h
    rw [f_X9_readNumber_L13]
    refine B_aload_n dX9_readNumber_13 rfl rfl ?_
    refine B_getI dX9_readNumber_14 fl_X9_19 shC_1 rfl ?_
    refine B_aload_n dX9_readNumber_17 rfl rfl ?_
    refine B_getI dX9_readNumber_18 fl_X9_15 shC_1 rfl ?_
    refine C_icmp_ge (tgt := 87) dX9_readNumber_21 (by decide) (fun q10 => ?_) (fun q10 => ?_)
    · refine B_drop 1 (ls' := [.ref 1, .null, .int y2, .int y3, .int y4]) rfl ?_
      exact b_X9_readNumber_J87 y2 y3 y4 h
    · refine B_aload_n dX9_readNumber_24 rfl rfl ?_
      refine B_getR dX9_readNumber_25 fl_X9_9 shC_1 rfl (rfC_1_0 _) ?_
      refine B_aload_n dX9_readNumber_28 rfl rfl ?_
      refine B_getI dX9_readNumber_29 fl_X9_19 shC_1 rfl ?_
      refine C_chk (fun q4 => ?_)
      refine L_iald dX9_readNumber_32 shC_2 q4 rfl ?_
      refine B_STb (st := []) dX9_readNumber_33 cl_X9_29 (t_X9_isDigit (h.1 2 (dI (h.1 1 2))) h) (Nat.le_of_ble_eq_true rfl) rfl rfl (Nat.le_of_ble_eq_true rfl) ?_
      refine C_ifb_eq (tgt := 87) dX9_readNumber_36 (by decide) (fun q9 => ?_) (fun q9 => ?_)
      · refine B_drop 1 (ls' := [.ref 1, .null, .int y2, .int y3, .int y4]) rfl ?_
        exact b_X9_readNumber_J87 y2 y3 y4 h
      · refine B_iload dX9_readNumber_39 rfl ?_
        refine B_iload_n dX9_readNumber_41 rfl rfl ?_
        refine C_icmp_ne (tgt := 47) dX9_readNumber_42 (by decide) (fun q8 => ?_) (fun q8 => ?_)
        · refine B_aload_n dX9_readNumber_47 rfl rfl ?_
          refine B_aload_n dX9_readNumber_48 rfl rfl ?_
          refine B_getI dX9_readNumber_49 fl_X9_26 shC_1 rfl ?_
          refine B_bipush dX9_readNumber_52 bp_10 ?_
          refine B_imul dX9_readNumber_54 ?_
          refine B_aload_n dX9_readNumber_55 rfl rfl ?_
          refine B_getR dX9_readNumber_56 fl_X9_9 shC_1 rfl (rfC_1_0 _) ?_
          refine B_aload_n dX9_readNumber_59 rfl rfl ?_
          refine B_getI dX9_readNumber_60 fl_X9_19 shC_1 rfl ?_
          refine C_chk (fun q5 => ?_)
          refine L_iald dX9_readNumber_63 shC_2 q5 rfl ?_
          refine B_iadd dX9_readNumber_64 ?_
          refine B_bipush dX9_readNumber_65 bp_48 ?_
          refine B_isub dX9_readNumber_67 ?_
          refine B_putI dX9_readNumber_68 fl_X9_26 fw_X9_3 shC_1 rfl ?_
          refine B_lh (fun h6 => ?_)
          refine B_iinc (w := (y4 + 1)) (ls' := [.ref 1, .int y1, .int y2, .int y3, .int (y4 + 1)]) dX9_readNumber_71 rfl (congrArg (fun z => y4 + z) ic_1) (Nat.le_of_ble_eq_true rfl) rfl rfl ?_
          refine B_aload_n dX9_readNumber_74 rfl rfl ?_
          refine B_dup dX9_readNumber_75 rfl ?_
          refine B_getI dX9_readNumber_76 fl_X9_19 shC_1 rfl ?_
          refine B_iconst dX9_readNumber_79 ic_1 ?_
          refine B_iadd dX9_readNumber_80 ?_
          refine B_putI dX9_readNumber_81 fl_X9_19 fw_X9_2 shC_1 rfl ?_
          refine B_lh (fun h7 => ?_)
          refine B_goto (tgt := 13) dX9_readNumber_84 (by decide) ?_
          exact ih y1 y2 y3 (y4 + 1)  h7
        · refine B_iconst dX9_readNumber_45 ic_0 ?_
          exact B_zreturn dX9_readNumber_46 rfl rfl rfl
def f_X9_readNumber (x1 : Int32) (x2 : Int32) (x3 : Int32) (h : dH) : Option (Bool × dH) :=
  (f_X9_sign h).bind fun rv1 =>
  (some (dPut rv1.2 1 3 0)).bind fun h3 =>
  f_X9_readNumber_L13 dFu x1 x2 x3 0 h3
set_option maxRecDepth 20000 in
set_option maxHeartbeats 4000000 in
theorem t_X9_readNumber (x1 : Int32) (x2 : Int32) (x3 : Int32) (h : dH) : T XC 1 yX9_readNumber cX9_readNumber 5 (some .boolean) fiC [.ref 1, .int x1, .int x2, .int x3] h (f_X9_readNumber x1 x2 x3 h) := by
  refine T_of [.ref 1, .int x1, .int x2, .int x3, .null] (by decide) (fun _ => rfl) (fun _ => Nat.le_of_ble_eq_true rfl) ?_
  show B XC 1 RX9 cX9_readNumber 5 (some .boolean) fiC 0 [.ref 1, .int x1, .int x2, .int x3, .null] [] h (f_X9_readNumber x1 x2 x3 h)
  unfold f_X9_readNumber
  refine B_aload_n dX9_readNumber_0 rfl rfl ?_
  refine B_VI (st := []) dX9_readNumber_1 cl_X9_22 (t_X9_sign h) (Nat.le_of_ble_eq_true rfl) shC_1 rfl rfl (Nat.le_of_ble_eq_true rfl) (fun v1 h2 _ => ?_)
  refine B_pop dX9_readNumber_4 rfl ?_
  refine B_iconst dX9_readNumber_5 ic_0 ?_
  refine B_istore (ls' := [.ref 1, .int x1, .int x2, .int x3, .int 0]) dX9_readNumber_6 (Nat.le_of_ble_eq_true rfl) rfl rfl ?_
  refine B_aload_n dX9_readNumber_8 rfl rfl ?_
  refine B_iconst dX9_readNumber_9 ic_0 ?_
  refine B_putI dX9_readNumber_10 fl_X9_26 fw_X9_3 shC_1 rfl ?_
  refine B_lh (fun h3 => ?_)
  exact b_X9_readNumber_L13 dFu x1 x2 x3 0 h3
def f_X11_isIn (x0 : Int32) (x1 : Int32) (h : dH) : Bool :=
  if ((x0 >>> (x1 &&& 31)) &&& 1) = 0 then
  false
  else
  true
set_option maxRecDepth 20000 in
set_option maxHeartbeats 4000000 in
theorem t_X11_isIn (x0 : Int32) (x1 : Int32) (h : dH) : T XC 0 yX11_isIn cX11_isIn 2 (some .boolean) (fiB h) [.int x0, .int x1] h (some (f_X11_isIn x0 x1 h)) := by
  refine T_of [.int x0, .int x1] (by decide) (fun _ => rfl) (fun _ => Nat.le_of_ble_eq_true rfl) ?_
  show B XC 0 RX11 cX11_isIn 2 (some .boolean) (fiB h) 0 [.int x0, .int x1] [] h (some (f_X11_isIn x0 x1 h))
  unfold f_X11_isIn
  refine B_iload_n dX11_isIn_0 rfl rfl ?_
  refine B_iload_n dX11_isIn_1 rfl rfl ?_
  refine B_ishr dX11_isIn_2 ?_
  refine B_iconst dX11_isIn_3 ic_1 ?_
  refine B_iand dX11_isIn_4 ?_
  refine C_some ?_
  refine C_if_eq (tgt := 12) dX11_isIn_5 (by decide) (fun q1 => ?_) (fun q1 => ?_)
  · refine B_iconst dX11_isIn_12 ic_0 ?_
    exact B_zreturn dX11_isIn_13 rfl rfl rfl
  · refine B_iconst dX11_isIn_8 ic_1 ?_
    refine B_goto (tgt := 13) dX11_isIn_9 (by decide) ?_
    exact B_zreturn dX11_isIn_13 rfl rfl rfl
def f_X2_readItems_L6 (ks : Nat) (lo : Nat) (hi : Nat) (into : Nat) (nn : Nat) : Nat → Int32 → Int32 → dH → Option (Bool × dH)
  | 0, _, _, _ => none
  | n + 1, y5, y6, h =>
    if y6 < (sln ks) then
    (f_X9_sign h).bind fun rv1 =>
    (some ((f_X11_placeIn ks rv1.1))).bind fun v3 =>
    if v3 < 0 then
    some (true, rv1.2)
    else
    if v3 < (Int32.ofNat nn) then
    if (f_X11_isIn y5 v3 rv1.2) then
    some (true, rv1.2)
    else
    (some ((y5 ||| (1 <<< (v3 &&& 31))))).bind fun v4 =>
    (some (dPut rv1.2 1 2 ((rv1.2.1 1 2) + 1))).bind fun h5 =>
    if dIn v3 (zln lo) then
    if dIn v3 (zln hi) then
    (f_X9_readNumber 2 (h5.1 (1000 + lo) (dI v3)) (h5.1 (1000 + hi) (dI v3)) h5).bind fun rv8 =>
    if rv8.1 then
    if dIn v3 nn then
    (some (dPut rv8.2 into (dI v3) (rv8.2.1 1 3))).bind fun h11 =>
    (f_X2_readItems_L6 ks lo hi into nn n) v4 (y6 + 1) h11
    else none
    else
    some (false, rv8.2)
    else none
    else none
    else
    some (true, rv1.2)
    else
    some (true, h)
set_option maxRecDepth 20000 in
set_option maxHeartbeats 4000000 in
theorem b_X2_readItems_L6 {ks : Nat} {lo : Nat} {hi : Nat} {into : Nat} {nn : Nat} (hks : ks < 9) (hlo : lo < 6) (hhi : hi < 6) (hinto : XC.1[into]? = some (.inr (0, nn))) : ∀ (n : Nat) (y5 : Int32) (y6 : Int32) (h : dH), B XC 8 RX2 cX2_readItems 8 (some .boolean) fiC 6 [.ref 41, .ref (2000 + ks), .ref (1000 + lo), .ref (1000 + hi), .ref into, .int y5, .int y6, .null] [] h (f_X2_readItems_L6 ks lo hi into nn n y5 y6 h) := by
  intro n
  induction n with
  | zero =>
    intro y5 y6 h
    exact B_none
  | succ n ih =>
    intro y5 y6 h
    rw [f_X2_readItems_L6]
    refine B_iload dX2_readItems_6 rfl ?_
    refine B_aload_n dX2_readItems_8 rfl rfl ?_
    refine B_slen dX2_readItems_9 cl_X2_95 (Nat.le_of_ble_eq_true rfl) hks (Nat.le_of_ble_eq_true rfl) ?_
    refine C_icmp_ge (tgt := 114) dX2_readItems_12 (by decide) (fun q16 => ?_) (fun q16 => ?_)
    · refine B_iconst dX2_readItems_114 ic_1 ?_
      exact B_zreturn dX2_readItems_115 rfl rfl rfl
    · refine B_aload_n dX2_readItems_15 rfl rfl ?_
      refine B_aload_n dX2_readItems_16 rfl rfl ?_
      refine B_getR dX2_readItems_17 fl_X2_9 shC_41 rfl (rfC_41_0 _) ?_
      refine B_VI (st := [.ref (2000 + ks)]) dX2_readItems_20 cl_X2_51 (t_X9_sign h) (Nat.le_of_ble_eq_true rfl) shC_1 rfl rfl (Nat.le_of_ble_eq_true rfl) (fun v1 h2 _ => ?_)
      refine B_Nt (st := []) dX2_readItems_23 cl_X2_99 (t_X11_placeIn ks hks v1 h2) (Nat.le_of_ble_eq_true rfl) rfl rfl (Nat.le_of_ble_eq_true rfl) ?_
      refine B_lv (fun v3 => ?_)
      refine B_istore (ls' := [.ref 41, .ref (2000 + ks), .ref (1000 + lo), .ref (1000 + hi), .ref into, .int y5, .int y6, .int v3]) dX2_readItems_26 (Nat.le_of_ble_eq_true rfl) rfl rfl ?_
      refine B_iload dX2_readItems_28 rfl ?_
      refine C_if_lt (tgt := 51) dX2_readItems_30 (by decide) (fun q15 => ?_) (fun q15 => ?_)
      · refine B_iconst dX2_readItems_51 ic_1 ?_
        exact B_zreturn dX2_readItems_52 rfl rfl rfl
      · refine B_iload dX2_readItems_33 rfl ?_
        refine B_aload dX2_readItems_35 rfl ?_
        refine B_alen dX2_readItems_37 hinto rfl ?_
        refine C_icmp_ge (tgt := 51) dX2_readItems_38 (by decide) (fun q14 => ?_) (fun q14 => ?_)
        · refine B_iconst dX2_readItems_51 ic_1 ?_
          exact B_zreturn dX2_readItems_52 rfl rfl rfl
        · refine B_iload dX2_readItems_41 rfl ?_
          refine B_iload dX2_readItems_43 rfl ?_
          refine B_NTb (st := []) dX2_readItems_45 cl_X2_103 (t_X11_isIn y5 v3 h2) (Nat.le_of_ble_eq_true rfl) rfl rfl (Nat.le_of_ble_eq_true rfl) ?_
          refine C_ifb_eq (tgt := 53) dX2_readItems_48 (by decide) (fun q13 => ?_) (fun q13 => ?_)
          · refine B_iload dX2_readItems_53 rfl ?_
            refine B_iconst dX2_readItems_55 ic_1 ?_
            refine B_iload dX2_readItems_56 rfl ?_
            refine B_ishl dX2_readItems_58 ?_
            refine B_ior dX2_readItems_59 ?_
            refine B_lv (fun v4 => ?_)
            refine B_istore (ls' := [.ref 41, .ref (2000 + ks), .ref (1000 + lo), .ref (1000 + hi), .ref into, .int v4, .int y6, .int v3]) dX2_readItems_60 (Nat.le_of_ble_eq_true rfl) rfl rfl ?_
            refine B_aload_n dX2_readItems_62 rfl rfl ?_
            refine B_getR dX2_readItems_63 fl_X2_9 shC_41 rfl (rfC_41_0 _) ?_
            refine B_dup dX2_readItems_66 rfl ?_
            refine B_getI dX2_readItems_67 fl_X2_19 shC_1 rfl ?_
            refine B_iconst dX2_readItems_70 ic_1 ?_
            refine B_iadd dX2_readItems_71 ?_
            refine B_putI dX2_readItems_72 fl_X2_19 fw_X9_2 shC_1 rfl ?_
            refine B_lh (fun h5 => ?_)
            refine B_aload_n dX2_readItems_75 rfl rfl ?_
            refine B_getR dX2_readItems_76 fl_X2_9 shC_41 rfl (rfC_41_0 _) ?_
            refine B_iconst dX2_readItems_79 ic_2 ?_
            refine B_aload_n dX2_readItems_80 rfl rfl ?_
            refine B_iload dX2_readItems_81 rfl ?_
            refine C_chk (fun q6 => ?_)
            refine L_ialdE dX2_readItems_83 hlo q6 ?_
            refine B_aload_n dX2_readItems_84 rfl rfl ?_
            refine B_iload dX2_readItems_85 rfl ?_
            refine C_chk (fun q7 => ?_)
            refine L_ialdE dX2_readItems_87 hhi q7 ?_
            refine B_VC (st := []) dX2_readItems_88 cl_X2_107 (t_X9_readNumber 2 (h5.1 (1000 + lo) (dI v3)) (h5.1 (1000 + hi) (dI v3)) h5) (Nat.le_of_ble_eq_true rfl) shC_1 rfl rfl (Nat.le_of_ble_eq_true rfl) (fun v8 h9 _ => ?_)
            refine C_ifb_ne (tgt := 96) dX2_readItems_91 (by decide) (fun q12 => ?_) (fun q12 => ?_)
            · refine B_aload dX2_readItems_96 rfl ?_
              refine B_iload dX2_readItems_98 rfl ?_
              refine B_aload_n dX2_readItems_100 rfl rfl ?_
              refine B_getR dX2_readItems_101 fl_X2_9 shC_41 rfl (rfC_41_0 _) ?_
              refine B_getI dX2_readItems_104 fl_X2_111 shC_1 rfl ?_
              refine C_chk (fun q10 => ?_)
              refine L_iast dX2_readItems_107 hinto q10 rfl ?_
              refine B_lh (fun h11 => ?_)
              refine B_iinc (w := (y6 + 1)) (ls' := [.ref 41, .ref (2000 + ks), .ref (1000 + lo), .ref (1000 + hi), .ref into, .int v4, .int (y6 + 1), .int v3]) dX2_readItems_108 rfl (congrArg (fun z => y6 + z) ic_1) (Nat.le_of_ble_eq_true rfl) rfl rfl ?_
              refine B_goto (tgt := 6) dX2_readItems_111 (by decide) ?_
              refine B_drop 7 (ls' := [.ref 41, .ref (2000 + ks), .ref (1000 + lo), .ref (1000 + hi), .ref into, .int v4, .int (y6 + 1), .null]) rfl ?_
              exact ih v4 (y6 + 1)  h11
            · refine B_iconst dX2_readItems_94 ic_0 ?_
              exact B_zreturn dX2_readItems_95 rfl rfl rfl
          · refine B_iconst dX2_readItems_51 ic_1 ?_
            exact B_zreturn dX2_readItems_52 rfl rfl rfl
def f_X2_readItems (ks : Nat) (lo : Nat) (hi : Nat) (into nn : Nat) (h : dH) : Option (Bool × dH) :=
  f_X2_readItems_L6 ks lo hi into nn dFu 0 0 h
set_option maxRecDepth 20000 in
set_option maxHeartbeats 4000000 in
theorem t_X2_readItems (ks : Nat) (hks : ks < 9) (lo : Nat) (hlo : lo < 6) (hi : Nat) (hhi : hi < 6) (into nn : Nat) (hinto : XC.1[into]? = some (.inr (0, nn))) (h : dH) : T XC 8 yX2_readItems cX2_readItems 8 (some .boolean) fiC [.ref 41, .ref (2000 + ks), .ref (1000 + lo), .ref (1000 + hi), .ref into] h (f_X2_readItems ks lo hi into nn h) := by
  refine T_of [.ref 41, .ref (2000 + ks), .ref (1000 + lo), .ref (1000 + hi), .ref into, .null, .null, .null] (by decide) (fun _ => rfl) (fun _ => Nat.le_of_ble_eq_true rfl) ?_
  show B XC 8 RX2 cX2_readItems 8 (some .boolean) fiC 0 [.ref 41, .ref (2000 + ks), .ref (1000 + lo), .ref (1000 + hi), .ref into, .null, .null, .null] [] h (f_X2_readItems ks lo hi into nn h)
  unfold f_X2_readItems
  refine B_iconst dX2_readItems_0 ic_0 ?_
  refine B_istore (ls' := [.ref 41, .ref (2000 + ks), .ref (1000 + lo), .ref (1000 + hi), .ref into, .int 0, .null, .null]) dX2_readItems_1 (Nat.le_of_ble_eq_true rfl) rfl rfl ?_
  refine B_iconst dX2_readItems_3 ic_0 ?_
  refine B_istore (ls' := [.ref 41, .ref (2000 + ks), .ref (1000 + lo), .ref (1000 + hi), .ref into, .int 0, .int 0, .null]) dX2_readItems_4 (Nat.le_of_ble_eq_true rfl) rfl rfl ?_
  exact b_X2_readItems_L6 hks hlo hhi hinto dFu 0 0 h
def f_X2_readClause_J59 (y1 : Int32) (h : dH) : Option (Bool × dH) :=
  if y1 = 112 then
  if (h.1 22 2) < 7 then
  if dIn (h.1 22 2) 7 then
  (some (dPut h 22 2 ((h.1 22 2) + 1))).bind fun h10 =>
  (some (dPut h10 1 2 ((h10.1 1 2) + 1))).bind fun h11 =>
  if dCk 0 0 (Int32.ofNat (zln 5)) (zln 5) 5 then
  (some (dCpy h11 (1000 + 5) (25 + dI (h.1 22 2)) (dI 0) (dI 0) (dI (Int32.ofNat (zln 5))))).bind fun h13 =>
  (f_X2_readItems 1 3 4 (25 + dI (h.1 22 2)) 5 h13).bind fun rv14 =>
  some (rv14.1, rv14.2)
  else none
  else none
  else
  some (false, h)
  else
  some (false, h)
set_option maxRecDepth 20000 in
set_option maxHeartbeats 4000000 in
theorem b_X2_readClause_J59 (y1 : Int32) (h : dH) : B XC 9 RX2 cX2_readClause 3 (some .boolean) fiC 59 [.ref 41, .int y1, .null] [] h (f_X2_readClause_J59 y1 h) := by
  unfold f_X2_readClause_J59
  refine B_iload_n dX2_readClause_59 rfl rfl ?_
  refine B_bipush dX2_readClause_60 bp_112 ?_
  refine C_icmp_ne (tgt := 146) dX2_readClause_62 (by decide) (fun q17 => ?_) (fun q17 => ?_)
  · refine B_iconst dX2_readClause_146 ic_0 ?_
    exact B_zreturn dX2_readClause_147 rfl rfl rfl
  · refine B_aload_n dX2_readClause_65 rfl rfl ?_
    refine B_getR dX2_readClause_66 fl_X2_15 shC_41 rfl (rfC_41_1 _) ?_
    refine B_getI dX2_readClause_69 fl_X2_29 shC_22 rfl ?_
    refine B_bipush dX2_readClause_72 bp_7 ?_
    refine C_icmp_ge (tgt := 146) dX2_readClause_74 (by decide) (fun q16 => ?_) (fun q16 => ?_)
    · refine B_iconst dX2_readClause_146 ic_0 ?_
      exact B_zreturn dX2_readClause_147 rfl rfl rfl
    · refine B_aload_n dX2_readClause_77 rfl rfl ?_
      refine B_getR dX2_readClause_78 fl_X2_15 shC_41 rfl (rfC_41_1 _) ?_
      refine B_getR dX2_readClause_81 fl_X2_80 shC_22 rfl (rfC_22_1 _) ?_
      refine B_aload_n dX2_readClause_84 rfl rfl ?_
      refine B_getR dX2_readClause_85 fl_X2_15 shC_41 rfl (rfC_41_1 _) ?_
      refine B_getI dX2_readClause_88 fl_X2_29 shC_22 rfl ?_
      refine C_chk (fun q9 => ?_)
      refine B_aald dX2_readClause_91 shC_24 q9 (rrC_24 _ q9) ?_
      refine B_astore_n (ls' := [.ref 41, .int y1, .ref (25 + dI (h.1 22 2))]) dX2_readClause_92 rfl (Nat.le_of_ble_eq_true rfl) rfl rfl ?_
      refine B_aload_n dX2_readClause_93 rfl rfl ?_
      refine B_getR dX2_readClause_94 fl_X2_15 shC_41 rfl (rfC_41_1 _) ?_
      refine B_dup dX2_readClause_97 rfl ?_
      refine B_getI dX2_readClause_98 fl_X2_29 shC_22 rfl ?_
      refine B_iconst dX2_readClause_101 ic_1 ?_
      refine B_iadd dX2_readClause_102 ?_
      refine B_putI dX2_readClause_103 fl_X2_29 fw_X1_2 shC_22 rfl ?_
      refine B_lh (fun h10 => ?_)
      refine B_aload_n dX2_readClause_106 rfl rfl ?_
      refine B_getR dX2_readClause_107 fl_X2_9 shC_41 rfl (rfC_41_0 _) ?_
      refine B_dup dX2_readClause_110 rfl ?_
      refine B_getI dX2_readClause_111 fl_X2_19 shC_1 rfl ?_
      refine B_iconst dX2_readClause_114 ic_1 ?_
      refine B_iadd dX2_readClause_115 ?_
      refine B_putI dX2_readClause_116 fl_X2_19 fw_X9_2 shC_1 rfl ?_
      refine B_lh (fun h11 => ?_)
      refine B_gets (j := 5) dX2_readClause_119 rfl zl_X2_84 ?_
      refine B_iconst dX2_readClause_122 ic_0 ?_
      refine B_aload_n dX2_readClause_123 rfl rfl ?_
      refine B_iconst dX2_readClause_124 ic_0 ?_
      refine B_gets (j := 5) dX2_readClause_125 rfl zl_X2_84 ?_
      refine L_alenE dX2_readClause_128 (by decide) ?_
      refine C_chk (fun q12 => ?_)
      refine L_copyE dX2_readClause_129 cp_X2_41 (Nat.le_of_ble_eq_true rfl) (Nat.le_of_ble_eq_true rfl) (by decide) (rowC_24 q9) q12 ?_
      refine B_lh (fun h13 => ?_)
      refine B_aload_n dX2_readClause_132 rfl rfl ?_
      refine B_ldcS (j := 1) dX2_readClause_133 rfl rfl rfl ?_
      refine B_gets (j := 3) dX2_readClause_135 rfl zl_X2_89 ?_
      refine B_gets (j := 4) dX2_readClause_138 rfl zl_X2_92 ?_
      refine B_aload_n dX2_readClause_141 rfl rfl ?_
      refine B_VC (st := []) dX2_readClause_142 cl_X2_76 (t_X2_readItems 1 (by decide) 3 (by decide) 4 (by decide) (25 + dI (h.1 22 2)) 5 (rowC_24 q9) h13) (Nat.le_of_ble_eq_true rfl) shC_41 rfl rfl (Nat.le_of_ble_eq_true rfl) (fun v14 h15 _ => ?_)
      exact B_zreturn dX2_readClause_145 rfl (nar_bi v14) rfl
def f_X2_readClause (h : dH) : Option (Bool × dH) :=
  (f_X9_sign h).bind fun rv1 =>
  if rv1.1 = 115 then
  if (rv1.2.1 41 2) = 0 then
  (some (dPut rv1.2 41 2 1)).bind fun h3 =>
  (some (dPut h3 1 2 ((h3.1 1 2) + 1))).bind fun h4 =>
  (f_X2_readItems 0 0 1 23 3 h4).bind fun rv5 =>
  some (rv5.1, rv5.2)
  else
  f_X2_readClause_J59 rv1.1 rv1.2
  else
  f_X2_readClause_J59 rv1.1 rv1.2
set_option maxRecDepth 20000 in
set_option maxHeartbeats 4000000 in
theorem t_X2_readClause (h : dH) : T XC 9 yX2_readClause cX2_readClause 3 (some .boolean) fiC [.ref 41] h (f_X2_readClause h) := by
  refine T_of [.ref 41, .null, .null] (by decide) (fun _ => rfl) (fun _ => Nat.le_of_ble_eq_true rfl) ?_
  show B XC 9 RX2 cX2_readClause 3 (some .boolean) fiC 0 [.ref 41, .null, .null] [] h (f_X2_readClause h)
  unfold f_X2_readClause
  refine B_aload_n dX2_readClause_0 rfl rfl ?_
  refine B_getR dX2_readClause_1 fl_X2_9 shC_41 rfl (rfC_41_0 _) ?_
  refine B_VI (st := []) dX2_readClause_4 cl_X2_51 (t_X9_sign h) (Nat.le_of_ble_eq_true rfl) shC_1 rfl rfl (Nat.le_of_ble_eq_true rfl) (fun v1 h2 _ => ?_)
  refine B_istore_n (ls' := [.ref 41, .int v1, .null]) dX2_readClause_7 rfl (Nat.le_of_ble_eq_true rfl) rfl rfl ?_
  refine B_iload_n dX2_readClause_8 rfl rfl ?_
  refine B_bipush dX2_readClause_9 bp_115 ?_
  refine C_icmp_ne (tgt := 59) dX2_readClause_11 (by decide) (fun q8 => ?_) (fun q8 => ?_)
  · exact b_X2_readClause_J59 v1 h2
  · refine B_aload_n dX2_readClause_14 rfl rfl ?_
    refine B_getZ dX2_readClause_15 fl_X2_25 shC_41 rfl ?_
    refine C_if_ne (tgt := 59) dX2_readClause_18 (by decide) (fun q7 => ?_) (fun q7 => ?_)
    · exact b_X2_readClause_J59 v1 h2
    · refine B_aload_n dX2_readClause_21 rfl rfl ?_
      refine B_iconst dX2_readClause_22 ic_1 ?_
      refine B_putZ dX2_readClause_23 fl_X2_25 fw_X2_2 shC_41 rfl (Or.inr rfl) ?_
      refine B_lh (fun h3 => ?_)
      refine B_aload_n dX2_readClause_26 rfl rfl ?_
      refine B_getR dX2_readClause_27 fl_X2_9 shC_41 rfl (rfC_41_0 _) ?_
      refine B_dup dX2_readClause_30 rfl ?_
      refine B_getI dX2_readClause_31 fl_X2_19 shC_1 rfl ?_
      refine B_iconst dX2_readClause_34 ic_1 ?_
      refine B_iadd dX2_readClause_35 ?_
      refine B_putI dX2_readClause_36 fl_X2_19 fw_X9_2 shC_1 rfl ?_
      refine B_lh (fun h4 => ?_)
      refine B_aload_n dX2_readClause_39 rfl rfl ?_
      refine B_ldcS (j := 0) dX2_readClause_40 rfl rfl rfl ?_
      refine B_gets (j := 0) dX2_readClause_42 rfl zl_X2_70 ?_
      refine B_gets (j := 1) dX2_readClause_45 rfl zl_X2_73 ?_
      refine B_aload_n dX2_readClause_48 rfl rfl ?_
      refine B_getR dX2_readClause_49 fl_X2_15 shC_41 rfl (rfC_41_1 _) ?_
      refine B_getR dX2_readClause_52 fl_X2_38 shC_22 rfl (rfC_22_0 _) ?_
      refine B_VC (st := []) dX2_readClause_55 cl_X2_76 (t_X2_readItems 0 (by decide) 0 (by decide) 1 (by decide) 23 3 shC_23 h4) (Nat.le_of_ble_eq_true rfl) shC_41 rfl rfl (Nat.le_of_ble_eq_true rfl) (fun v5 h6 _ => ?_)
      exact B_zreturn dX2_readClause_58 rfl (nar_bi v5) rfl
def f_X9_take (x1 : Int32) (h : dH) : Option (Bool × dH) :=
  (f_X9_sign h).bind fun rv1 =>
  if rv1.1 = x1 then
  some (true, (dPut rv1.2 1 2 ((rv1.2.1 1 2) + 1)))
  else
  some (false, rv1.2)
set_option maxRecDepth 20000 in
set_option maxHeartbeats 4000000 in
theorem t_X9_take (x1 : Int32) (h : dH) : T XC 1 yX9_take cX9_take 2 (some .boolean) fiC [.ref 1, .int x1] h (f_X9_take x1 h) := by
  refine T_of [.ref 1, .int x1] (by decide) (fun _ => rfl) (fun _ => Nat.le_of_ble_eq_true rfl) ?_
  show B XC 1 RX9 cX9_take 2 (some .boolean) fiC 0 [.ref 1, .int x1] [] h (f_X9_take x1 h)
  unfold f_X9_take
  refine B_aload_n dX9_take_0 rfl rfl ?_
  refine B_VI (st := []) dX9_take_1 cl_X9_22 (t_X9_sign h) (Nat.le_of_ble_eq_true rfl) shC_1 rfl rfl (Nat.le_of_ble_eq_true rfl) (fun v1 h2 _ => ?_)
  refine B_iload_n dX9_take_4 rfl rfl ?_
  refine C_icmp_eq (tgt := 10) dX9_take_5 (by decide) (fun q3 => ?_) (fun q3 => ?_)
  · refine B_aload_n dX9_take_10 rfl rfl ?_
    refine B_dup dX9_take_11 rfl ?_
    refine B_getI dX9_take_12 fl_X9_19 shC_1 rfl ?_
    refine B_iconst dX9_take_15 ic_1 ?_
    refine B_iadd dX9_take_16 ?_
    refine B_putI dX9_take_17 fl_X9_19 fw_X9_2 shC_1 rfl ?_
    refine B_iconst dX9_take_20 ic_1 ?_
    exact B_zreturn dX9_take_21 rfl rfl rfl
  · refine B_iconst dX9_take_8 ic_0 ?_
    exact B_zreturn dX9_take_9 rfl rfl rfl
def f_X2_findFault_L42 : Nat → Int32 → dH → Option (Int32 × dH)
  | 0, _, _ => none
  | n + 1, y1, h =>
    if 8 < y1 then
    some ((h.1 1 2), h)
    else
    (f_X2_readClause h).bind fun rv6 =>
    if rv6.1 then
    (f_X9_sign rv6.2).bind fun rv8 =>
    if rv8.1 = (-1) then
    (f_X1_measure 22 rv8.2).bind fun h14 =>
    if (h14.1 22 2) < 2 then
    some ((h14.1 1 1), h14)
    else
    (f_X1_hasTwoInOne 22 h14).bind fun v15 =>
    if v15 then
    some ((h14.1 1 1), h14)
    else
    some ((-1), h14)
    else
    (f_X9_take 59 rv8.2).bind fun rv10 =>
    if rv10.1 then
    (f_X2_findFault_L42 n) (y1 + 1) rv10.2
    else
    some ((rv10.2.1 1 2), rv10.2)
    else
    some ((rv6.2.1 1 2), rv6.2)
set_option maxRecDepth 20000 in
set_option maxHeartbeats 4000000 in
theorem b_X2_findFault_L42 : ∀ (n : Nat) (y1 : Int32) (h : dH), B XC 10 RX2 cX2_findFault 2 (some .int) fiI 42 [.ref 41, .int y1] [] h (f_X2_findFault_L42 n y1 h) := by
  intro n
  induction n with
  | zero =>
    intro y1 h
    exact B_none
  | succ n ih =>
    intro y1 h
    rw [f_X2_findFault_L42]
    refine B_iload_n dX2_findFault_42 rfl rfl ?_
    refine B_bipush dX2_findFault_43 bp_8 ?_
    refine C_icmp_gt (tgt := 140) dX2_findFault_45 (by decide) (fun q20 => ?_) (fun q20 => ?_)
    · refine B_aload_n dX2_findFault_140 rfl rfl ?_
      refine B_getR dX2_findFault_141 fl_X2_9 shC_41 rfl (rfC_41_0 _) ?_
      refine B_getI dX2_findFault_144 fl_X2_19 shC_1 rfl ?_
      exact B_ireturn dX2_findFault_147 rfl rfl
    · refine B_aload_n dX2_findFault_48 rfl rfl ?_
      refine B_VC (st := []) dX2_findFault_49 cl_X2_47 (t_X2_readClause h) (Nat.le_of_ble_eq_true rfl) shC_41 rfl rfl (Nat.le_of_ble_eq_true rfl) (fun v6 h7 _ => ?_)
      refine C_ifb_ne (tgt := 63) dX2_findFault_52 (by decide) (fun q19 => ?_) (fun q19 => ?_)
      · refine B_aload_n dX2_findFault_63 rfl rfl ?_
        refine B_getR dX2_findFault_64 fl_X2_9 shC_41 rfl (rfC_41_0 _) ?_
        refine B_VI (st := []) dX2_findFault_67 cl_X2_51 (t_X9_sign h7) (Nat.le_of_ble_eq_true rfl) shC_1 rfl rfl (Nat.le_of_ble_eq_true rfl) (fun v8 h9 _ => ?_)
        refine B_iconst dX2_findFault_70 ic_m1 ?_
        refine C_icmp_ne (tgt := 114) dX2_findFault_71 (by decide) (fun q18 => ?_) (fun q18 => ?_)
        · refine B_aload_n dX2_findFault_114 rfl rfl ?_
          refine B_getR dX2_findFault_115 fl_X2_9 shC_41 rfl (rfC_41_0 _) ?_
          refine B_bipush dX2_findFault_118 bp_59 ?_
          refine B_VC (st := []) dX2_findFault_120 cl_X2_64 (t_X9_take 59 h9) (Nat.le_of_ble_eq_true rfl) shC_1 rfl rfl (Nat.le_of_ble_eq_true rfl) (fun v10 h11 _ => ?_)
          refine C_ifb_ne (tgt := 134) dX2_findFault_123 (by decide) (fun q12 => ?_) (fun q12 => ?_)
          · refine B_iinc (w := (y1 + 1)) (ls' := [.ref 41, .int (y1 + 1)]) dX2_findFault_134 rfl (congrArg (fun z => y1 + z) ic_1) (Nat.le_of_ble_eq_true rfl) rfl rfl ?_
            refine B_goto (tgt := 42) dX2_findFault_137 (by decide) ?_
            exact ih (y1 + 1)  h11
          · refine B_aload_n dX2_findFault_126 rfl rfl ?_
            refine B_getR dX2_findFault_127 fl_X2_9 shC_41 rfl (rfC_41_0 _) ?_
            refine B_getI dX2_findFault_130 fl_X2_19 shC_1 rfl ?_
            exact B_ireturn dX2_findFault_133 rfl rfl
        · refine B_aload_n dX2_findFault_74 rfl rfl ?_
          refine B_getR dX2_findFault_75 fl_X2_15 shC_41 rfl (rfC_41_1 _) ?_
          refine B_VV (st := []) dX2_findFault_78 cl_X2_55 (t_X1_measure 22 shC_22 h9) (Nat.le_of_ble_eq_true rfl) shC_22 rfl rfl (Nat.le_of_ble_eq_true rfl) (fun h14 _ => ?_)
          refine B_aload_n dX2_findFault_81 rfl rfl ?_
          refine B_getR dX2_findFault_82 fl_X2_15 shC_41 rfl (rfC_41_1 _) ?_
          refine B_getI dX2_findFault_85 fl_X2_29 shC_22 rfl ?_
          refine B_iconst dX2_findFault_88 ic_2 ?_
          refine C_icmp_lt (tgt := 102) dX2_findFault_89 (by decide) (fun q17 => ?_) (fun q17 => ?_)
          · refine B_aload_n dX2_findFault_102 rfl rfl ?_
            refine B_getR dX2_findFault_103 fl_X2_9 shC_41 rfl (rfC_41_0 _) ?_
            refine B_getI dX2_findFault_106 fl_X2_61 shC_1 rfl ?_
            refine B_goto (tgt := 113) dX2_findFault_109 (by decide) ?_
            exact B_ireturn dX2_findFault_113 rfl rfl
          · refine B_aload_n dX2_findFault_92 rfl rfl ?_
            refine B_getR dX2_findFault_93 fl_X2_15 shC_41 rfl (rfC_41_1 _) ?_
            refine B_Vpb (st := []) dX2_findFault_96 cl_X2_58 (t_X1_hasTwoInOne 22 shC_22 h14) (Nat.le_of_ble_eq_true rfl) shC_22 rfl rfl (Nat.le_of_ble_eq_true rfl) (fun v15 _ => ?_)
            refine C_ifb_eq (tgt := 112) dX2_findFault_99 (by decide) (fun q16 => ?_) (fun q16 => ?_)
            · refine B_iconst dX2_findFault_112 ic_m1 ?_
              exact B_ireturn dX2_findFault_113 rfl rfl
            · refine B_aload_n dX2_findFault_102 rfl rfl ?_
              refine B_getR dX2_findFault_103 fl_X2_9 shC_41 rfl (rfC_41_0 _) ?_
              refine B_getI dX2_findFault_106 fl_X2_61 shC_1 rfl ?_
              refine B_goto (tgt := 113) dX2_findFault_109 (by decide) ?_
              exact B_ireturn dX2_findFault_113 rfl rfl
      · refine B_aload_n dX2_findFault_55 rfl rfl ?_
        refine B_getR dX2_findFault_56 fl_X2_9 shC_41 rfl (rfC_41_0 _) ?_
        refine B_getI dX2_findFault_59 fl_X2_19 shC_1 rfl ?_
        exact B_ireturn dX2_findFault_62 rfl rfl
def f_X2_findFault (h : dH) : Option (Int32 × dH) :=
  (some (dPut h 1 2 0)).bind fun h1 =>
  (some (dPut h1 41 2 0)).bind fun h2 =>
  (some (dPut h2 22 2 0)).bind fun h3 =>
  if dCk 0 0 (Int32.ofNat (zln 2)) (zln 2) 3 then
  (some (dCpy h3 (1000 + 2) 23 (dI 0) (dI 0) (dI (Int32.ofNat (zln 2))))).bind fun h5 =>
  f_X2_findFault_L42 dFu 0 h5
  else none
set_option maxRecDepth 20000 in
set_option maxHeartbeats 4000000 in
theorem t_X2_findFault (h : dH) : T XC 10 yX2_findFault cX2_findFault 2 (some .int) fiI [.ref 41] h (f_X2_findFault h) := by
  refine T_of [.ref 41, .null] (by decide) (fun _ => rfl) (fun _ => Nat.le_of_ble_eq_true rfl) ?_
  show B XC 10 RX2 cX2_findFault 2 (some .int) fiI 0 [.ref 41, .null] [] h (f_X2_findFault h)
  unfold f_X2_findFault
  refine B_aload_n dX2_findFault_0 rfl rfl ?_
  refine B_getR dX2_findFault_1 fl_X2_9 shC_41 rfl (rfC_41_0 _) ?_
  refine B_iconst dX2_findFault_4 ic_0 ?_
  refine B_putI dX2_findFault_5 fl_X2_19 fw_X9_2 shC_1 rfl ?_
  refine B_lh (fun h1 => ?_)
  refine B_aload_n dX2_findFault_8 rfl rfl ?_
  refine B_iconst dX2_findFault_9 ic_0 ?_
  refine B_putZ dX2_findFault_10 fl_X2_25 fw_X2_2 shC_41 rfl (Or.inl rfl) ?_
  refine B_lh (fun h2 => ?_)
  refine B_aload_n dX2_findFault_13 rfl rfl ?_
  refine B_getR dX2_findFault_14 fl_X2_15 shC_41 rfl (rfC_41_1 _) ?_
  refine B_iconst dX2_findFault_17 ic_0 ?_
  refine B_putI dX2_findFault_18 fl_X2_29 fw_X1_2 shC_22 rfl ?_
  refine B_lh (fun h3 => ?_)
  refine B_gets (j := 2) dX2_findFault_21 rfl zl_X2_34 ?_
  refine B_iconst dX2_findFault_24 ic_0 ?_
  refine B_aload_n dX2_findFault_25 rfl rfl ?_
  refine B_getR dX2_findFault_26 fl_X2_15 shC_41 rfl (rfC_41_1 _) ?_
  refine B_getR dX2_findFault_29 fl_X2_38 shC_22 rfl (rfC_22_0 _) ?_
  refine B_iconst dX2_findFault_32 ic_0 ?_
  refine B_gets (j := 2) dX2_findFault_33 rfl zl_X2_34 ?_
  refine L_alenE dX2_findFault_36 (by decide) ?_
  refine C_chk (fun q4 => ?_)
  refine L_copyE dX2_findFault_37 cp_X2_41 (Nat.le_of_ble_eq_true rfl) (Nat.le_of_ble_eq_true rfl) (by decide) shC_23 q4 ?_
  refine B_lh (fun h5 => ?_)
  refine B_iconst dX2_findFault_40 ic_0 ?_
  refine B_istore_n (ls' := [.ref 41, .int 0]) dX2_findFault_41 rfl (Nat.le_of_ble_eq_true rfl) rfl rfl ?_
  exact b_X2_findFault_L42 dFu 0 h5
def f_X3_keepDraft (h : dH) : Option (Int32 × dH) :=
  if (h.1 52 0) < 4 then
  some ((((dPut h 52 0 ((h.1 52 0) + 1)).1 52 0) - 1), (dPut h 52 0 ((h.1 52 0) + 1)))
  else
  some ((-1), h)
set_option maxRecDepth 20000 in
set_option maxHeartbeats 4000000 in
theorem t_X3_keepDraft (h : dH) : T XC 0 yX3_keepDraft cX3_keepDraft 1 (some .int) fiI [.ref 52] h (f_X3_keepDraft h) := by
  refine T_of [.ref 52] (by decide) (fun _ => rfl) (fun _ => Nat.le_of_ble_eq_true rfl) ?_
  show B XC 0 RX3 cX3_keepDraft 1 (some .int) fiI 0 [.ref 52] [] h (f_X3_keepDraft h)
  unfold f_X3_keepDraft
  refine B_aload_n dX3_keepDraft_0 rfl rfl ?_
  refine B_getI dX3_keepDraft_1 fl_X3_27 shC_52 rfl ?_
  refine B_iconst dX3_keepDraft_4 ic_4 ?_
  refine C_icmp_lt (tgt := 10) dX3_keepDraft_5 (by decide) (fun q1 => ?_) (fun q1 => ?_)
  · refine B_aload_n dX3_keepDraft_10 rfl rfl ?_
    refine B_dup dX3_keepDraft_11 rfl ?_
    refine B_getI dX3_keepDraft_12 fl_X3_27 shC_52 rfl ?_
    refine B_iconst dX3_keepDraft_15 ic_1 ?_
    refine B_iadd dX3_keepDraft_16 ?_
    refine B_putI dX3_keepDraft_17 fl_X3_27 fw_X3_0 shC_52 rfl ?_
    refine B_aload_n dX3_keepDraft_20 rfl rfl ?_
    refine B_getI dX3_keepDraft_21 fl_X3_27 shC_52 rfl ?_
    refine B_iconst dX3_keepDraft_24 ic_1 ?_
    refine B_isub dX3_keepDraft_25 ?_
    exact B_ireturn dX3_keepDraft_26 rfl rfl
  · refine B_iconst dX3_keepDraft_8 ic_m1 ?_
    exact B_ireturn dX3_keepDraft_9 rfl rfl
def f_X3_isKept (x1 : Int32) (h : dH) : Bool :=
  if x1 < 0 then
  false
  else
  if x1 < (h.1 52 0) then
  true
  else
  false
set_option maxRecDepth 20000 in
set_option maxHeartbeats 4000000 in
theorem t_X3_isKept (x1 : Int32) (h : dH) : T XC 0 yX3_isKept cX3_isKept 2 (some .boolean) (fiB h) [.ref 52, .int x1] h (some (f_X3_isKept x1 h)) := by
  refine T_of [.ref 52, .int x1] (by decide) (fun _ => rfl) (fun _ => Nat.le_of_ble_eq_true rfl) ?_
  show B XC 0 RX3 cX3_isKept 2 (some .boolean) (fiB h) 0 [.ref 52, .int x1] [] h (some (f_X3_isKept x1 h))
  unfold f_X3_isKept
  refine B_iload_n dX3_isKept_0 rfl rfl ?_
  refine C_some ?_
  refine C_if_lt (tgt := 16) dX3_isKept_1 (by decide) (fun q2 => ?_) (fun q2 => ?_)
  · refine B_iconst dX3_isKept_16 ic_0 ?_
    exact B_zreturn dX3_isKept_17 rfl rfl rfl
  · refine B_iload_n dX3_isKept_4 rfl rfl ?_
    refine B_aload_n dX3_isKept_5 rfl rfl ?_
    refine B_getI dX3_isKept_6 fl_X3_27 shC_52 rfl ?_
    refine C_some ?_
    refine C_icmp_ge (tgt := 16) dX3_isKept_9 (by decide) (fun q1 => ?_) (fun q1 => ?_)
    · refine B_iconst dX3_isKept_16 ic_0 ?_
      exact B_zreturn dX3_isKept_17 rfl rfl rfl
    · refine B_iconst dX3_isKept_12 ic_1 ?_
      refine B_goto (tgt := 17) dX3_isKept_13 (by decide) ?_
      exact B_zreturn dX3_isKept_17 rfl rfl rfl
def f_X3_sizeOf (x1 : Int32) (h : dH) : Option (Int32) :=
  if (f_X3_isKept x1 h) then
  if dIn x1 5 then
  some (h.1 65 (dI x1))
  else none
  else
  some 0
set_option maxRecDepth 20000 in
set_option maxHeartbeats 4000000 in
theorem t_X3_sizeOf (x1 : Int32) (h : dH) : T XC 1 yX3_sizeOf cX3_sizeOf 2 (some .int) (fiP h) [.ref 52, .int x1] h (f_X3_sizeOf x1 h) := by
  refine T_of [.ref 52, .int x1] (by decide) (fun _ => rfl) (fun _ => Nat.le_of_ble_eq_true rfl) ?_
  show B XC 1 RX3 cX3_sizeOf 2 (some .int) (fiP h) 0 [.ref 52, .int x1] [] h (f_X3_sizeOf x1 h)
  unfold f_X3_sizeOf
  refine B_aload_n dX3_sizeOf_0 rfl rfl ?_
  refine B_iload_n dX3_sizeOf_1 rfl rfl ?_
  refine B_VTb (st := []) dX3_sizeOf_2 cl_X3_31 (t_X3_isKept x1 h) (Nat.le_of_ble_eq_true rfl) shC_52 rfl rfl (Nat.le_of_ble_eq_true rfl) ?_
  refine C_ifb_eq (tgt := 17) dX3_sizeOf_5 (by decide) (fun q2 => ?_) (fun q2 => ?_)
  · refine B_iconst dX3_sizeOf_17 ic_0 ?_
    exact B_ireturn dX3_sizeOf_18 rfl rfl
  · refine B_aload_n dX3_sizeOf_8 rfl rfl ?_
    refine B_getR dX3_sizeOf_9 fl_X3_19 shC_52 rfl (rfC_52_4 _) ?_
    refine B_iload_n dX3_sizeOf_12 rfl rfl ?_
    refine C_chk (fun q1 => ?_)
    refine L_iald dX3_sizeOf_13 shC_65 q1 rfl ?_
    refine B_goto (tgt := 18) dX3_sizeOf_14 (by decide) ?_
    exact B_ireturn dX3_sizeOf_18 rfl rfl
def f_X3_whatOf (x1 : Int32) (x2 : Int32) (h : dH) : Option (Int32) :=
  if x2 < 0 then
  some (-1)
  else
  (f_X3_sizeOf x1 h).bind fun v1 =>
  if x2 < v1 then
  if dIn x1 5 then
  if dIn x2 16 then
  some (h.1 (54 + dI x1) (dI x2))
  else none
  else none
  else
  some (-1)
set_option maxRecDepth 20000 in
set_option maxHeartbeats 4000000 in
theorem t_X3_whatOf (x1 : Int32) (x2 : Int32) (h : dH) : T XC 2 yX3_whatOf cX3_whatOf 3 (some .int) (fiP h) [.ref 52, .int x1, .int x2] h (f_X3_whatOf x1 x2 h) := by
  refine T_of [.ref 52, .int x1, .int x2] (by decide) (fun _ => rfl) (fun _ => Nat.le_of_ble_eq_true rfl) ?_
  show B XC 2 RX3 cX3_whatOf 3 (some .int) (fiP h) 0 [.ref 52, .int x1, .int x2] [] h (f_X3_whatOf x1 x2 h)
  unfold f_X3_whatOf
  refine B_iload_n dX3_whatOf_0 rfl rfl ?_
  refine C_if_lt (tgt := 24) dX3_whatOf_1 (by decide) (fun q5 => ?_) (fun q5 => ?_)
  · refine B_iconst dX3_whatOf_24 ic_m1 ?_
    exact B_ireturn dX3_whatOf_25 rfl rfl
  · refine B_iload_n dX3_whatOf_4 rfl rfl ?_
    refine B_aload_n dX3_whatOf_5 rfl rfl ?_
    refine B_iload_n dX3_whatOf_6 rfl rfl ?_
    refine B_Vp (st := [.int x2]) dX3_whatOf_7 cl_X3_35 (t_X3_sizeOf x1 h) (Nat.le_of_ble_eq_true rfl) shC_52 rfl rfl (Nat.le_of_ble_eq_true rfl) (fun v1 _ => ?_)
    refine C_icmp_ge (tgt := 24) dX3_whatOf_10 (by decide) (fun q4 => ?_) (fun q4 => ?_)
    · refine B_iconst dX3_whatOf_24 ic_m1 ?_
      exact B_ireturn dX3_whatOf_25 rfl rfl
    · refine B_aload_n dX3_whatOf_13 rfl rfl ?_
      refine B_getR dX3_whatOf_14 fl_X3_13 shC_52 rfl (rfC_52_2 _) ?_
      refine B_iload_n dX3_whatOf_17 rfl rfl ?_
      refine C_chk (fun q2 => ?_)
      refine B_aald dX3_whatOf_18 shC_53 q2 (rrC_53 _ q2) ?_
      refine B_iload_n dX3_whatOf_19 rfl rfl ?_
      refine C_chk (fun q3 => ?_)
      refine L_iald dX3_whatOf_20 (rowC_53 q2) q3 rfl ?_
      refine B_goto (tgt := 25) dX3_whatOf_21 (by decide) ?_
      exact B_ireturn dX3_whatOf_25 rfl rfl
def f_X3_digitOf (x1 : Int32) (x2 : Int32) (h : dH) : Option (Int32) :=
  if x2 < 0 then
  some (-1)
  else
  (f_X3_sizeOf x1 h).bind fun v1 =>
  if x2 < v1 then
  if dIn x1 5 then
  if dIn x2 16 then
  some (h.1 (60 + dI x1) (dI x2))
  else none
  else none
  else
  some (-1)
set_option maxRecDepth 20000 in
set_option maxHeartbeats 4000000 in
theorem t_X3_digitOf (x1 : Int32) (x2 : Int32) (h : dH) : T XC 2 yX3_digitOf cX3_digitOf 3 (some .int) (fiP h) [.ref 52, .int x1, .int x2] h (f_X3_digitOf x1 x2 h) := by
  refine T_of [.ref 52, .int x1, .int x2] (by decide) (fun _ => rfl) (fun _ => Nat.le_of_ble_eq_true rfl) ?_
  show B XC 2 RX3 cX3_digitOf 3 (some .int) (fiP h) 0 [.ref 52, .int x1, .int x2] [] h (f_X3_digitOf x1 x2 h)
  unfold f_X3_digitOf
  refine B_iload_n dX3_digitOf_0 rfl rfl ?_
  refine C_if_lt (tgt := 24) dX3_digitOf_1 (by decide) (fun q5 => ?_) (fun q5 => ?_)
  · refine B_iconst dX3_digitOf_24 ic_m1 ?_
    exact B_ireturn dX3_digitOf_25 rfl rfl
  · refine B_iload_n dX3_digitOf_4 rfl rfl ?_
    refine B_aload_n dX3_digitOf_5 rfl rfl ?_
    refine B_iload_n dX3_digitOf_6 rfl rfl ?_
    refine B_Vp (st := [.int x2]) dX3_digitOf_7 cl_X3_35 (t_X3_sizeOf x1 h) (Nat.le_of_ble_eq_true rfl) shC_52 rfl rfl (Nat.le_of_ble_eq_true rfl) (fun v1 _ => ?_)
    refine C_icmp_ge (tgt := 24) dX3_digitOf_10 (by decide) (fun q4 => ?_) (fun q4 => ?_)
    · refine B_iconst dX3_digitOf_24 ic_m1 ?_
      exact B_ireturn dX3_digitOf_25 rfl rfl
    · refine B_aload_n dX3_digitOf_13 rfl rfl ?_
      refine B_getR dX3_digitOf_14 fl_X3_16 shC_52 rfl (rfC_52_3 _) ?_
      refine B_iload_n dX3_digitOf_17 rfl rfl ?_
      refine C_chk (fun q2 => ?_)
      refine B_aald dX3_digitOf_18 shC_59 q2 (rrC_59 _ q2) ?_
      refine B_iload_n dX3_digitOf_19 rfl rfl ?_
      refine C_chk (fun q3 => ?_)
      refine L_iald dX3_digitOf_20 (rowC_59 q2) q3 rfl ?_
      refine B_goto (tgt := 25) dX3_digitOf_21 (by decide) ?_
      exact B_ireturn dX3_digitOf_25 rfl rfl
def f_X3_readStep_J68 (y1 : Int32) (h : dH) : Option (Bool × dH) :=
  (f_X9_sign h).bind fun rv14 =>
  if (f_X9_isDigit rv14.1 rv14.2) then
  if dIn (rv14.2.1 52 0) 5 then
  if dIn y1 16 then
  (some (dPut rv14.2 (60 + dI (rv14.2.1 52 0)) (dI y1) (rv14.1 - 48))).bind fun h18 =>
  some (true, (dPut h18 1 2 ((h18.1 1 2) + 1)))
  else none
  else none
  else
  some (false, rv14.2)
set_option maxRecDepth 20000 in
set_option maxHeartbeats 4000000 in
theorem b_X3_readStep_J68 (y1 : Int32) (h : dH) : B XC 8 RX3 cX3_readStep 4 (some .boolean) fiC 68 [.ref 52, .int y1, .null, .null] [] h (f_X3_readStep_J68 y1 h) := by
  unfold f_X3_readStep_J68
  refine B_aload_n dX3_readStep_68 rfl rfl ?_
  refine B_getR dX3_readStep_69 fl_X3_23 shC_52 rfl (rfC_52_1 _) ?_
  refine B_VI (st := []) dX3_readStep_72 cl_X3_47 (t_X9_sign h) (Nat.le_of_ble_eq_true rfl) shC_1 rfl rfl (Nat.le_of_ble_eq_true rfl) (fun v14 h15 _ => ?_)
  refine B_istore_n (ls' := [.ref 52, .int y1, .null, .int v14]) dX3_readStep_75 rfl (Nat.le_of_ble_eq_true rfl) rfl rfl ?_
  refine B_iload_n dX3_readStep_76 rfl rfl ?_
  refine B_STb (st := []) dX3_readStep_77 cl_X3_61 (t_X9_isDigit v14 h15) (Nat.le_of_ble_eq_true rfl) rfl rfl (Nat.le_of_ble_eq_true rfl) ?_
  refine C_ifb_ne (tgt := 85) dX3_readStep_80 (by decide) (fun q19 => ?_) (fun q19 => ?_)
  · refine B_aload_n dX3_readStep_85 rfl rfl ?_
    refine B_getR dX3_readStep_86 fl_X3_16 shC_52 rfl (rfC_52_3 _) ?_
    refine B_aload_n dX3_readStep_89 rfl rfl ?_
    refine B_getI dX3_readStep_90 fl_X3_27 shC_52 rfl ?_
    refine C_chk (fun q16 => ?_)
    refine B_aald dX3_readStep_93 shC_59 q16 (rrC_59 _ q16) ?_
    refine B_iload_n dX3_readStep_94 rfl rfl ?_
    refine B_iload_n dX3_readStep_95 rfl rfl ?_
    refine B_bipush dX3_readStep_96 bp_48 ?_
    refine B_isub dX3_readStep_98 ?_
    refine C_chk (fun q17 => ?_)
    refine L_iast dX3_readStep_99 (rowC_59 q16) q17 rfl ?_
    refine B_lh (fun h18 => ?_)
    refine B_aload_n dX3_readStep_100 rfl rfl ?_
    refine B_getR dX3_readStep_101 fl_X3_23 shC_52 rfl (rfC_52_1 _) ?_
    refine B_dup dX3_readStep_104 rfl ?_
    refine B_getI dX3_readStep_105 fl_X3_39 shC_1 rfl ?_
    refine B_iconst dX3_readStep_108 ic_1 ?_
    refine B_iadd dX3_readStep_109 ?_
    refine B_putI dX3_readStep_110 fl_X3_39 fw_X9_2 shC_1 rfl ?_
    refine B_iconst dX3_readStep_113 ic_1 ?_
    exact B_zreturn dX3_readStep_114 rfl rfl rfl
  · refine B_iconst dX3_readStep_83 ic_0 ?_
    exact B_zreturn dX3_readStep_84 rfl rfl rfl
def f_X3_readStep (x1 : Int32) (h : dH) : Option (Bool × dH) :=
  (f_X9_sign h).bind fun rv1 =>
  (some ((f_X11_placeIn 3 rv1.1))).bind fun v3 =>
  if v3 = (-1) then
  some (false, rv1.2)
  else
  (some (dPut rv1.2 1 2 ((rv1.2.1 1 2) + 1))).bind fun h4 =>
  if dIn (h4.1 52 0) 5 then
  if dIn x1 16 then
  (some (dPut h4 (54 + dI (h4.1 52 0)) (dI x1) v3)).bind fun h7 =>
  if dIn (h7.1 52 0) 5 then
  if dIn x1 16 then
  (some (dPut h7 (60 + dI (h7.1 52 0)) (dI x1) (-1))).bind fun h10 =>
  if v3 = 0 then
  f_X3_readStep_J68 x1 h10
  else
  if v3 = 2 then
  f_X3_readStep_J68 x1 h10
  else
  some (true, h10)
  else none
  else none
  else none
  else none
set_option maxRecDepth 20000 in
set_option maxHeartbeats 4000000 in
theorem t_X3_readStep (x1 : Int32) (h : dH) : T XC 8 yX3_readStep cX3_readStep 4 (some .boolean) fiC [.ref 52, .int x1] h (f_X3_readStep x1 h) := by
  refine T_of [.ref 52, .int x1, .null, .null] (by decide) (fun _ => rfl) (fun _ => Nat.le_of_ble_eq_true rfl) ?_
  show B XC 8 RX3 cX3_readStep 4 (some .boolean) fiC 0 [.ref 52, .int x1, .null, .null] [] h (f_X3_readStep x1 h)
  unfold f_X3_readStep
  refine B_ldcS (j := 3) dX3_readStep_0 rfl rfl rfl ?_
  refine B_aload_n dX3_readStep_2 rfl rfl ?_
  refine B_getR dX3_readStep_3 fl_X3_23 shC_52 rfl (rfC_52_1 _) ?_
  refine B_VI (st := [.ref (2000 + 3)]) dX3_readStep_6 cl_X3_47 (t_X9_sign h) (Nat.le_of_ble_eq_true rfl) shC_1 rfl rfl (Nat.le_of_ble_eq_true rfl) (fun v1 h2 _ => ?_)
  refine B_Nt (st := []) dX3_readStep_9 cl_X3_57 (t_X11_placeIn 3 (by decide) v1 h2) (Nat.le_of_ble_eq_true rfl) rfl rfl (Nat.le_of_ble_eq_true rfl) ?_
  refine B_lv (fun v3 => ?_)
  refine B_istore_n (ls' := [.ref 52, .int x1, .int v3, .null]) dX3_readStep_12 rfl (Nat.le_of_ble_eq_true rfl) rfl rfl ?_
  refine B_iload_n dX3_readStep_13 rfl rfl ?_
  refine B_iconst dX3_readStep_14 ic_m1 ?_
  refine C_icmp_ne (tgt := 20) dX3_readStep_15 (by decide) (fun q13 => ?_) (fun q13 => ?_)
  · refine B_aload_n dX3_readStep_20 rfl rfl ?_
    refine B_getR dX3_readStep_21 fl_X3_23 shC_52 rfl (rfC_52_1 _) ?_
    refine B_dup dX3_readStep_24 rfl ?_
    refine B_getI dX3_readStep_25 fl_X3_39 shC_1 rfl ?_
    refine B_iconst dX3_readStep_28 ic_1 ?_
    refine B_iadd dX3_readStep_29 ?_
    refine B_putI dX3_readStep_30 fl_X3_39 fw_X9_2 shC_1 rfl ?_
    refine B_lh (fun h4 => ?_)
    refine B_aload_n dX3_readStep_33 rfl rfl ?_
    refine B_getR dX3_readStep_34 fl_X3_13 shC_52 rfl (rfC_52_2 _) ?_
    refine B_aload_n dX3_readStep_37 rfl rfl ?_
    refine B_getI dX3_readStep_38 fl_X3_27 shC_52 rfl ?_
    refine C_chk (fun q5 => ?_)
    refine B_aald dX3_readStep_41 shC_53 q5 (rrC_53 _ q5) ?_
    refine B_iload_n dX3_readStep_42 rfl rfl ?_
    refine B_iload_n dX3_readStep_43 rfl rfl ?_
    refine C_chk (fun q6 => ?_)
    refine L_iast dX3_readStep_44 (rowC_53 q5) q6 rfl ?_
    refine B_lh (fun h7 => ?_)
    refine B_aload_n dX3_readStep_45 rfl rfl ?_
    refine B_getR dX3_readStep_46 fl_X3_16 shC_52 rfl (rfC_52_3 _) ?_
    refine B_aload_n dX3_readStep_49 rfl rfl ?_
    refine B_getI dX3_readStep_50 fl_X3_27 shC_52 rfl ?_
    refine C_chk (fun q8 => ?_)
    refine B_aald dX3_readStep_53 shC_59 q8 (rrC_59 _ q8) ?_
    refine B_iload_n dX3_readStep_54 rfl rfl ?_
    refine B_iconst dX3_readStep_55 ic_m1 ?_
    refine C_chk (fun q9 => ?_)
    refine L_iast dX3_readStep_56 (rowC_59 q8) q9 rfl ?_
    refine B_lh (fun h10 => ?_)
    refine B_iload_n dX3_readStep_57 rfl rfl ?_
    refine C_if_eq (tgt := 68) dX3_readStep_58 (by decide) (fun q12 => ?_) (fun q12 => ?_)
    · refine B_drop 2 (ls' := [.ref 52, .int x1, .null, .null]) rfl ?_
      exact b_X3_readStep_J68 x1 h10
    · refine B_iload_n dX3_readStep_61 rfl rfl ?_
      refine B_iconst dX3_readStep_62 ic_2 ?_
      refine C_icmp_eq (tgt := 68) dX3_readStep_63 (by decide) (fun q11 => ?_) (fun q11 => ?_)
      · refine B_drop 2 (ls' := [.ref 52, .int x1, .null, .null]) rfl ?_
        exact b_X3_readStep_J68 x1 h10
      · refine B_iconst dX3_readStep_66 ic_1 ?_
        exact B_zreturn dX3_readStep_67 rfl rfl rfl
  · refine B_iconst dX3_readStep_18 ic_0 ?_
    exact B_zreturn dX3_readStep_19 rfl rfl rfl
def f_X3_findFault_L10 : Nat → Int32 → dH → Option (Int32 × dH)
  | 0, _, _ => none
  | n + 1, y1, h =>
    if y1 < 16 then
    (f_X3_readStep y1 h).bind fun rv2 =>
    if rv2.1 then
    if dIn (rv2.2.1 52 0) 5 then
    (some (dPut rv2.2 65 (dI (rv2.2.1 52 0)) (y1 + 1))).bind fun h5 =>
    (f_X9_sign h5).bind fun rv6 =>
    if rv6.1 = (-1) then
    some ((-1), rv6.2)
    else
    if y1 = 15 then
    some ((rv6.2.1 1 2), rv6.2)
    else
    (f_X9_take 59 rv6.2).bind fun rv8 =>
    if rv8.1 then
    (f_X3_findFault_L10 n) (y1 + 1) rv8.2
    else
    some ((rv8.2.1 1 2), rv8.2)
    else none
    else
    some ((rv2.2.1 1 2), rv2.2)
    else
    some ((h.1 1 2), h)
set_option maxRecDepth 20000 in
set_option maxHeartbeats 4000000 in
theorem b_X3_findFault_L10 : ∀ (n : Nat) (y1 : Int32) (h : dH), B XC 9 RX3 cX3_findFault 2 (some .int) fiI 10 [.ref 52, .int y1] [] h (f_X3_findFault_L10 n y1 h) := by
  intro n
  induction n with
  | zero =>
    intro y1 h
    exact B_none
  | succ n ih =>
    intro y1 h
    rw [f_X3_findFault_L10]
    refine B_iload_n dX3_findFault_10 rfl rfl ?_
    refine B_bipush dX3_findFault_11 bp_16 ?_
    refine C_icmp_ge (tgt := 89) dX3_findFault_13 (by decide) (fun q14 => ?_) (fun q14 => ?_)
    · refine B_aload_n dX3_findFault_89 rfl rfl ?_
      refine B_getR dX3_findFault_90 fl_X3_23 shC_52 rfl (rfC_52_1 _) ?_
      refine B_getI dX3_findFault_93 fl_X3_39 shC_1 rfl ?_
      exact B_ireturn dX3_findFault_96 rfl rfl
    · refine B_aload_n dX3_findFault_16 rfl rfl ?_
      refine B_iload_n dX3_findFault_17 rfl rfl ?_
      refine B_VC (st := []) dX3_findFault_18 cl_X3_44 (t_X3_readStep y1 h) (Nat.le_of_ble_eq_true rfl) shC_52 rfl rfl (Nat.le_of_ble_eq_true rfl) (fun v2 h3 _ => ?_)
      refine C_ifb_ne (tgt := 32) dX3_findFault_21 (by decide) (fun q13 => ?_) (fun q13 => ?_)
      · refine B_aload_n dX3_findFault_32 rfl rfl ?_
        refine B_getR dX3_findFault_33 fl_X3_19 shC_52 rfl (rfC_52_4 _) ?_
        refine B_aload_n dX3_findFault_36 rfl rfl ?_
        refine B_getI dX3_findFault_37 fl_X3_27 shC_52 rfl ?_
        refine B_iload_n dX3_findFault_40 rfl rfl ?_
        refine B_iconst dX3_findFault_41 ic_1 ?_
        refine B_iadd dX3_findFault_42 ?_
        refine C_chk (fun q4 => ?_)
        refine L_iast dX3_findFault_43 shC_65 q4 rfl ?_
        refine B_lh (fun h5 => ?_)
        refine B_aload_n dX3_findFault_44 rfl rfl ?_
        refine B_getR dX3_findFault_45 fl_X3_23 shC_52 rfl (rfC_52_1 _) ?_
        refine B_VI (st := []) dX3_findFault_48 cl_X3_47 (t_X9_sign h5) (Nat.le_of_ble_eq_true rfl) shC_1 rfl rfl (Nat.le_of_ble_eq_true rfl) (fun v6 h7 _ => ?_)
        refine B_iconst dX3_findFault_51 ic_m1 ?_
        refine C_icmp_ne (tgt := 57) dX3_findFault_52 (by decide) (fun q12 => ?_) (fun q12 => ?_)
        · refine B_iload_n dX3_findFault_57 rfl rfl ?_
          refine B_bipush dX3_findFault_58 bp_15 ?_
          refine C_icmp_eq (tgt := 75) dX3_findFault_60 (by decide) (fun q11 => ?_) (fun q11 => ?_)
          · refine B_aload_n dX3_findFault_75 rfl rfl ?_
            refine B_getR dX3_findFault_76 fl_X3_23 shC_52 rfl (rfC_52_1 _) ?_
            refine B_getI dX3_findFault_79 fl_X3_39 shC_1 rfl ?_
            exact B_ireturn dX3_findFault_82 rfl rfl
          · refine B_aload_n dX3_findFault_63 rfl rfl ?_
            refine B_getR dX3_findFault_64 fl_X3_23 shC_52 rfl (rfC_52_1 _) ?_
            refine B_bipush dX3_findFault_67 bp_59 ?_
            refine B_VC (st := []) dX3_findFault_69 cl_X3_51 (t_X9_take 59 h7) (Nat.le_of_ble_eq_true rfl) shC_1 rfl rfl (Nat.le_of_ble_eq_true rfl) (fun v8 h9 _ => ?_)
            refine C_ifb_ne (tgt := 83) dX3_findFault_72 (by decide) (fun q10 => ?_) (fun q10 => ?_)
            · refine B_iinc (w := (y1 + 1)) (ls' := [.ref 52, .int (y1 + 1)]) dX3_findFault_83 rfl (congrArg (fun z => y1 + z) ic_1) (Nat.le_of_ble_eq_true rfl) rfl rfl ?_
              refine B_goto (tgt := 10) dX3_findFault_86 (by decide) ?_
              exact ih (y1 + 1)  h9
            · refine B_aload_n dX3_findFault_75 rfl rfl ?_
              refine B_getR dX3_findFault_76 fl_X3_23 shC_52 rfl (rfC_52_1 _) ?_
              refine B_getI dX3_findFault_79 fl_X3_39 shC_1 rfl ?_
              exact B_ireturn dX3_findFault_82 rfl rfl
        · refine B_iconst dX3_findFault_55 ic_m1 ?_
          exact B_ireturn dX3_findFault_56 rfl rfl
      · refine B_aload_n dX3_findFault_24 rfl rfl ?_
        refine B_getR dX3_findFault_25 fl_X3_23 shC_52 rfl (rfC_52_1 _) ?_
        refine B_getI dX3_findFault_28 fl_X3_39 shC_1 rfl ?_
        exact B_ireturn dX3_findFault_31 rfl rfl
def f_X3_findFault (h : dH) : Option (Int32 × dH) :=
  (some (dPut h 1 2 0)).bind fun h1 =>
  f_X3_findFault_L10 dFu 0 h1
set_option maxRecDepth 20000 in
set_option maxHeartbeats 4000000 in
theorem t_X3_findFault (h : dH) : T XC 9 yX3_findFault cX3_findFault 2 (some .int) fiI [.ref 52] h (f_X3_findFault h) := by
  refine T_of [.ref 52, .null] (by decide) (fun _ => rfl) (fun _ => Nat.le_of_ble_eq_true rfl) ?_
  show B XC 9 RX3 cX3_findFault 2 (some .int) fiI 0 [.ref 52, .null] [] h (f_X3_findFault h)
  unfold f_X3_findFault
  refine B_aload_n dX3_findFault_0 rfl rfl ?_
  refine B_getR dX3_findFault_1 fl_X3_23 shC_52 rfl (rfC_52_1 _) ?_
  refine B_iconst dX3_findFault_4 ic_0 ?_
  refine B_putI dX3_findFault_5 fl_X3_39 fw_X9_2 shC_1 rfl ?_
  refine B_lh (fun h1 => ?_)
  refine B_iconst dX3_findFault_8 ic_0 ?_
  refine B_istore_n (ls' := [.ref 52, .int 0]) dX3_findFault_9 rfl (Nat.le_of_ble_eq_true rfl) rfl rfl ?_
  exact b_X3_findFault_L10 dFu 0 h1
def f_X4_rowOf (x0 : Int32) (h : dH) : Option (Int32) :=
  (f_J9_floorMod_7cf53 x0 100).bind fun v1 =>
  some (v1 * 3)
set_option maxRecDepth 20000 in
set_option maxHeartbeats 4000000 in
theorem t_X4_rowOf (x0 : Int32) (h : dH) : T XC 2 yX4_rowOf cX4_rowOf 1 (some .int) (fiP h) [.int x0] h (f_X4_rowOf x0 h) := by
  refine T_of [.int x0] (by decide) (fun _ => rfl) (fun _ => Nat.le_of_ble_eq_true rfl) ?_
  show B XC 2 RX4 cX4_rowOf 1 (some .int) (fiP h) 0 [.int x0] [] h (f_X4_rowOf x0 h)
  unfold f_X4_rowOf
  refine B_iload_n dX4_rowOf_0 rfl rfl ?_
  refine B_bipush dX4_rowOf_1 bp_100 ?_
  refine B_Sp (st := []) dX4_rowOf_3 cl_X4_15 (t_J9_floorMod_7cf53 x0 100 h) (Nat.le_of_ble_eq_true rfl) rfl rfl (Nat.le_of_ble_eq_true rfl) (fun v1 _ => ?_)
  refine B_iconst dX4_rowOf_6 ic_3 ?_
  refine B_imul dX4_rowOf_7 ?_
  exact B_ireturn dX4_rowOf_8 rfl rfl
def f_X4_lengthOn (x0 : Int32) (h : dH) : Int32 :=
  (jmin 60 x0)
set_option maxRecDepth 20000 in
set_option maxHeartbeats 4000000 in
theorem t_X4_lengthOn (x0 : Int32) (h : dH) : T XC 1 yX4_lengthOn cX4_lengthOn 1 (some .int) (fiP h) [.int x0] h (some (f_X4_lengthOn x0 h)) := by
  refine T_of [.int x0] (by decide) (fun _ => rfl) (fun _ => Nat.le_of_ble_eq_true rfl) ?_
  show B XC 1 RX4 cX4_lengthOn 1 (some .int) (fiP h) 0 [.int x0] [] h (some (f_X4_lengthOn x0 h))
  unfold f_X4_lengthOn
  refine B_bipush dX4_lengthOn_0 bp_60 ?_
  refine B_iload_n dX4_lengthOn_2 rfl rfl ?_
  refine B_mmin dX4_lengthOn_3 mt_X4_21 (Nat.le_of_ble_eq_true rfl) (Nat.le_of_ble_eq_true rfl) ?_
  exact B_ireturn dX4_lengthOn_6 rfl rfl
def f_X4_copyFrom (t : Nat) (u : Nat) (h : dH) : Option (dH) :=
  if dCk 0 0 300 300 300 then
  some (dCpy h (u + 1) (t + 1) (dI 0) (dI 0) (dI 300))
  else none
set_option maxRecDepth 20000 in
set_option maxHeartbeats 4000000 in
theorem t_X4_copyFrom (t : Nat) (ht : XC.1[t]? = some (.inl 4)) (u : Nat) (hu : XC.1[u]? = some (.inl 4)) (h : dH) : T XC 1 yX4_copyFrom cX4_copyFrom 2 none fiV [.ref t, .ref u] h (f_X4_copyFrom t u h) := by
  refine T_of [.ref t, .ref u] (by decide) (fun _ => rfl) (fun _ => Nat.le_of_ble_eq_true rfl) ?_
  show B XC 1 RX4 cX4_copyFrom 2 none fiV 0 [.ref t, .ref u] [] h (f_X4_copyFrom t u h)
  unfold f_X4_copyFrom
  refine B_aload_n dX4_copyFrom_0 rfl rfl ?_
  refine B_getR dX4_copyFrom_1 fl_X4_11 hu rfl (rfX4_0 _ hu) ?_
  refine B_iconst dX4_copyFrom_4 ic_0 ?_
  refine B_aload_n dX4_copyFrom_5 rfl rfl ?_
  refine B_getR dX4_copyFrom_6 fl_X4_11 ht rfl (rfX4_0 _ ht) ?_
  refine B_iconst dX4_copyFrom_9 ic_0 ?_
  refine B_aload_n dX4_copyFrom_10 rfl rfl ?_
  refine B_getR dX4_copyFrom_11 fl_X4_11 ht rfl (rfX4_0 _ ht) ?_
  refine B_alen (v := 300) dX4_copyFrom_14 (shX4_0 ht) (by decide) ?_
  refine C_chk (fun q1 => ?_)
  refine L_copy dX4_copyFrom_15 cp_X4_24 (Nat.le_of_ble_eq_true rfl) (Nat.le_of_ble_eq_true rfl) (shX4_0 hu) (shX4_0 ht) q1 ?_
  exact B_return dX4_copyFrom_18 rfl rfl
def f_X8_daysGone (h : dH) : Int32 :=
  (h.1 67 6)
set_option maxRecDepth 20000 in
set_option maxHeartbeats 4000000 in
theorem t_X8_daysGone (h : dH) : T XC 0 yX8_daysGone cX8_daysGone 1 (some .int) (fiP h) [.ref 66] h (some (f_X8_daysGone h)) := by
  refine T_of [.ref 66] (by decide) (fun _ => rfl) (fun _ => Nat.le_of_ble_eq_true rfl) ?_
  show B XC 0 RX8 cX8_daysGone 1 (some .int) (fiP h) 0 [.ref 66] [] h (some (f_X8_daysGone h))
  unfold f_X8_daysGone
  refine B_aload_n dX8_daysGone_0 rfl rfl ?_
  refine B_getR dX8_daysGone_1 fl_X8_11 shC_66 rfl (rfC_66_2 _) ?_
  refine B_bipush dX8_daysGone_4 bp_6 ?_
  refine L_iald dX8_daysGone_6 shC_67 (by decide) di_6 ?_
  exact B_ireturn dX8_daysGone_7 rfl rfl
def f_X8_hour (h : dH) : Int32 :=
  (h.1 67 1)
set_option maxRecDepth 20000 in
set_option maxHeartbeats 4000000 in
theorem t_X8_hour (h : dH) : T XC 0 yX8_hour cX8_hour 1 (some .int) (fiP h) [.ref 66] h (some (f_X8_hour h)) := by
  refine T_of [.ref 66] (by decide) (fun _ => rfl) (fun _ => Nat.le_of_ble_eq_true rfl) ?_
  show B XC 0 RX8 cX8_hour 1 (some .int) (fiP h) 0 [.ref 66] [] h (some (f_X8_hour h))
  unfold f_X8_hour
  refine B_aload_n dX8_hour_0 rfl rfl ?_
  refine B_getR dX8_hour_1 fl_X8_11 shC_66 rfl (rfC_66_2 _) ?_
  refine B_iconst dX8_hour_4 ic_1 ?_
  refine L_iald dX8_hour_5 shC_67 (by decide) di_1 ?_
  exact B_ireturn dX8_hour_6 rfl rfl
def f_X8_patienceOf (t : Nat) (x1 : Int32) (h : dH) : Option (Int32) :=
  if (f_X1_isPlace 3 x1 h) then
  if dIn (21 + x1) 28 then
  some (h.1 (t + 1) (dI (21 + x1)))
  else none
  else
  some 0
set_option maxRecDepth 20000 in
set_option maxHeartbeats 4000000 in
theorem t_X8_patienceOf (t : Nat) (ht : XC.1[t]? = some (.inl 8)) (x1 : Int32) (h : dH) : T XC 1 yX8_patienceOf cX8_patienceOf 2 (some .int) (fiP h) [.ref t, .int x1] h (f_X8_patienceOf t x1 h) := by
  refine T_of [.ref t, .int x1] (by decide) (fun _ => rfl) (fun _ => Nat.le_of_ble_eq_true rfl) ?_
  show B XC 1 RX8 cX8_patienceOf 2 (some .int) (fiP h) 0 [.ref t, .int x1] [] h (f_X8_patienceOf t x1 h)
  unfold f_X8_patienceOf
  refine B_aload_n dX8_patienceOf_0 rfl rfl ?_
  refine B_getR dX8_patienceOf_1 fl_X8_15 ht rfl (rfX8_0 _ ht) ?_
  refine B_iload_n dX8_patienceOf_4 rfl rfl ?_
  refine B_VTb (st := []) dX8_patienceOf_5 cl_X8_35 (t_X1_isPlace 3 shC_3 x1 h) (Nat.le_of_ble_eq_true rfl) shC_3 rfl rfl (Nat.le_of_ble_eq_true rfl) ?_
  refine C_ifb_eq (tgt := 23) dX8_patienceOf_8 (by decide) (fun q2 => ?_) (fun q2 => ?_)
  · refine B_iconst dX8_patienceOf_23 ic_0 ?_
    exact B_ireturn dX8_patienceOf_24 rfl rfl
  · refine B_aload_n dX8_patienceOf_11 rfl rfl ?_
    refine B_getR dX8_patienceOf_12 fl_X8_11 ht rfl (rfX8_2 _ ht) ?_
    refine B_bipush dX8_patienceOf_15 bp_21 ?_
    refine B_iload_n dX8_patienceOf_17 rfl rfl ?_
    refine B_iadd dX8_patienceOf_18 ?_
    refine C_chk (fun q1 => ?_)
    refine L_iald dX8_patienceOf_19 (shX8_2 ht) q1 rfl ?_
    refine B_goto (tgt := 24) dX8_patienceOf_20 (by decide) ?_
    exact B_ireturn dX8_patienceOf_24 rfl rfl
def f_X8_troublesOf (t : Nat) (x1 : Int32) (h : dH) : Option (Int32) :=
  if (f_X1_isPlace 3 x1 h) then
  if dIn (14 + x1) 28 then
  some (h.1 (t + 1) (dI (14 + x1)))
  else none
  else
  some 0
set_option maxRecDepth 20000 in
set_option maxHeartbeats 4000000 in
theorem t_X8_troublesOf (t : Nat) (ht : XC.1[t]? = some (.inl 8)) (x1 : Int32) (h : dH) : T XC 1 yX8_troublesOf cX8_troublesOf 2 (some .int) (fiP h) [.ref t, .int x1] h (f_X8_troublesOf t x1 h) := by
  refine T_of [.ref t, .int x1] (by decide) (fun _ => rfl) (fun _ => Nat.le_of_ble_eq_true rfl) ?_
  show B XC 1 RX8 cX8_troublesOf 2 (some .int) (fiP h) 0 [.ref t, .int x1] [] h (f_X8_troublesOf t x1 h)
  unfold f_X8_troublesOf
  refine B_aload_n dX8_troublesOf_0 rfl rfl ?_
  refine B_getR dX8_troublesOf_1 fl_X8_15 ht rfl (rfX8_0 _ ht) ?_
  refine B_iload_n dX8_troublesOf_4 rfl rfl ?_
  refine B_VTb (st := []) dX8_troublesOf_5 cl_X8_35 (t_X1_isPlace 3 shC_3 x1 h) (Nat.le_of_ble_eq_true rfl) shC_3 rfl rfl (Nat.le_of_ble_eq_true rfl) ?_
  refine C_ifb_eq (tgt := 23) dX8_troublesOf_8 (by decide) (fun q2 => ?_) (fun q2 => ?_)
  · refine B_iconst dX8_troublesOf_23 ic_0 ?_
    exact B_ireturn dX8_troublesOf_24 rfl rfl
  · refine B_aload_n dX8_troublesOf_11 rfl rfl ?_
    refine B_getR dX8_troublesOf_12 fl_X8_11 ht rfl (rfX8_2 _ ht) ?_
    refine B_bipush dX8_troublesOf_15 bp_14 ?_
    refine B_iload_n dX8_troublesOf_17 rfl rfl ?_
    refine B_iadd dX8_troublesOf_18 ?_
    refine C_chk (fun q1 => ?_)
    refine L_iald dX8_troublesOf_19 (shX8_2 ht) q1 rfl ?_
    refine B_goto (tgt := 24) dX8_troublesOf_20 (by decide) ?_
    exact B_ireturn dX8_troublesOf_24 rfl rfl
def f_X8_isTooMuch (x1 : Int32) (x2 : Int32) (h : dH) : Option (Bool) :=
  (f_X8_troublesOf 66 x1 h).bind fun v1 =>
  (f_X8_patienceOf 66 x1 h).bind fun v2 =>
  if v2 < (v1 + x2) then
  some true
  else
  some false
set_option maxRecDepth 20000 in
set_option maxHeartbeats 4000000 in
theorem t_X8_isTooMuch (x1 : Int32) (x2 : Int32) (h : dH) : T XC 2 yX8_isTooMuch cX8_isTooMuch 3 (some .boolean) (fiB h) [.ref 66, .int x1, .int x2] h (f_X8_isTooMuch x1 x2 h) := by
  refine T_of [.ref 66, .int x1, .int x2] (by decide) (fun _ => rfl) (fun _ => Nat.le_of_ble_eq_true rfl) ?_
  show B XC 2 RX8 cX8_isTooMuch 3 (some .boolean) (fiB h) 0 [.ref 66, .int x1, .int x2] [] h (f_X8_isTooMuch x1 x2 h)
  unfold f_X8_isTooMuch
  refine B_aload_n dX8_isTooMuch_0 rfl rfl ?_
  refine B_iload_n dX8_isTooMuch_1 rfl rfl ?_
  refine B_Vp (st := []) dX8_isTooMuch_2 cl_X8_39 (t_X8_troublesOf 66 shC_66 x1 h) (Nat.le_of_ble_eq_true rfl) shC_66 rfl rfl (Nat.le_of_ble_eq_true rfl) (fun v1 _ => ?_)
  refine B_iload_n dX8_isTooMuch_5 rfl rfl ?_
  refine B_iadd dX8_isTooMuch_6 ?_
  refine B_aload_n dX8_isTooMuch_7 rfl rfl ?_
  refine B_iload_n dX8_isTooMuch_8 rfl rfl ?_
  refine B_Vp (st := [.int (v1 + x2)]) dX8_isTooMuch_9 cl_X8_43 (t_X8_patienceOf 66 shC_66 x1 h) (Nat.le_of_ble_eq_true rfl) shC_66 rfl rfl (Nat.le_of_ble_eq_true rfl) (fun v2 _ => ?_)
  refine C_icmp_le (tgt := 19) dX8_isTooMuch_12 (by decide) (fun q3 => ?_) (fun q3 => ?_)
  · refine B_iconst dX8_isTooMuch_19 ic_0 ?_
    exact B_zreturn dX8_isTooMuch_20 rfl rfl rfl
  · refine B_iconst dX8_isTooMuch_15 ic_1 ?_
    refine B_goto (tgt := 20) dX8_isTooMuch_16 (by decide) ?_
    exact B_zreturn dX8_isTooMuch_20 rfl rfl rfl
def f_X8_tooMuch_J30 (kL4 : Int32 → Int32 → Option (Int32)) (y1 : Int32) (y2 : Int32) (h : dH) : Option (Int32) :=
  kL4 y1 (y2 + 1)
set_option maxRecDepth 20000 in
set_option maxHeartbeats 4000000 in
theorem b_X8_tooMuch_J30 {kL4 : Int32 → Int32 → Option (Int32)} (h : dH) (hkL4 : ∀ (y1 : Int32) (y2 : Int32), B XC 3 RX8 cX8_tooMuch 3 (some .int) (fiP h) 4 [.ref 66, .int y1, .int y2] [] h (kL4 y1 y2)) (y1 : Int32) (y2 : Int32) : B XC 3 RX8 cX8_tooMuch 3 (some .int) (fiP h) 30 [.ref 66, .int y1, .int y2] [] h (f_X8_tooMuch_J30 kL4 y1 y2 h) := by
  unfold f_X8_tooMuch_J30
  refine B_iinc (w := (y2 + 1)) (ls' := [.ref 66, .int y1, .int (y2 + 1)]) dX8_tooMuch_30 rfl (congrArg (fun z => y2 + z) ic_1) (Nat.le_of_ble_eq_true rfl) rfl rfl ?_
  refine B_goto (tgt := 4) dX8_tooMuch_33 (by decide) ?_
  exact hkL4 y1 (y2 + 1)  
def f_X8_tooMuch_L4 (h : dH) : Nat → Int32 → Int32 → Option (Int32)
  | 0, _, _ => none
  | n + 1, y1, y2 =>
    if y2 < (h.1 3 2) then
    (f_X8_isTooMuch y2 0 h).bind fun v1 =>
    if v1 then
    (some ((y1 ||| (1 <<< (y2 &&& 31))))).bind fun v2 =>
    f_X8_tooMuch_J30 (f_X8_tooMuch_L4 h n) v2 y2 h
    else
    f_X8_tooMuch_J30 (f_X8_tooMuch_L4 h n) y1 y2 h
    else
    some y1
set_option maxRecDepth 20000 in
set_option maxHeartbeats 4000000 in
theorem b_X8_tooMuch_L4 (h : dH) : ∀ (n : Nat) (y1 : Int32) (y2 : Int32), B XC 3 RX8 cX8_tooMuch 3 (some .int) (fiP h) 4 [.ref 66, .int y1, .int y2] [] h (f_X8_tooMuch_L4 h n y1 y2) := by
  intro n
  induction n with
  | zero =>
    intro y1 y2
    exact B_none
  | succ n ih =>
    intro y1 y2
    rw [f_X8_tooMuch_L4]
    refine B_iload_n dX8_tooMuch_4 rfl rfl ?_
    refine B_aload_n dX8_tooMuch_5 rfl rfl ?_
    refine B_getR dX8_tooMuch_6 fl_X8_15 shC_66 rfl (rfC_66_0 _) ?_
    refine B_getI dX8_tooMuch_9 fl_X8_46 shC_3 rfl ?_
    refine C_icmp_ge (tgt := 36) dX8_tooMuch_12 (by decide) (fun q4 => ?_) (fun q4 => ?_)
    · refine B_iload_n dX8_tooMuch_36 rfl rfl ?_
      exact B_ireturn dX8_tooMuch_37 rfl rfl
    · refine B_aload_n dX8_tooMuch_15 rfl rfl ?_
      refine B_iload_n dX8_tooMuch_16 rfl rfl ?_
      refine B_iconst dX8_tooMuch_17 ic_0 ?_
      refine B_Vpb (st := []) dX8_tooMuch_18 cl_X8_50 (t_X8_isTooMuch y2 0 h) (Nat.le_of_ble_eq_true rfl) shC_66 rfl rfl (Nat.le_of_ble_eq_true rfl) (fun v1 _ => ?_)
      refine C_ifb_eq (tgt := 30) dX8_tooMuch_21 (by decide) (fun q3 => ?_) (fun q3 => ?_)
      · exact b_X8_tooMuch_J30 h (fun qy1 qy2 => ih qy1 qy2) y1 y2
      · refine B_iload_n dX8_tooMuch_24 rfl rfl ?_
        refine B_iconst dX8_tooMuch_25 ic_1 ?_
        refine B_iload_n dX8_tooMuch_26 rfl rfl ?_
        refine B_ishl dX8_tooMuch_27 ?_
        refine B_ior dX8_tooMuch_28 ?_
        refine B_lv (fun v2 => ?_)
        refine B_istore_n (ls' := [.ref 66, .int v2, .int y2]) dX8_tooMuch_29 rfl (Nat.le_of_ble_eq_true rfl) rfl rfl ?_
        exact b_X8_tooMuch_J30 h (fun qy1 qy2 => ih qy1 qy2) v2 y2
def f_X8_tooMuch (h : dH) : Option (Int32) :=
  f_X8_tooMuch_L4 h dFu 0 0
set_option maxRecDepth 20000 in
set_option maxHeartbeats 4000000 in
theorem t_X8_tooMuch (h : dH) : T XC 3 yX8_tooMuch cX8_tooMuch 3 (some .int) (fiP h) [.ref 66] h (f_X8_tooMuch h) := by
  refine T_of [.ref 66, .null, .null] (by decide) (fun _ => rfl) (fun _ => Nat.le_of_ble_eq_true rfl) ?_
  show B XC 3 RX8 cX8_tooMuch 3 (some .int) (fiP h) 0 [.ref 66, .null, .null] [] h (f_X8_tooMuch h)
  unfold f_X8_tooMuch
  refine B_iconst dX8_tooMuch_0 ic_0 ?_
  refine B_istore_n (ls' := [.ref 66, .int 0, .null]) dX8_tooMuch_1 rfl (Nat.le_of_ble_eq_true rfl) rfl rfl ?_
  refine B_iconst dX8_tooMuch_2 ic_0 ?_
  refine B_istore_n (ls' := [.ref 66, .int 0, .int 0]) dX8_tooMuch_3 rfl (Nat.le_of_ble_eq_true rfl) rfl rfl ?_
  exact b_X8_tooMuch_L4 h dFu 0 0
def f_X8_seenToday (h : dH) : Int32 :=
  (h.1 67 3)
set_option maxRecDepth 20000 in
set_option maxHeartbeats 4000000 in
theorem t_X8_seenToday (h : dH) : T XC 0 yX8_seenToday cX8_seenToday 1 (some .int) (fiP h) [.ref 66] h (some (f_X8_seenToday h)) := by
  refine T_of [.ref 66] (by decide) (fun _ => rfl) (fun _ => Nat.le_of_ble_eq_true rfl) ?_
  show B XC 0 RX8 cX8_seenToday 1 (some .int) (fiP h) 0 [.ref 66] [] h (some (f_X8_seenToday h))
  unfold f_X8_seenToday
  refine B_aload_n dX8_seenToday_0 rfl rfl ?_
  refine B_getR dX8_seenToday_1 fl_X8_11 shC_66 rfl (rfC_66_2 _) ?_
  refine B_iconst dX8_seenToday_4 ic_3 ?_
  refine L_iald dX8_seenToday_5 shC_67 (by decide) di_3 ?_
  exact B_ireturn dX8_seenToday_6 rfl rfl
def f_X4_write (h : dH) : Option (dH) :=
  (f_X4_rowOf (f_X8_daysGone h) h).bind fun v1 =>
  if dIn v1 300 then
  (some (dPut h 73 (dI v1) (f_X8_hour h))).bind fun h3 =>
  if dIn (v1 + 1) 300 then
  (some (dPut h3 73 (dI (v1 + 1)) (f_X8_seenToday h3))).bind fun h5 =>
  (f_X8_tooMuch h5).bind fun v6 =>
  if dIn (v1 + 2) 300 then
  some (dPut h5 73 (dI (v1 + 2)) v6)
  else none
  else none
  else none
set_option maxRecDepth 20000 in
set_option maxHeartbeats 4000000 in
theorem t_X4_write (h : dH) : T XC 4 yX4_write cX4_write 3 none fiV [.ref 72, .ref 66] h (f_X4_write h) := by
  refine T_of [.ref 72, .ref 66, .null] (by decide) (fun _ => rfl) (fun _ => Nat.le_of_ble_eq_true rfl) ?_
  show B XC 4 RX4 cX4_write 3 none fiV 0 [.ref 72, .ref 66, .null] [] h (f_X4_write h)
  unfold f_X4_write
  refine B_aload_n dX4_write_0 rfl rfl ?_
  refine B_Vt (st := []) dX4_write_1 cl_X4_30 (t_X8_daysGone h) (Nat.le_of_ble_eq_true rfl) shC_66 rfl rfl (Nat.le_of_ble_eq_true rfl) ?_
  refine B_Sp (st := []) dX4_write_4 cl_X4_36 (t_X4_rowOf (f_X8_daysGone h) h) (Nat.le_of_ble_eq_true rfl) rfl rfl (Nat.le_of_ble_eq_true rfl) (fun v1 _ => ?_)
  refine B_istore_n (ls' := [.ref 72, .ref 66, .int v1]) dX4_write_7 rfl (Nat.le_of_ble_eq_true rfl) rfl rfl ?_
  refine B_aload_n dX4_write_8 rfl rfl ?_
  refine B_getR dX4_write_9 fl_X4_11 shC_72 rfl (rfC_72_0 _) ?_
  refine B_iload_n dX4_write_12 rfl rfl ?_
  refine B_aload_n dX4_write_13 rfl rfl ?_
  refine B_Vt (st := [.int v1, .ref 73]) dX4_write_14 cl_X4_40 (t_X8_hour h) (Nat.le_of_ble_eq_true rfl) shC_66 rfl rfl (Nat.le_of_ble_eq_true rfl) ?_
  refine C_chk (fun q2 => ?_)
  refine L_iast dX4_write_17 shC_73 q2 rfl ?_
  refine B_lh (fun h3 => ?_)
  refine B_aload_n dX4_write_18 rfl rfl ?_
  refine B_getR dX4_write_19 fl_X4_11 shC_72 rfl (rfC_72_0 _) ?_
  refine B_iload_n dX4_write_22 rfl rfl ?_
  refine B_iconst dX4_write_23 ic_1 ?_
  refine B_iadd dX4_write_24 ?_
  refine B_aload_n dX4_write_25 rfl rfl ?_
  refine B_Vt (st := [.int (v1 + 1), .ref 73]) dX4_write_26 cl_X4_43 (t_X8_seenToday h3) (Nat.le_of_ble_eq_true rfl) shC_66 rfl rfl (Nat.le_of_ble_eq_true rfl) ?_
  refine C_chk (fun q4 => ?_)
  refine L_iast dX4_write_29 shC_73 q4 rfl ?_
  refine B_lh (fun h5 => ?_)
  refine B_aload_n dX4_write_30 rfl rfl ?_
  refine B_getR dX4_write_31 fl_X4_11 shC_72 rfl (rfC_72_0 _) ?_
  refine B_iload_n dX4_write_34 rfl rfl ?_
  refine B_iconst dX4_write_35 ic_2 ?_
  refine B_iadd dX4_write_36 ?_
  refine B_aload_n dX4_write_37 rfl rfl ?_
  refine B_Vp (st := [.int (v1 + 2), .ref 73]) dX4_write_38 cl_X4_46 (t_X8_tooMuch h5) (Nat.le_of_ble_eq_true rfl) shC_66 rfl rfl (Nat.le_of_ble_eq_true rfl) (fun v6 _ => ?_)
  refine C_chk (fun q7 => ?_)
  refine L_iast dX4_write_41 shC_73 q7 rfl ?_
  exact B_return dX4_write_42 rfl rfl
def f_X4_read (x1 : Int32) (x2 : Int32) (x3 : Int32) (h : dH) : Option (Int32) :=
  if x2 < 0 then
  some (-1)
  else
  if x2 < (f_X4_lengthOn x1 h) then
  if x3 < 0 then
  some (-1)
  else
  if x3 < 3 then
  (f_X4_rowOf ((x1 - 1) - x2) h).bind fun v1 =>
  if dIn (v1 + x3) 300 then
  some (h.1 73 (dI (v1 + x3)))
  else none
  else
  some (-1)
  else
  some (-1)
set_option maxRecDepth 20000 in
set_option maxHeartbeats 4000000 in
theorem t_X4_read (x1 : Int32) (x2 : Int32) (x3 : Int32) (h : dH) : T XC 3 yX4_read cX4_read 4 (some .int) (fiP h) [.ref 72, .int x1, .int x2, .int x3] h (f_X4_read x1 x2 x3 h) := by
  refine T_of [.ref 72, .int x1, .int x2, .int x3] (by decide) (fun _ => rfl) (fun _ => Nat.le_of_ble_eq_true rfl) ?_
  show B XC 3 RX4 cX4_read 4 (some .int) (fiP h) 0 [.ref 72, .int x1, .int x2, .int x3] [] h (f_X4_read x1 x2 x3 h)
  unfold f_X4_read
  refine B_iload_n dX4_read_0 rfl rfl ?_
  refine C_if_lt (tgt := 21) dX4_read_1 (by decide) (fun q6 => ?_) (fun q6 => ?_)
  · refine B_iconst dX4_read_21 ic_m1 ?_
    exact B_ireturn dX4_read_22 rfl rfl
  · refine B_iload_n dX4_read_4 rfl rfl ?_
    refine B_iload_n dX4_read_5 rfl rfl ?_
    refine B_St (st := [.int x2]) dX4_read_6 cl_X4_49 (t_X4_lengthOn x1 h) (Nat.le_of_ble_eq_true rfl) rfl rfl (Nat.le_of_ble_eq_true rfl) ?_
    refine C_icmp_ge (tgt := 21) dX4_read_9 (by decide) (fun q5 => ?_) (fun q5 => ?_)
    · refine B_iconst dX4_read_21 ic_m1 ?_
      exact B_ireturn dX4_read_22 rfl rfl
    · refine B_iload_n dX4_read_12 rfl rfl ?_
      refine C_if_lt (tgt := 21) dX4_read_13 (by decide) (fun q4 => ?_) (fun q4 => ?_)
      · refine B_iconst dX4_read_21 ic_m1 ?_
        exact B_ireturn dX4_read_22 rfl rfl
      · refine B_iload_n dX4_read_16 rfl rfl ?_
        refine B_iconst dX4_read_17 ic_3 ?_
        refine C_icmp_lt (tgt := 23) dX4_read_18 (by decide) (fun q3 => ?_) (fun q3 => ?_)
        · refine B_aload_n dX4_read_23 rfl rfl ?_
          refine B_getR dX4_read_24 fl_X4_11 shC_72 rfl (rfC_72_0 _) ?_
          refine B_iload_n dX4_read_27 rfl rfl ?_
          refine B_iconst dX4_read_28 ic_1 ?_
          refine B_isub dX4_read_29 ?_
          refine B_iload_n dX4_read_30 rfl rfl ?_
          refine B_isub dX4_read_31 ?_
          refine B_Sp (st := [.ref 73]) dX4_read_32 cl_X4_36 (t_X4_rowOf ((x1 - 1) - x2) h) (Nat.le_of_ble_eq_true rfl) rfl rfl (Nat.le_of_ble_eq_true rfl) (fun v1 _ => ?_)
          refine B_iload_n dX4_read_35 rfl rfl ?_
          refine B_iadd dX4_read_36 ?_
          refine C_chk (fun q2 => ?_)
          refine L_iald dX4_read_37 shC_73 q2 rfl ?_
          exact B_ireturn dX4_read_38 rfl rfl
        · refine B_iconst dX4_read_21 ic_m1 ?_
          exact B_ireturn dX4_read_22 rfl rfl
def f_X5_keepDraft (h : dH) : Option (Int32 × dH) :=
  if (h.1 42 1) < 4 then
  some ((((dPut h 42 1 ((h.1 42 1) + 1)).1 42 1) - 1), (dPut h 42 1 ((h.1 42 1) + 1)))
  else
  some ((-1), h)
set_option maxRecDepth 20000 in
set_option maxHeartbeats 4000000 in
theorem t_X5_keepDraft (h : dH) : T XC 0 yX5_keepDraft cX5_keepDraft 1 (some .int) fiI [.ref 42] h (f_X5_keepDraft h) := by
  refine T_of [.ref 42] (by decide) (fun _ => rfl) (fun _ => Nat.le_of_ble_eq_true rfl) ?_
  show B XC 0 RX5 cX5_keepDraft 1 (some .int) fiI 0 [.ref 42] [] h (f_X5_keepDraft h)
  unfold f_X5_keepDraft
  refine B_aload_n dX5_keepDraft_0 rfl rfl ?_
  refine B_getI dX5_keepDraft_1 fl_X5_34 shC_42 rfl ?_
  refine B_iconst dX5_keepDraft_4 ic_4 ?_
  refine C_icmp_lt (tgt := 10) dX5_keepDraft_5 (by decide) (fun q1 => ?_) (fun q1 => ?_)
  · refine B_aload_n dX5_keepDraft_10 rfl rfl ?_
    refine B_dup dX5_keepDraft_11 rfl ?_
    refine B_getI dX5_keepDraft_12 fl_X5_34 shC_42 rfl ?_
    refine B_iconst dX5_keepDraft_15 ic_1 ?_
    refine B_iadd dX5_keepDraft_16 ?_
    refine B_putI dX5_keepDraft_17 fl_X5_34 fw_X5_1 shC_42 rfl ?_
    refine B_aload_n dX5_keepDraft_20 rfl rfl ?_
    refine B_getI dX5_keepDraft_21 fl_X5_34 shC_42 rfl ?_
    refine B_iconst dX5_keepDraft_24 ic_1 ?_
    refine B_isub dX5_keepDraft_25 ?_
    exact B_ireturn dX5_keepDraft_26 rfl rfl
  · refine B_iconst dX5_keepDraft_8 ic_m1 ?_
    exact B_ireturn dX5_keepDraft_9 rfl rfl
def f_X5_add (x1 : Int32) (h : dH) : Option (dH) :=
  if dIn (h.1 42 1) 5 then
  (some ((h.1 50 (dI (h.1 42 1))))).bind fun v2 =>
  if v2 < 240 then
  if dIn (h.1 42 1) 5 then
  if dIn v2 240 then
  (some (dPut h (45 + dI (h.1 42 1)) (dI v2) x1)).bind fun h5 =>
  if dIn (h5.1 42 1) 5 then
  some (dPut h5 50 (dI (h5.1 42 1)) (v2 + 1))
  else none
  else none
  else none
  else
  some h
  else none
set_option maxRecDepth 20000 in
set_option maxHeartbeats 4000000 in
theorem t_X5_add (x1 : Int32) (h : dH) : T XC 0 yX5_add cX5_add 3 none fiV [.ref 42, .int x1] h (f_X5_add x1 h) := by
  refine T_of [.ref 42, .int x1, .null] (by decide) (fun _ => rfl) (fun _ => Nat.le_of_ble_eq_true rfl) ?_
  show B XC 0 RX5 cX5_add 3 none fiV 0 [.ref 42, .int x1, .null] [] h (f_X5_add x1 h)
  unfold f_X5_add
  refine B_aload_n dX5_add_0 rfl rfl ?_
  refine B_getR dX5_add_1 fl_X5_24 shC_42 rfl (rfC_42_5 _) ?_
  refine B_aload_n dX5_add_4 rfl rfl ?_
  refine B_getI dX5_add_5 fl_X5_34 shC_42 rfl ?_
  refine C_chk (fun q1 => ?_)
  refine L_iald dX5_add_8 shC_50 q1 rfl ?_
  refine B_lv (fun v2 => ?_)
  refine B_istore_n (ls' := [.ref 42, .int x1, .int v2]) dX5_add_9 rfl (Nat.le_of_ble_eq_true rfl) rfl rfl ?_
  refine B_iload_n dX5_add_10 rfl rfl ?_
  refine B_sipush dX5_add_11 sp_240 ?_
  refine C_icmp_ge (tgt := 41) dX5_add_14 (by decide) (fun q7 => ?_) (fun q7 => ?_)
  · exact B_return dX5_add_41 rfl rfl
  · refine B_aload_n dX5_add_17 rfl rfl ?_
    refine B_getR dX5_add_18 fl_X5_21 shC_42 rfl (rfC_42_4 _) ?_
    refine B_aload_n dX5_add_21 rfl rfl ?_
    refine B_getI dX5_add_22 fl_X5_34 shC_42 rfl ?_
    refine C_chk (fun q3 => ?_)
    refine B_aald dX5_add_25 shC_44 q3 (rrC_44 _ q3) ?_
    refine B_iload_n dX5_add_26 rfl rfl ?_
    refine B_iload_n dX5_add_27 rfl rfl ?_
    refine C_chk (fun q4 => ?_)
    refine L_iast dX5_add_28 (rowC_44 q3) q4 rfl ?_
    refine B_lh (fun h5 => ?_)
    refine B_aload_n dX5_add_29 rfl rfl ?_
    refine B_getR dX5_add_30 fl_X5_24 shC_42 rfl (rfC_42_5 _) ?_
    refine B_aload_n dX5_add_33 rfl rfl ?_
    refine B_getI dX5_add_34 fl_X5_34 shC_42 rfl ?_
    refine B_iload_n dX5_add_37 rfl rfl ?_
    refine B_iconst dX5_add_38 ic_1 ?_
    refine B_iadd dX5_add_39 ?_
    refine C_chk (fun q6 => ?_)
    refine L_iast dX5_add_40 shC_50 q6 rfl ?_
    exact B_return dX5_add_41 rfl rfl
def f_X5_isComparing (x0 : Int32) (h : dH) : Bool :=
  if x0 = 61 then
  true
  else
  if x0 = 60 then
  true
  else
  if x0 = 62 then
  true
  else
  false
set_option maxRecDepth 20000 in
set_option maxHeartbeats 4000000 in
theorem t_X5_isComparing (x0 : Int32) (h : dH) : T XC 0 yX5_isComparing cX5_isComparing 1 (some .boolean) (fiB h) [.int x0] h (some (f_X5_isComparing x0 h)) := by
  refine T_of [.int x0] (by decide) (fun _ => rfl) (fun _ => Nat.le_of_ble_eq_true rfl) ?_
  show B XC 0 RX5 cX5_isComparing 1 (some .boolean) (fiB h) 0 [.int x0] [] h (some (f_X5_isComparing x0 h))
  unfold f_X5_isComparing
  refine B_iload_n dX5_isComparing_0 rfl rfl ?_
  refine B_bipush dX5_isComparing_1 bp_61 ?_
  refine C_some ?_
  refine C_icmp_eq (tgt := 18) dX5_isComparing_3 (by decide) (fun q3 => ?_) (fun q3 => ?_)
  · refine B_iconst dX5_isComparing_18 ic_1 ?_
    refine B_goto (tgt := 23) dX5_isComparing_19 (by decide) ?_
    exact B_zreturn dX5_isComparing_23 rfl rfl rfl
  · refine B_iload_n dX5_isComparing_6 rfl rfl ?_
    refine B_bipush dX5_isComparing_7 bp_60 ?_
    refine C_some ?_
    refine C_icmp_eq (tgt := 18) dX5_isComparing_9 (by decide) (fun q2 => ?_) (fun q2 => ?_)
    · refine B_iconst dX5_isComparing_18 ic_1 ?_
      refine B_goto (tgt := 23) dX5_isComparing_19 (by decide) ?_
      exact B_zreturn dX5_isComparing_23 rfl rfl rfl
    · refine B_iload_n dX5_isComparing_12 rfl rfl ?_
      refine B_bipush dX5_isComparing_13 bp_62 ?_
      refine C_some ?_
      refine C_icmp_ne (tgt := 22) dX5_isComparing_15 (by decide) (fun q1 => ?_) (fun q1 => ?_)
      · refine B_iconst dX5_isComparing_22 ic_0 ?_
        exact B_zreturn dX5_isComparing_23 rfl rfl rfl
      · refine B_iconst dX5_isComparing_18 ic_1 ?_
        refine B_goto (tgt := 23) dX5_isComparing_19 (by decide) ?_
        exact B_zreturn dX5_isComparing_23 rfl rfl rfl
def f_X5_isNesting (x0 : Int32) (h : dH) : Bool :=
  if x0 = 33 then
  true
  else
  if x0 = 40 then
  true
  else
  false
set_option maxRecDepth 20000 in
set_option maxHeartbeats 4000000 in
theorem t_X5_isNesting (x0 : Int32) (h : dH) : T XC 0 yX5_isNesting cX5_isNesting 1 (some .boolean) (fiB h) [.int x0] h (some (f_X5_isNesting x0 h)) := by
  refine T_of [.int x0] (by decide) (fun _ => rfl) (fun _ => Nat.le_of_ble_eq_true rfl) ?_
  show B XC 0 RX5 cX5_isNesting 1 (some .boolean) (fiB h) 0 [.int x0] [] h (some (f_X5_isNesting x0 h))
  unfold f_X5_isNesting
  refine B_iload_n dX5_isNesting_0 rfl rfl ?_
  refine B_bipush dX5_isNesting_1 bp_33 ?_
  refine C_some ?_
  refine C_icmp_eq (tgt := 12) dX5_isNesting_3 (by decide) (fun q2 => ?_) (fun q2 => ?_)
  · refine B_iconst dX5_isNesting_12 ic_1 ?_
    refine B_goto (tgt := 17) dX5_isNesting_13 (by decide) ?_
    exact B_zreturn dX5_isNesting_17 rfl rfl rfl
  · refine B_iload_n dX5_isNesting_6 rfl rfl ?_
    refine B_bipush dX5_isNesting_7 bp_40 ?_
    refine C_some ?_
    refine C_icmp_ne (tgt := 16) dX5_isNesting_9 (by decide) (fun q1 => ?_) (fun q1 => ?_)
    · refine B_iconst dX5_isNesting_16 ic_0 ?_
      exact B_zreturn dX5_isNesting_17 rfl rfl rfl
    · refine B_iconst dX5_isNesting_12 ic_1 ?_
      refine B_goto (tgt := 17) dX5_isNesting_13 (by decide) ?_
      exact B_zreturn dX5_isNesting_17 rfl rfl rfl
def f_X5_readSum_J41 (rc_X5_readSum : Int32 → dH → Option (Bool × dH)) (rc_X5_readTerm : Int32 → dH → Option (Bool × dH)) (rc_X5_readAtom : Int32 → dH → Option (Bool × dH)) (kL12 : Int32 → Int32 → dH → Option (Bool × dH)) (y1 : Int32) (y2 : Int32) (y3 : Int32) (h : dH) : Option (Bool × dH) :=
  (some (dPut h 1 2 ((h.1 1 2) + 1))).bind fun h9 =>
  (rc_X5_readTerm y1 h9).bind fun rv10 =>
  if rv10.1 then
  (f_X5_add (-y3) rv10.2).bind fun h13 =>
  kL12 y1 (y2 + 1) h13
  else
  some (false, rv10.2)
set_option maxRecDepth 20000 in
set_option maxHeartbeats 4000000 in
theorem b_X5_readSum_J41 {Dr : Nat} {rc_X5_readSum : Int32 → dH → Option (Bool × dH)} {rc_X5_readTerm : Int32 → dH → Option (Bool × dH)} {rc_X5_readAtom : Int32 → dH → Option (Bool × dH)} {kL12 : Int32 → Int32 → dH → Option (Bool × dH)} (hDr : 8 ≤ Dr) (hrc_X5_readSum : ∀ (x1 : Int32) (h : dH), T XC Dr yX5_readSum cX5_readSum 4 (some .boolean) fiC [.ref 42, .int x1] h (rc_X5_readSum x1 h)) (hrc_X5_readTerm : ∀ (x1 : Int32) (h : dH), T XC Dr yX5_readTerm cX5_readTerm 4 (some .boolean) fiC [.ref 42, .int x1] h (rc_X5_readTerm x1 h)) (hrc_X5_readAtom : ∀ (x1 : Int32) (h : dH), T XC Dr yX5_readAtom cX5_readAtom 4 (some .boolean) fiC [.ref 42, .int x1] h (rc_X5_readAtom x1 h)) (hkL12 : ∀ (y1 : Int32) (y2 : Int32) (h : dH), B XC (Dr + 1) RX5 cX5_readSum 4 (some .boolean) fiC 12 [.ref 42, .int y1, .int y2, .null] [] h (kL12 y1 y2 h)) (y1 : Int32) (y2 : Int32) (y3 : Int32) (h : dH) : B XC (Dr + 1) RX5 cX5_readSum 4 (some .boolean) fiC 41 [.ref 42, .int y1, .int y2, .int y3] [] h (f_X5_readSum_J41 rc_X5_readSum rc_X5_readTerm rc_X5_readAtom kL12 y1 y2 y3 h) := by
  unfold f_X5_readSum_J41
  refine B_aload_n dX5_readSum_41 rfl rfl ?_
  refine B_getR dX5_readSum_42 fl_X5_30 shC_42 rfl (rfC_42_3 _) ?_
  refine B_dup dX5_readSum_45 rfl ?_
  refine B_getI dX5_readSum_46 fl_X5_37 shC_1 rfl ?_
  refine B_iconst dX5_readSum_49 ic_1 ?_
  refine B_iadd dX5_readSum_50 ?_
  refine B_putI dX5_readSum_51 fl_X5_37 fw_X9_2 shC_1 rfl ?_
  refine B_lh (fun h9 => ?_)
  refine B_aload_n dX5_readSum_54 rfl rfl ?_
  refine B_iload_n dX5_readSum_55 rfl rfl ?_
  refine B_VC (st := []) dX5_readSum_56 cl_X5_81 (hrc_X5_readTerm y1 h9) (by omega) shC_42 rfl rfl (Nat.le_of_ble_eq_true rfl) (fun v10 h11 _ => ?_)
  refine C_ifb_ne (tgt := 64) dX5_readSum_59 (by decide) (fun q14 => ?_) (fun q14 => ?_)
  · refine B_aload_n dX5_readSum_64 rfl rfl ?_
    refine B_iload_n dX5_readSum_65 rfl rfl ?_
    refine B_ineg dX5_readSum_66 ?_
    refine B_VV (st := []) dX5_readSum_67 cl_X5_68 (t_X5_add (-y3) h11) (by omega) shC_42 rfl rfl (Nat.le_of_ble_eq_true rfl) (fun h13 _ => ?_)
    refine B_iinc (w := (y2 + 1)) (ls' := [.ref 42, .int y1, .int (y2 + 1), .int y3]) dX5_readSum_70 rfl (congrArg (fun z => y2 + z) ic_1) (Nat.le_of_ble_eq_true rfl) rfl rfl ?_
    refine B_goto (tgt := 12) dX5_readSum_73 (by decide) ?_
    refine B_drop 3 (ls' := [.ref 42, .int y1, .int (y2 + 1), .null]) rfl ?_
    exact hkL12 y1 (y2 + 1)  h13
  · refine B_iconst dX5_readSum_62 ic_0 ?_
    exact B_zreturn dX5_readSum_63 rfl rfl rfl
def f_X5_readSum_L12 (rc_X5_readSum : Int32 → dH → Option (Bool × dH)) (rc_X5_readTerm : Int32 → dH → Option (Bool × dH)) (rc_X5_readAtom : Int32 → dH → Option (Bool × dH)) : Nat → Int32 → Int32 → dH → Option (Bool × dH)
  | 0, _, _, _ => none
  | n + 1, y1, y2, h =>
    if y2 < 240 then
    (f_X9_sign h).bind fun rv4 =>
    if rv4.1 = 43 then
    f_X5_readSum_J41 rc_X5_readSum rc_X5_readTerm rc_X5_readAtom (f_X5_readSum_L12 rc_X5_readSum rc_X5_readTerm rc_X5_readAtom n) y1 y2 rv4.1 rv4.2
    else
    if rv4.1 = 45 then
    f_X5_readSum_J41 rc_X5_readSum rc_X5_readTerm rc_X5_readAtom (f_X5_readSum_L12 rc_X5_readSum rc_X5_readTerm rc_X5_readAtom n) y1 y2 rv4.1 rv4.2
    else
    some (true, rv4.2)
    else
    some (true, h)
set_option maxRecDepth 20000 in
set_option maxHeartbeats 4000000 in
theorem b_X5_readSum_L12 {Dr : Nat} {rc_X5_readSum : Int32 → dH → Option (Bool × dH)} {rc_X5_readTerm : Int32 → dH → Option (Bool × dH)} {rc_X5_readAtom : Int32 → dH → Option (Bool × dH)} (hDr : 8 ≤ Dr) (hrc_X5_readSum : ∀ (x1 : Int32) (h : dH), T XC Dr yX5_readSum cX5_readSum 4 (some .boolean) fiC [.ref 42, .int x1] h (rc_X5_readSum x1 h)) (hrc_X5_readTerm : ∀ (x1 : Int32) (h : dH), T XC Dr yX5_readTerm cX5_readTerm 4 (some .boolean) fiC [.ref 42, .int x1] h (rc_X5_readTerm x1 h)) (hrc_X5_readAtom : ∀ (x1 : Int32) (h : dH), T XC Dr yX5_readAtom cX5_readAtom 4 (some .boolean) fiC [.ref 42, .int x1] h (rc_X5_readAtom x1 h)) : ∀ (n : Nat) (y1 : Int32) (y2 : Int32) (h : dH), B XC (Dr + 1) RX5 cX5_readSum 4 (some .boolean) fiC 12 [.ref 42, .int y1, .int y2, .null] [] h (f_X5_readSum_L12 rc_X5_readSum rc_X5_readTerm rc_X5_readAtom n y1 y2 h) := by
  intro n
  induction n with
  | zero =>
    intro y1 y2 h
    exact B_none
  | succ n ih =>
    intro y1 y2 h
    rw [f_X5_readSum_L12]
    refine B_iload_n dX5_readSum_12 rfl rfl ?_
    refine B_sipush dX5_readSum_13 sp_240 ?_
    refine C_icmp_ge (tgt := 76) dX5_readSum_16 (by decide) (fun q8 => ?_) (fun q8 => ?_)
    · refine B_iconst dX5_readSum_76 ic_1 ?_
      exact B_zreturn dX5_readSum_77 rfl rfl rfl
    · refine B_aload_n dX5_readSum_19 rfl rfl ?_
      refine B_getR dX5_readSum_20 fl_X5_30 shC_42 rfl (rfC_42_3 _) ?_
      refine B_VI (st := []) dX5_readSum_23 cl_X5_46 (t_X9_sign h) (by omega) shC_1 rfl rfl (Nat.le_of_ble_eq_true rfl) (fun v4 h5 _ => ?_)
      refine B_istore_n (ls' := [.ref 42, .int y1, .int y2, .int v4]) dX5_readSum_26 rfl (Nat.le_of_ble_eq_true rfl) rfl rfl ?_
      refine B_iload_n dX5_readSum_27 rfl rfl ?_
      refine B_bipush dX5_readSum_28 bp_43 ?_
      refine C_icmp_eq (tgt := 41) dX5_readSum_30 (by decide) (fun q7 => ?_) (fun q7 => ?_)
      · exact b_X5_readSum_J41 hDr hrc_X5_readSum hrc_X5_readTerm hrc_X5_readAtom (fun qy1 qy2 qh => ih qy1 qy2 qh) y1 y2 v4 h5
      · refine B_iload_n dX5_readSum_33 rfl rfl ?_
        refine B_bipush dX5_readSum_34 bp_45 ?_
        refine C_icmp_eq (tgt := 41) dX5_readSum_36 (by decide) (fun q6 => ?_) (fun q6 => ?_)
        · exact b_X5_readSum_J41 hDr hrc_X5_readSum hrc_X5_readTerm hrc_X5_readAtom (fun qy1 qy2 qh => ih qy1 qy2 qh) y1 y2 v4 h5
        · refine B_iconst dX5_readSum_39 ic_1 ?_
          exact B_zreturn dX5_readSum_40 rfl rfl rfl
def f_X5_readSum (rc_X5_readSum : Int32 → dH → Option (Bool × dH)) (rc_X5_readTerm : Int32 → dH → Option (Bool × dH)) (rc_X5_readAtom : Int32 → dH → Option (Bool × dH)) (x1 : Int32) (h : dH) : Option (Bool × dH) :=
  (rc_X5_readTerm x1 h).bind fun rv1 =>
  if rv1.1 then
  f_X5_readSum_L12 rc_X5_readSum rc_X5_readTerm rc_X5_readAtom dFu x1 0 rv1.2
  else
  some (false, rv1.2)
set_option maxRecDepth 20000 in
set_option maxHeartbeats 4000000 in
theorem t_X5_readSum {Dr : Nat} {rc_X5_readSum : Int32 → dH → Option (Bool × dH)} {rc_X5_readTerm : Int32 → dH → Option (Bool × dH)} {rc_X5_readAtom : Int32 → dH → Option (Bool × dH)} (hDr : 8 ≤ Dr) (hrc_X5_readSum : ∀ (x1 : Int32) (h : dH), T XC Dr yX5_readSum cX5_readSum 4 (some .boolean) fiC [.ref 42, .int x1] h (rc_X5_readSum x1 h)) (hrc_X5_readTerm : ∀ (x1 : Int32) (h : dH), T XC Dr yX5_readTerm cX5_readTerm 4 (some .boolean) fiC [.ref 42, .int x1] h (rc_X5_readTerm x1 h)) (hrc_X5_readAtom : ∀ (x1 : Int32) (h : dH), T XC Dr yX5_readAtom cX5_readAtom 4 (some .boolean) fiC [.ref 42, .int x1] h (rc_X5_readAtom x1 h)) (x1 : Int32) (h : dH) : T XC (Dr + 1) yX5_readSum cX5_readSum 4 (some .boolean) fiC [.ref 42, .int x1] h (f_X5_readSum rc_X5_readSum rc_X5_readTerm rc_X5_readAtom x1 h) := by
  refine T_of [.ref 42, .int x1, .null, .null] (by decide) (fun _ => rfl) (fun _ => Nat.le_of_ble_eq_true rfl) ?_
  show B XC (Dr + 1) RX5 cX5_readSum 4 (some .boolean) fiC 0 [.ref 42, .int x1, .null, .null] [] h (f_X5_readSum rc_X5_readSum rc_X5_readTerm rc_X5_readAtom x1 h)
  unfold f_X5_readSum
  refine B_aload_n dX5_readSum_0 rfl rfl ?_
  refine B_iload_n dX5_readSum_1 rfl rfl ?_
  refine B_VC (st := []) dX5_readSum_2 cl_X5_81 (hrc_X5_readTerm x1 h) (by omega) shC_42 rfl rfl (Nat.le_of_ble_eq_true rfl) (fun v1 h2 _ => ?_)
  refine C_ifb_ne (tgt := 10) dX5_readSum_5 (by decide) (fun q3 => ?_) (fun q3 => ?_)
  · refine B_iconst dX5_readSum_10 ic_0 ?_
    refine B_istore_n (ls' := [.ref 42, .int x1, .int 0, .null]) dX5_readSum_11 rfl (Nat.le_of_ble_eq_true rfl) rfl rfl ?_
    exact b_X5_readSum_L12 hDr hrc_X5_readSum hrc_X5_readTerm hrc_X5_readAtom dFu x1 0 h2
  · refine B_iconst dX5_readSum_8 ic_0 ?_
    exact B_zreturn dX5_readSum_9 rfl rfl rfl
def f_X5_readTerm_J41 (rc_X5_readSum : Int32 → dH → Option (Bool × dH)) (rc_X5_readTerm : Int32 → dH → Option (Bool × dH)) (rc_X5_readAtom : Int32 → dH → Option (Bool × dH)) (kL12 : Int32 → Int32 → dH → Option (Bool × dH)) (y1 : Int32) (y2 : Int32) (y3 : Int32) (h : dH) : Option (Bool × dH) :=
  (some (dPut h 1 2 ((h.1 1 2) + 1))).bind fun h9 =>
  (rc_X5_readAtom y1 h9).bind fun rv10 =>
  if rv10.1 then
  (f_X5_add (-y3) rv10.2).bind fun h13 =>
  kL12 y1 (y2 + 1) h13
  else
  some (false, rv10.2)
set_option maxRecDepth 20000 in
set_option maxHeartbeats 4000000 in
theorem b_X5_readTerm_J41 {Dr : Nat} {rc_X5_readSum : Int32 → dH → Option (Bool × dH)} {rc_X5_readTerm : Int32 → dH → Option (Bool × dH)} {rc_X5_readAtom : Int32 → dH → Option (Bool × dH)} {kL12 : Int32 → Int32 → dH → Option (Bool × dH)} (hDr : 8 ≤ Dr) (hrc_X5_readSum : ∀ (x1 : Int32) (h : dH), T XC Dr yX5_readSum cX5_readSum 4 (some .boolean) fiC [.ref 42, .int x1] h (rc_X5_readSum x1 h)) (hrc_X5_readTerm : ∀ (x1 : Int32) (h : dH), T XC Dr yX5_readTerm cX5_readTerm 4 (some .boolean) fiC [.ref 42, .int x1] h (rc_X5_readTerm x1 h)) (hrc_X5_readAtom : ∀ (x1 : Int32) (h : dH), T XC Dr yX5_readAtom cX5_readAtom 4 (some .boolean) fiC [.ref 42, .int x1] h (rc_X5_readAtom x1 h)) (hkL12 : ∀ (y1 : Int32) (y2 : Int32) (h : dH), B XC (Dr + 1) RX5 cX5_readTerm 4 (some .boolean) fiC 12 [.ref 42, .int y1, .int y2, .null] [] h (kL12 y1 y2 h)) (y1 : Int32) (y2 : Int32) (y3 : Int32) (h : dH) : B XC (Dr + 1) RX5 cX5_readTerm 4 (some .boolean) fiC 41 [.ref 42, .int y1, .int y2, .int y3] [] h (f_X5_readTerm_J41 rc_X5_readSum rc_X5_readTerm rc_X5_readAtom kL12 y1 y2 y3 h) := by
  unfold f_X5_readTerm_J41
  refine B_aload_n dX5_readTerm_41 rfl rfl ?_
  refine B_getR dX5_readTerm_42 fl_X5_30 shC_42 rfl (rfC_42_3 _) ?_
  refine B_dup dX5_readTerm_45 rfl ?_
  refine B_getI dX5_readTerm_46 fl_X5_37 shC_1 rfl ?_
  refine B_iconst dX5_readTerm_49 ic_1 ?_
  refine B_iadd dX5_readTerm_50 ?_
  refine B_putI dX5_readTerm_51 fl_X5_37 fw_X9_2 shC_1 rfl ?_
  refine B_lh (fun h9 => ?_)
  refine B_aload_n dX5_readTerm_54 rfl rfl ?_
  refine B_iload_n dX5_readTerm_55 rfl rfl ?_
  refine B_VC (st := []) dX5_readTerm_56 cl_X5_84 (hrc_X5_readAtom y1 h9) (by omega) shC_42 rfl rfl (Nat.le_of_ble_eq_true rfl) (fun v10 h11 _ => ?_)
  refine C_ifb_ne (tgt := 64) dX5_readTerm_59 (by decide) (fun q14 => ?_) (fun q14 => ?_)
  · refine B_aload_n dX5_readTerm_64 rfl rfl ?_
    refine B_iload_n dX5_readTerm_65 rfl rfl ?_
    refine B_ineg dX5_readTerm_66 ?_
    refine B_VV (st := []) dX5_readTerm_67 cl_X5_68 (t_X5_add (-y3) h11) (by omega) shC_42 rfl rfl (Nat.le_of_ble_eq_true rfl) (fun h13 _ => ?_)
    refine B_iinc (w := (y2 + 1)) (ls' := [.ref 42, .int y1, .int (y2 + 1), .int y3]) dX5_readTerm_70 rfl (congrArg (fun z => y2 + z) ic_1) (Nat.le_of_ble_eq_true rfl) rfl rfl ?_
    refine B_goto (tgt := 12) dX5_readTerm_73 (by decide) ?_
    refine B_drop 3 (ls' := [.ref 42, .int y1, .int (y2 + 1), .null]) rfl ?_
    exact hkL12 y1 (y2 + 1)  h13
  · refine B_iconst dX5_readTerm_62 ic_0 ?_
    exact B_zreturn dX5_readTerm_63 rfl rfl rfl
def f_X5_readTerm_L12 (rc_X5_readSum : Int32 → dH → Option (Bool × dH)) (rc_X5_readTerm : Int32 → dH → Option (Bool × dH)) (rc_X5_readAtom : Int32 → dH → Option (Bool × dH)) : Nat → Int32 → Int32 → dH → Option (Bool × dH)
  | 0, _, _, _ => none
  | n + 1, y1, y2, h =>
    if y2 < 240 then
    (f_X9_sign h).bind fun rv4 =>
    if rv4.1 = 42 then
    f_X5_readTerm_J41 rc_X5_readSum rc_X5_readTerm rc_X5_readAtom (f_X5_readTerm_L12 rc_X5_readSum rc_X5_readTerm rc_X5_readAtom n) y1 y2 rv4.1 rv4.2
    else
    if rv4.1 = 47 then
    f_X5_readTerm_J41 rc_X5_readSum rc_X5_readTerm rc_X5_readAtom (f_X5_readTerm_L12 rc_X5_readSum rc_X5_readTerm rc_X5_readAtom n) y1 y2 rv4.1 rv4.2
    else
    some (true, rv4.2)
    else
    some (true, h)
set_option maxRecDepth 20000 in
set_option maxHeartbeats 4000000 in
theorem b_X5_readTerm_L12 {Dr : Nat} {rc_X5_readSum : Int32 → dH → Option (Bool × dH)} {rc_X5_readTerm : Int32 → dH → Option (Bool × dH)} {rc_X5_readAtom : Int32 → dH → Option (Bool × dH)} (hDr : 8 ≤ Dr) (hrc_X5_readSum : ∀ (x1 : Int32) (h : dH), T XC Dr yX5_readSum cX5_readSum 4 (some .boolean) fiC [.ref 42, .int x1] h (rc_X5_readSum x1 h)) (hrc_X5_readTerm : ∀ (x1 : Int32) (h : dH), T XC Dr yX5_readTerm cX5_readTerm 4 (some .boolean) fiC [.ref 42, .int x1] h (rc_X5_readTerm x1 h)) (hrc_X5_readAtom : ∀ (x1 : Int32) (h : dH), T XC Dr yX5_readAtom cX5_readAtom 4 (some .boolean) fiC [.ref 42, .int x1] h (rc_X5_readAtom x1 h)) : ∀ (n : Nat) (y1 : Int32) (y2 : Int32) (h : dH), B XC (Dr + 1) RX5 cX5_readTerm 4 (some .boolean) fiC 12 [.ref 42, .int y1, .int y2, .null] [] h (f_X5_readTerm_L12 rc_X5_readSum rc_X5_readTerm rc_X5_readAtom n y1 y2 h) := by
  intro n
  induction n with
  | zero =>
    intro y1 y2 h
    exact B_none
  | succ n ih =>
    intro y1 y2 h
    rw [f_X5_readTerm_L12]
    refine B_iload_n dX5_readTerm_12 rfl rfl ?_
    refine B_sipush dX5_readTerm_13 sp_240 ?_
    refine C_icmp_ge (tgt := 76) dX5_readTerm_16 (by decide) (fun q8 => ?_) (fun q8 => ?_)
    · refine B_iconst dX5_readTerm_76 ic_1 ?_
      exact B_zreturn dX5_readTerm_77 rfl rfl rfl
    · refine B_aload_n dX5_readTerm_19 rfl rfl ?_
      refine B_getR dX5_readTerm_20 fl_X5_30 shC_42 rfl (rfC_42_3 _) ?_
      refine B_VI (st := []) dX5_readTerm_23 cl_X5_46 (t_X9_sign h) (by omega) shC_1 rfl rfl (Nat.le_of_ble_eq_true rfl) (fun v4 h5 _ => ?_)
      refine B_istore_n (ls' := [.ref 42, .int y1, .int y2, .int v4]) dX5_readTerm_26 rfl (Nat.le_of_ble_eq_true rfl) rfl rfl ?_
      refine B_iload_n dX5_readTerm_27 rfl rfl ?_
      refine B_bipush dX5_readTerm_28 bp_42 ?_
      refine C_icmp_eq (tgt := 41) dX5_readTerm_30 (by decide) (fun q7 => ?_) (fun q7 => ?_)
      · exact b_X5_readTerm_J41 hDr hrc_X5_readSum hrc_X5_readTerm hrc_X5_readAtom (fun qy1 qy2 qh => ih qy1 qy2 qh) y1 y2 v4 h5
      · refine B_iload_n dX5_readTerm_33 rfl rfl ?_
        refine B_bipush dX5_readTerm_34 bp_47 ?_
        refine C_icmp_eq (tgt := 41) dX5_readTerm_36 (by decide) (fun q6 => ?_) (fun q6 => ?_)
        · exact b_X5_readTerm_J41 hDr hrc_X5_readSum hrc_X5_readTerm hrc_X5_readAtom (fun qy1 qy2 qh => ih qy1 qy2 qh) y1 y2 v4 h5
        · refine B_iconst dX5_readTerm_39 ic_1 ?_
          exact B_zreturn dX5_readTerm_40 rfl rfl rfl
def f_X5_readTerm (rc_X5_readSum : Int32 → dH → Option (Bool × dH)) (rc_X5_readTerm : Int32 → dH → Option (Bool × dH)) (rc_X5_readAtom : Int32 → dH → Option (Bool × dH)) (x1 : Int32) (h : dH) : Option (Bool × dH) :=
  (rc_X5_readAtom x1 h).bind fun rv1 =>
  if rv1.1 then
  f_X5_readTerm_L12 rc_X5_readSum rc_X5_readTerm rc_X5_readAtom dFu x1 0 rv1.2
  else
  some (false, rv1.2)
set_option maxRecDepth 20000 in
set_option maxHeartbeats 4000000 in
theorem t_X5_readTerm {Dr : Nat} {rc_X5_readSum : Int32 → dH → Option (Bool × dH)} {rc_X5_readTerm : Int32 → dH → Option (Bool × dH)} {rc_X5_readAtom : Int32 → dH → Option (Bool × dH)} (hDr : 8 ≤ Dr) (hrc_X5_readSum : ∀ (x1 : Int32) (h : dH), T XC Dr yX5_readSum cX5_readSum 4 (some .boolean) fiC [.ref 42, .int x1] h (rc_X5_readSum x1 h)) (hrc_X5_readTerm : ∀ (x1 : Int32) (h : dH), T XC Dr yX5_readTerm cX5_readTerm 4 (some .boolean) fiC [.ref 42, .int x1] h (rc_X5_readTerm x1 h)) (hrc_X5_readAtom : ∀ (x1 : Int32) (h : dH), T XC Dr yX5_readAtom cX5_readAtom 4 (some .boolean) fiC [.ref 42, .int x1] h (rc_X5_readAtom x1 h)) (x1 : Int32) (h : dH) : T XC (Dr + 1) yX5_readTerm cX5_readTerm 4 (some .boolean) fiC [.ref 42, .int x1] h (f_X5_readTerm rc_X5_readSum rc_X5_readTerm rc_X5_readAtom x1 h) := by
  refine T_of [.ref 42, .int x1, .null, .null] (by decide) (fun _ => rfl) (fun _ => Nat.le_of_ble_eq_true rfl) ?_
  show B XC (Dr + 1) RX5 cX5_readTerm 4 (some .boolean) fiC 0 [.ref 42, .int x1, .null, .null] [] h (f_X5_readTerm rc_X5_readSum rc_X5_readTerm rc_X5_readAtom x1 h)
  unfold f_X5_readTerm
  refine B_aload_n dX5_readTerm_0 rfl rfl ?_
  refine B_iload_n dX5_readTerm_1 rfl rfl ?_
  refine B_VC (st := []) dX5_readTerm_2 cl_X5_84 (hrc_X5_readAtom x1 h) (by omega) shC_42 rfl rfl (Nat.le_of_ble_eq_true rfl) (fun v1 h2 _ => ?_)
  refine C_ifb_ne (tgt := 10) dX5_readTerm_5 (by decide) (fun q3 => ?_) (fun q3 => ?_)
  · refine B_iconst dX5_readTerm_10 ic_0 ?_
    refine B_istore_n (ls' := [.ref 42, .int x1, .int 0, .null]) dX5_readTerm_11 rfl (Nat.le_of_ble_eq_true rfl) rfl rfl ?_
    exact b_X5_readTerm_L12 hDr hrc_X5_readSum hrc_X5_readTerm hrc_X5_readAtom dFu x1 0 h2
  · refine B_iconst dX5_readTerm_8 ic_0 ?_
    exact B_zreturn dX5_readTerm_9 rfl rfl rfl
def f_X5_readAtom (rc_X5_readSum : Int32 → dH → Option (Bool × dH)) (rc_X5_readTerm : Int32 → dH → Option (Bool × dH)) (rc_X5_readAtom : Int32 → dH → Option (Bool × dH)) (x1 : Int32) (h : dH) : Option (Bool × dH) :=
  (f_X9_sign h).bind fun rv1 =>
  if rv1.1 = 91 then
  if x1 < 6 then
  (f_X9_take 91 rv1.2).bind fun rv13 =>
  if rv13.1 then
  (rc_X5_readSum (x1 + 1) rv13.2).bind fun rv15 =>
  if rv15.1 then
  (f_X9_take 93 rv15.2).bind fun rv17 =>
  if rv17.1 then
  some (true, rv17.2)
  else
  some (false, rv17.2)
  else
  some (false, rv15.2)
  else
  some (false, rv13.2)
  else
  some (false, rv1.2)
  else
  (some ((f_X11_placeIn 2 rv1.1))).bind fun v3 =>
  if v3 = (-1) then
  (f_X9_readNumber 4 0 9999 rv1.2).bind fun rv4 =>
  if rv4.1 then
  (f_X5_add (rv4.2.1 1 3) rv4.2).bind fun h7 =>
  some (true, h7)
  else
  some (false, rv4.2)
  else
  (some (dPut rv1.2 1 2 ((rv1.2.1 1 2) + 1))).bind fun h9 =>
  (f_X5_add ((-1) - v3) h9).bind fun h11 =>
  some (true, h11)
set_option maxRecDepth 20000 in
set_option maxHeartbeats 4000000 in
theorem t_X5_readAtom {Dr : Nat} {rc_X5_readSum : Int32 → dH → Option (Bool × dH)} {rc_X5_readTerm : Int32 → dH → Option (Bool × dH)} {rc_X5_readAtom : Int32 → dH → Option (Bool × dH)} (hDr : 8 ≤ Dr) (hrc_X5_readSum : ∀ (x1 : Int32) (h : dH), T XC Dr yX5_readSum cX5_readSum 4 (some .boolean) fiC [.ref 42, .int x1] h (rc_X5_readSum x1 h)) (hrc_X5_readTerm : ∀ (x1 : Int32) (h : dH), T XC Dr yX5_readTerm cX5_readTerm 4 (some .boolean) fiC [.ref 42, .int x1] h (rc_X5_readTerm x1 h)) (hrc_X5_readAtom : ∀ (x1 : Int32) (h : dH), T XC Dr yX5_readAtom cX5_readAtom 4 (some .boolean) fiC [.ref 42, .int x1] h (rc_X5_readAtom x1 h)) (x1 : Int32) (h : dH) : T XC (Dr + 1) yX5_readAtom cX5_readAtom 4 (some .boolean) fiC [.ref 42, .int x1] h (f_X5_readAtom rc_X5_readSum rc_X5_readTerm rc_X5_readAtom x1 h) := by
  refine T_of [.ref 42, .int x1, .null, .null] (by decide) (fun _ => rfl) (fun _ => Nat.le_of_ble_eq_true rfl) ?_
  show B XC (Dr + 1) RX5 cX5_readAtom 4 (some .boolean) fiC 0 [.ref 42, .int x1, .null, .null] [] h (f_X5_readAtom rc_X5_readSum rc_X5_readTerm rc_X5_readAtom x1 h)
  unfold f_X5_readAtom
  refine B_aload_n dX5_readAtom_0 rfl rfl ?_
  refine B_getR dX5_readAtom_1 fl_X5_30 shC_42 rfl (rfC_42_3 _) ?_
  refine B_VI (st := []) dX5_readAtom_4 cl_X5_46 (t_X9_sign h) (by omega) shC_1 rfl rfl (Nat.le_of_ble_eq_true rfl) (fun v1 h2 _ => ?_)
  refine B_istore_n (ls' := [.ref 42, .int x1, .int v1, .null]) dX5_readAtom_7 rfl (Nat.le_of_ble_eq_true rfl) rfl rfl ?_
  refine B_iload_n dX5_readAtom_8 rfl rfl ?_
  refine B_bipush dX5_readAtom_9 bp_91 ?_
  refine C_icmp_ne (tgt := 60) dX5_readAtom_11 (by decide) (fun q23 => ?_) (fun q23 => ?_)
  · refine B_ldcS (j := 2) dX5_readAtom_60 rfl rfl rfl ?_
    refine B_iload_n dX5_readAtom_62 rfl rfl ?_
    refine B_Nt (st := []) dX5_readAtom_63 cl_X5_89 (t_X11_placeIn 2 (by decide) v1 h2) (by omega) rfl rfl (Nat.le_of_ble_eq_true rfl) ?_
    refine B_lv (fun v3 => ?_)
    refine B_istore_n (ls' := [.ref 42, .int x1, .int v1, .int v3]) dX5_readAtom_66 rfl (Nat.le_of_ble_eq_true rfl) rfl rfl ?_
    refine B_iload_n dX5_readAtom_67 rfl rfl ?_
    refine B_iconst dX5_readAtom_68 ic_m1 ?_
    refine C_icmp_eq (tgt := 94) dX5_readAtom_69 (by decide) (fun q12 => ?_) (fun q12 => ?_)
    · refine B_aload_n dX5_readAtom_94 rfl rfl ?_
      refine B_getR dX5_readAtom_95 fl_X5_30 shC_42 rfl (rfC_42_3 _) ?_
      refine B_iconst dX5_readAtom_98 ic_4 ?_
      refine B_iconst dX5_readAtom_99 ic_0 ?_
      refine B_sipush dX5_readAtom_100 sp_9999 ?_
      refine B_VC (st := []) dX5_readAtom_103 cl_X5_93 (t_X9_readNumber 4 0 9999 h2) (by omega) shC_1 rfl rfl (Nat.le_of_ble_eq_true rfl) (fun v4 h5 _ => ?_)
      refine C_ifb_ne (tgt := 111) dX5_readAtom_106 (by decide) (fun q8 => ?_) (fun q8 => ?_)
      · refine B_aload_n dX5_readAtom_111 rfl rfl ?_
        refine B_aload_n dX5_readAtom_112 rfl rfl ?_
        refine B_getR dX5_readAtom_113 fl_X5_30 shC_42 rfl (rfC_42_3 _) ?_
        refine B_getI dX5_readAtom_116 fl_X5_97 shC_1 rfl ?_
        refine B_VV (st := []) dX5_readAtom_119 cl_X5_68 (t_X5_add (h5.1 1 3) h5) (by omega) shC_42 rfl rfl (Nat.le_of_ble_eq_true rfl) (fun h7 _ => ?_)
        refine B_iconst dX5_readAtom_122 ic_1 ?_
        exact B_zreturn dX5_readAtom_123 rfl rfl rfl
      · refine B_iconst dX5_readAtom_109 ic_0 ?_
        exact B_zreturn dX5_readAtom_110 rfl rfl rfl
    · refine B_aload_n dX5_readAtom_72 rfl rfl ?_
      refine B_getR dX5_readAtom_73 fl_X5_30 shC_42 rfl (rfC_42_3 _) ?_
      refine B_dup dX5_readAtom_76 rfl ?_
      refine B_getI dX5_readAtom_77 fl_X5_37 shC_1 rfl ?_
      refine B_iconst dX5_readAtom_80 ic_1 ?_
      refine B_iadd dX5_readAtom_81 ?_
      refine B_putI dX5_readAtom_82 fl_X5_37 fw_X9_2 shC_1 rfl ?_
      refine B_lh (fun h9 => ?_)
      refine B_aload_n dX5_readAtom_85 rfl rfl ?_
      refine B_iconst dX5_readAtom_86 ic_m1 ?_
      refine B_iload_n dX5_readAtom_87 rfl rfl ?_
      refine B_isub dX5_readAtom_88 ?_
      refine B_VV (st := []) dX5_readAtom_89 cl_X5_68 (t_X5_add ((-1) - v3) h9) (by omega) shC_42 rfl rfl (Nat.le_of_ble_eq_true rfl) (fun h11 _ => ?_)
      refine B_iconst dX5_readAtom_92 ic_1 ?_
      exact B_zreturn dX5_readAtom_93 rfl rfl rfl
  · refine B_iload_n dX5_readAtom_14 rfl rfl ?_
    refine B_bipush dX5_readAtom_15 bp_6 ?_
    refine C_icmp_ge (tgt := 58) dX5_readAtom_17 (by decide) (fun q22 => ?_) (fun q22 => ?_)
    · refine B_iconst dX5_readAtom_58 ic_0 ?_
      exact B_zreturn dX5_readAtom_59 rfl rfl rfl
    · refine B_aload_n dX5_readAtom_20 rfl rfl ?_
      refine B_getR dX5_readAtom_21 fl_X5_30 shC_42 rfl (rfC_42_3 _) ?_
      refine B_bipush dX5_readAtom_24 bp_91 ?_
      refine B_VC (st := []) dX5_readAtom_26 cl_X5_50 (t_X9_take 91 h2) (by omega) shC_1 rfl rfl (Nat.le_of_ble_eq_true rfl) (fun v13 h14 _ => ?_)
      refine C_ifb_eq (tgt := 58) dX5_readAtom_29 (by decide) (fun q21 => ?_) (fun q21 => ?_)
      · refine B_iconst dX5_readAtom_58 ic_0 ?_
        exact B_zreturn dX5_readAtom_59 rfl rfl rfl
      · refine B_aload_n dX5_readAtom_32 rfl rfl ?_
        refine B_iload_n dX5_readAtom_33 rfl rfl ?_
        refine B_iconst dX5_readAtom_34 ic_1 ?_
        refine B_iadd dX5_readAtom_35 ?_
        refine B_VC (st := []) dX5_readAtom_36 cl_X5_58 (hrc_X5_readSum (x1 + 1) h14) (by omega) shC_42 rfl rfl (Nat.le_of_ble_eq_true rfl) (fun v15 h16 _ => ?_)
        refine C_ifb_eq (tgt := 58) dX5_readAtom_39 (by decide) (fun q20 => ?_) (fun q20 => ?_)
        · refine B_iconst dX5_readAtom_58 ic_0 ?_
          exact B_zreturn dX5_readAtom_59 rfl rfl rfl
        · refine B_aload_n dX5_readAtom_42 rfl rfl ?_
          refine B_getR dX5_readAtom_43 fl_X5_30 shC_42 rfl (rfC_42_3 _) ?_
          refine B_bipush dX5_readAtom_46 bp_93 ?_
          refine B_VC (st := []) dX5_readAtom_48 cl_X5_50 (t_X9_take 93 h16) (by omega) shC_1 rfl rfl (Nat.le_of_ble_eq_true rfl) (fun v17 h18 _ => ?_)
          refine C_ifb_eq (tgt := 58) dX5_readAtom_51 (by decide) (fun q19 => ?_) (fun q19 => ?_)
          · refine B_iconst dX5_readAtom_58 ic_0 ?_
            exact B_zreturn dX5_readAtom_59 rfl rfl rfl
          · refine B_iconst dX5_readAtom_54 ic_1 ?_
            refine B_goto (tgt := 59) dX5_readAtom_55 (by decide) ?_
            exact B_zreturn dX5_readAtom_59 rfl rfl rfl
def g_X5_readSum : Nat → (Int32 → dH → Option (Bool × dH)) × (Int32 → dH → Option (Bool × dH)) × (Int32 → dH → Option (Bool × dH))
  | 0 => (fun _ _ => none, fun _ _ => none, fun _ _ => none)
  | n + 1 => (f_X5_readSum (g_X5_readSum n).1 (g_X5_readSum n).2.1 (g_X5_readSum n).2.2, f_X5_readTerm (g_X5_readSum n).1 (g_X5_readSum n).2.1 (g_X5_readSum n).2.2, f_X5_readAtom (g_X5_readSum n).1 (g_X5_readSum n).2.1 (g_X5_readSum n).2.2)
def r_X5_readSum (n : Nat) : Int32 → dH → Option (Bool × dH) := (g_X5_readSum n).1
def r_X5_readTerm (n : Nat) : Int32 → dH → Option (Bool × dH) := (g_X5_readSum n).2.1
def r_X5_readAtom (n : Nat) : Int32 → dH → Option (Bool × dH) := (g_X5_readSum n).2.2
set_option maxRecDepth 20000 in
set_option maxHeartbeats 4000000 in
theorem t_g_X5_readSum : ∀ n : Nat, (∀ (x1 : Int32) (h : dH), T XC (8 + n) yX5_readSum cX5_readSum 4 (some .boolean) fiC [.ref 42, .int x1] h (r_X5_readSum n x1 h)) ∧ (∀ (x1 : Int32) (h : dH), T XC (8 + n) yX5_readTerm cX5_readTerm 4 (some .boolean) fiC [.ref 42, .int x1] h (r_X5_readTerm n x1 h)) ∧ (∀ (x1 : Int32) (h : dH), T XC (8 + n) yX5_readAtom cX5_readAtom 4 (some .boolean) fiC [.ref 42, .int x1] h (r_X5_readAtom n x1 h)) := by
  intro n
  induction n with
  | zero =>
    exact ⟨fun _ _ => T_none, fun _ _ => T_none, fun _ _ => T_none⟩
  | succ n ih =>
    exact ⟨fun x1 h => (t_X5_readSum (Nat.le_add_right 8 n) ih.1 ih.2.1 ih.2.2 x1 h : T _ (8 + n + 1) _ _ _ _ _ _ _ _), fun x1 h => (t_X5_readTerm (Nat.le_add_right 8 n) ih.1 ih.2.1 ih.2.2 x1 h : T _ (8 + n + 1) _ _ _ _ _ _ _ _), fun x1 h => (t_X5_readAtom (Nat.le_add_right 8 n) ih.1 ih.2.1 ih.2.2 x1 h : T _ (8 + n + 1) _ _ _ _ _ _ _ _)⟩
theorem t_X5_readSum_r : ∀ (x1 : Int32) (h : dH), T XC 38 yX5_readSum cX5_readSum 4 (some .boolean) fiC [.ref 42, .int x1] h (r_X5_readSum 30 x1 h) := (t_g_X5_readSum 30).1
theorem t_X5_readTerm_r : ∀ (x1 : Int32) (h : dH), T XC 38 yX5_readTerm cX5_readTerm 4 (some .boolean) fiC [.ref 42, .int x1] h (r_X5_readTerm 30 x1 h) := (t_g_X5_readSum 30).2.1
theorem t_X5_readAtom_r : ∀ (x1 : Int32) (h : dH), T XC 38 yX5_readAtom cX5_readAtom 4 (some .boolean) fiC [.ref 42, .int x1] h (r_X5_readAtom 30 x1 h) := (t_g_X5_readSum 30).2.2
