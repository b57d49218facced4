def f_X0_forget (h : dH) : Option (dH) :=
  some (dPut h 70 0 0)
set_option maxRecDepth 20000 in
set_option maxHeartbeats 4000000 in
theorem t_X0_forget (h : dH) : T XC 0 yX0_forget cX0_forget 1 none fiV [.ref 70] h (f_X0_forget h) := by
  refine T_of [.ref 70] (by decide) (fun _ => rfl) (fun _ => Nat.le_of_ble_eq_true rfl) ?_
  show B XC 0 RX0 cX0_forget 1 none fiV 0 [.ref 70] [] h (f_X0_forget h)
  unfold f_X0_forget
  refine B_aload_n dX0_forget_0 rfl rfl ?_
  refine B_iconst dX0_forget_1 ic_0 ?_
  refine B_putI dX0_forget_2 fl_X0_17 fw_X0_0 shC_70 rfl ?_
  exact B_return dX0_forget_5 rfl rfl
def f_X8_saveTo (r rn : Nat) (x2 : Int32) (h : dH) : Option (dH) :=
  if x2 < 0 then
  some h
  else
  if (Int32.ofNat rn) < (x2 + 28) then
  some h
  else
  if dCk 0 x2 28 28 rn then
  some (dCpy h 67 r (dI 0) (dI x2) (dI 28))
  else none
set_option maxRecDepth 20000 in
set_option maxHeartbeats 4000000 in
theorem t_X8_saveTo (r rn : Nat) (hr : XC.1[r]? = some (.inr (0, rn))) (x2 : Int32) (h : dH) : T XC 1 yX8_saveTo cX8_saveTo 3 none fiV [.ref 66, .ref r, .int x2] h (f_X8_saveTo r rn x2 h) := by
  refine T_of [.ref 66, .ref r, .int x2] (by decide) (fun _ => rfl) (fun _ => Nat.le_of_ble_eq_true rfl) ?_
  show B XC 1 RX8 cX8_saveTo 3 none fiV 0 [.ref 66, .ref r, .int x2] [] h (f_X8_saveTo r rn x2 h)
  unfold f_X8_saveTo
  refine B_iload_n dX8_saveTo_0 rfl rfl ?_
  refine C_if_lt (tgt := 25) dX8_saveTo_1 (by decide) (fun q3 => ?_) (fun q3 => ?_)
  · exact B_return dX8_saveTo_25 rfl rfl
  · refine B_iload_n dX8_saveTo_4 rfl rfl ?_
    refine B_bipush dX8_saveTo_5 bp_28 ?_
    refine B_iadd dX8_saveTo_7 ?_
    refine B_aload_n dX8_saveTo_8 rfl rfl ?_
    refine B_alen dX8_saveTo_9 hr rfl ?_
    refine C_icmp_gt (tgt := 25) dX8_saveTo_10 (by decide) (fun q2 => ?_) (fun q2 => ?_)
    · exact B_return dX8_saveTo_25 rfl rfl
    · refine B_aload_n dX8_saveTo_13 rfl rfl ?_
      refine B_getR dX8_saveTo_14 fl_X8_11 shC_66 rfl (rfC_66_2 _) ?_
      refine B_iconst dX8_saveTo_17 ic_0 ?_
      refine B_aload_n dX8_saveTo_18 rfl rfl ?_
      refine B_iload_n dX8_saveTo_19 rfl rfl ?_
      refine B_bipush dX8_saveTo_20 bp_28 ?_
      refine C_chk (fun q1 => ?_)
      refine L_copy dX8_saveTo_22 cp_X8_29 (Nat.le_of_ble_eq_true rfl) (Nat.le_of_ble_eq_true rfl) shC_67 hr q1 ?_
      exact B_return dX8_saveTo_25 rfl rfl
def f_X0_keep_J37 (z1 : Int32) (h : dH) : Option (dH) :=
  (some (dPut h 70 2 z1)).bind fun h4 =>
  some (dPut h4 70 0 (jmin 40 ((h4.1 70 0) + 1)))
set_option maxRecDepth 20000 in
set_option maxHeartbeats 4000000 in
theorem b_X0_keep_J37 (z1 : Int32) (h : dH) : B XC 2 RX0 cX0_keep 2 none fiV 37 [.ref 70, .null] [.int z1, .ref 70] h (f_X0_keep_J37 z1 h) := by
  unfold f_X0_keep_J37
  refine B_putI dX0_keep_37 fl_X0_21 fw_X0_2 shC_70 rfl ?_
  refine B_lh (fun h4 => ?_)
  refine B_aload_n dX0_keep_40 rfl rfl ?_
  refine B_bipush dX0_keep_41 bp_40 ?_
  refine B_aload_n dX0_keep_43 rfl rfl ?_
  refine B_getI dX0_keep_44 fl_X0_17 shC_70 rfl ?_
  refine B_iconst dX0_keep_47 ic_1 ?_
  refine B_iadd dX0_keep_48 ?_
  refine B_mmin dX0_keep_49 mt_X0_28 (Nat.le_of_ble_eq_true rfl) (Nat.le_of_ble_eq_true rfl) ?_
  refine B_putI dX0_keep_52 fl_X0_17 fw_X0_0 shC_70 rfl ?_
  exact B_return dX0_keep_55 rfl rfl
def f_X0_keep (h : dH) : Option (dH) :=
  (f_X8_saveTo 71 1120 ((h.1 70 2) * 28) h).bind fun h2 =>
  if ((h2.1 70 2) + 1) < 40 then
  f_X0_keep_J37 ((h2.1 70 2) + 1) h2
  else
  f_X0_keep_J37 0 h2
set_option maxRecDepth 20000 in
set_option maxHeartbeats 4000000 in
theorem t_X0_keep (h : dH) : T XC 2 yX0_keep cX0_keep 2 none fiV [.ref 70, .ref 66] h (f_X0_keep h) := by
  refine T_of [.ref 70, .ref 66] (by decide) (fun _ => rfl) (fun _ => Nat.le_of_ble_eq_true rfl) ?_
  show B XC 2 RX0 cX0_keep 2 none fiV 0 [.ref 70, .ref 66] [] h (f_X0_keep h)
  unfold f_X0_keep
  refine B_aload_n dX0_keep_0 rfl rfl ?_
  refine B_aload_n dX0_keep_1 rfl rfl ?_
  refine B_getR dX0_keep_2 fl_X0_13 shC_70 rfl (rfC_70_1 _) ?_
  refine B_aload_n dX0_keep_5 rfl rfl ?_
  refine B_getI dX0_keep_6 fl_X0_21 shC_70 rfl ?_
  refine B_bipush dX0_keep_9 bp_28 ?_
  refine B_imul dX0_keep_11 ?_
  refine B_VV (st := []) dX0_keep_12 cl_X0_24 (t_X8_saveTo 71 1120 shC_71 ((h.1 70 2) * 28) h) (Nat.le_of_ble_eq_true rfl) shC_66 rfl rfl (Nat.le_of_ble_eq_true rfl) (fun h2 _ => ?_)
  refine B_aload_n dX0_keep_15 rfl rfl ?_
  refine B_aload_n dX0_keep_16 rfl rfl ?_
  refine B_getI dX0_keep_17 fl_X0_21 shC_70 rfl ?_
  refine B_iconst dX0_keep_20 ic_1 ?_
  refine B_iadd dX0_keep_21 ?_
  refine B_bipush dX0_keep_22 bp_40 ?_
  refine C_icmp_ge (tgt := 36) dX0_keep_24 (by decide) (fun q3 => ?_) (fun q3 => ?_)
  · refine B_iconst dX0_keep_36 ic_0 ?_
    refine B_drop 1 (ls' := [.ref 70, .null]) rfl ?_
    exact b_X0_keep_J37 0 h2
  · refine B_aload_n dX0_keep_27 rfl rfl ?_
    refine B_getI dX0_keep_28 fl_X0_21 shC_70 rfl ?_
    refine B_iconst dX0_keep_31 ic_1 ?_
    refine B_iadd dX0_keep_32 ?_
    refine B_goto (tgt := 37) dX0_keep_33 (by decide) ?_
    refine B_drop 1 (ls' := [.ref 70, .null]) rfl ?_
    exact b_X0_keep_J37 ((h2.1 70 2) + 1) h2
def f_X8_loadFrom (t : Nat) (r rn : Nat) (x2 : Int32) (h : dH) : Option (dH) :=
  if x2 < 0 then
  some h
  else
  if (Int32.ofNat rn) < (x2 + 28) then
  some h
  else
  if dCk x2 0 28 rn 28 then
  some (dCpy h r (t + 1) (dI x2) (dI 0) (dI 28))
  else none
set_option maxRecDepth 20000 in
set_option maxHeartbeats 4000000 in
theorem t_X8_loadFrom (t : Nat) (ht : XC.1[t]? = some (.inl 8)) (r rn : Nat) (hr : XC.1[r]? = some (.inr (0, rn))) (x2 : Int32) (h : dH) : T XC 1 yX8_loadFrom cX8_loadFrom 3 none fiV [.ref t, .ref r, .int x2] h (f_X8_loadFrom t r rn x2 h) := by
  refine T_of [.ref t, .ref r, .int x2] (by decide) (fun _ => rfl) (fun _ => Nat.le_of_ble_eq_true rfl) ?_
  show B XC 1 RX8 cX8_loadFrom 3 none fiV 0 [.ref t, .ref r, .int x2] [] h (f_X8_loadFrom t r rn x2 h)
  unfold f_X8_loadFrom
  refine B_iload_n dX8_loadFrom_0 rfl rfl ?_
  refine C_if_lt (tgt := 25) dX8_loadFrom_1 (by decide) (fun q3 => ?_) (fun q3 => ?_)
  · exact B_return dX8_loadFrom_25 rfl rfl
  · refine B_iload_n dX8_loadFrom_4 rfl rfl ?_
    refine B_bipush dX8_loadFrom_5 bp_28 ?_
    refine B_iadd dX8_loadFrom_7 ?_
    refine B_aload_n dX8_loadFrom_8 rfl rfl ?_
    refine B_alen dX8_loadFrom_9 hr rfl ?_
    refine C_icmp_gt (tgt := 25) dX8_loadFrom_10 (by decide) (fun q2 => ?_) (fun q2 => ?_)
    · exact B_return dX8_loadFrom_25 rfl rfl
    · refine B_aload_n dX8_loadFrom_13 rfl rfl ?_
      refine B_iload_n dX8_loadFrom_14 rfl rfl ?_
      refine B_aload_n dX8_loadFrom_15 rfl rfl ?_
      refine B_getR dX8_loadFrom_16 fl_X8_11 ht rfl (rfX8_2 _ ht) ?_
      refine B_iconst dX8_loadFrom_19 ic_0 ?_
      refine B_bipush dX8_loadFrom_20 bp_28 ?_
      refine C_chk (fun q1 => ?_)
      refine L_copy dX8_loadFrom_22 cp_X8_29 (Nat.le_of_ble_eq_true rfl) (Nat.le_of_ble_eq_true rfl) hr (shX8_2 ht) q1 ?_
      exact B_return dX8_loadFrom_25 rfl rfl
def f_X0_takeBack_J28 (z1 : Int32) (h : dH) : Option (Int32 × dH) :=
  (some (dPut h 70 2 z1)).bind fun h3 =>
  (f_X8_loadFrom 66 71 1120 ((h3.1 70 2) * 28) h3).bind fun h5 =>
  some (((dPut h5 70 0 ((h5.1 70 0) - 1)).1 70 0), (dPut h5 70 0 ((h5.1 70 0) - 1)))
set_option maxRecDepth 20000 in
set_option maxHeartbeats 4000000 in
theorem b_X0_takeBack_J28 (z1 : Int32) (h : dH) : B XC 2 RX0 cX0_takeBack 2 (some .int) fiI 28 [.ref 70, .ref 66] [.int z1, .ref 70] h (f_X0_takeBack_J28 z1 h) := by
  unfold f_X0_takeBack_J28
  refine B_putI dX0_takeBack_28 fl_X0_21 fw_X0_2 shC_70 rfl ?_
  refine B_lh (fun h3 => ?_)
  refine B_aload_n dX0_takeBack_31 rfl rfl ?_
  refine B_aload_n dX0_takeBack_32 rfl rfl ?_
  refine B_getR dX0_takeBack_33 fl_X0_13 shC_70 rfl (rfC_70_1 _) ?_
  refine B_aload_n dX0_takeBack_36 rfl rfl ?_
  refine B_getI dX0_takeBack_37 fl_X0_21 shC_70 rfl ?_
  refine B_bipush dX0_takeBack_40 bp_28 ?_
  refine B_imul dX0_takeBack_42 ?_
  refine B_VV (st := []) dX0_takeBack_43 cl_X0_34 (t_X8_loadFrom 66 shC_66 71 1120 shC_71 ((h3.1 70 2) * 28) h3) (Nat.le_of_ble_eq_true rfl) shC_66 rfl rfl (Nat.le_of_ble_eq_true rfl) (fun h5 _ => ?_)
  refine B_aload_n dX0_takeBack_46 rfl rfl ?_
  refine B_dup dX0_takeBack_47 rfl ?_
  refine B_getI dX0_takeBack_48 fl_X0_17 shC_70 rfl ?_
  refine B_iconst dX0_takeBack_51 ic_1 ?_
  refine B_isub dX0_takeBack_52 ?_
  refine B_putI dX0_takeBack_53 fl_X0_17 fw_X0_0 shC_70 rfl ?_
  refine B_aload_n dX0_takeBack_56 rfl rfl ?_
  refine B_getI dX0_takeBack_57 fl_X0_17 shC_70 rfl ?_
  exact B_ireturn dX0_takeBack_60 rfl rfl
def f_X0_takeBack (h : dH) : Option (Int32 × dH) :=
  if (h.1 70 0) = 0 then
  some ((-1), h)
  else
  if 0 < (h.1 70 2) then
  f_X0_takeBack_J28 ((h.1 70 2) - 1) h
  else
  f_X0_takeBack_J28 39 h
set_option maxRecDepth 20000 in
set_option maxHeartbeats 4000000 in
theorem t_X0_takeBack (h : dH) : T XC 2 yX0_takeBack cX0_takeBack 2 (some .int) fiI [.ref 70, .ref 66] h (f_X0_takeBack h) := by
  refine T_of [.ref 70, .ref 66] (by decide) (fun _ => rfl) (fun _ => Nat.le_of_ble_eq_true rfl) ?_
  show B XC 2 RX0 cX0_takeBack 2 (some .int) fiI 0 [.ref 70, .ref 66] [] h (f_X0_takeBack h)
  unfold f_X0_takeBack
  refine B_aload_n dX0_takeBack_0 rfl rfl ?_
  refine B_getI dX0_takeBack_1 fl_X0_17 shC_70 rfl ?_
  refine C_if_ne (tgt := 9) dX0_takeBack_4 (by decide) (fun q2 => ?_) (fun q2 => ?_)
  · refine B_aload_n dX0_takeBack_9 rfl rfl ?_
    refine B_aload_n dX0_takeBack_10 rfl rfl ?_
    refine B_getI dX0_takeBack_11 fl_X0_21 shC_70 rfl ?_
    refine C_if_le (tgt := 26) dX0_takeBack_14 (by decide) (fun q1 => ?_) (fun q1 => ?_)
    · refine B_bipush dX0_takeBack_26 bp_39 ?_
      exact b_X0_takeBack_J28 39 h
    · refine B_aload_n dX0_takeBack_17 rfl rfl ?_
      refine B_getI dX0_takeBack_18 fl_X0_21 shC_70 rfl ?_
      refine B_iconst dX0_takeBack_21 ic_1 ?_
      refine B_isub dX0_takeBack_22 ?_
      refine B_goto (tgt := 28) dX0_takeBack_23 (by decide) ?_
      exact b_X0_takeBack_J28 ((h.1 70 2) - 1) h
  · refine B_iconst dX0_takeBack_7 ic_m1 ?_
    exact B_ireturn dX0_takeBack_8 rfl rfl
def f_X1_isPlace (t : Nat) (x1 : Int32) (h : dH) : Bool :=
  if x1 < 0 then
  false
  else
  if x1 < (h.1 t 2) then
  true
  else
  false
set_option maxRecDepth 20000 in
set_option maxHeartbeats 4000000 in
theorem t_X1_isPlace (t : Nat) (ht : XC.1[t]? = some (.inl 1)) (x1 : Int32) (h : dH) : T XC 0 yX1_isPlace cX1_isPlace 2 (some .boolean) (fiB h) [.ref t, .int x1] h (some (f_X1_isPlace t x1 h)) := by
  refine T_of [.ref t, .int x1] (by decide) (fun _ => rfl) (fun _ => Nat.le_of_ble_eq_true rfl) ?_
  show B XC 0 RX1 cX1_isPlace 2 (some .boolean) (fiB h) 0 [.ref t, .int x1] [] h (some (f_X1_isPlace t x1 h))
  unfold f_X1_isPlace
  refine B_iload_n dX1_isPlace_0 rfl rfl ?_
  refine C_some ?_
  refine C_if_lt (tgt := 16) dX1_isPlace_1 (by decide) (fun q2 => ?_) (fun q2 => ?_)
  · refine B_iconst dX1_isPlace_16 ic_0 ?_
    exact B_zreturn dX1_isPlace_17 rfl rfl rfl
  · refine B_iload_n dX1_isPlace_4 rfl rfl ?_
    refine B_aload_n dX1_isPlace_5 rfl rfl ?_
    refine B_getI dX1_isPlace_6 fl_X1_29 ht rfl ?_
    refine C_some ?_
    refine C_icmp_ge (tgt := 16) dX1_isPlace_9 (by decide) (fun q1 => ?_) (fun q1 => ?_)
    · refine B_iconst dX1_isPlace_16 ic_0 ?_
      exact B_zreturn dX1_isPlace_17 rfl rfl rfl
    · refine B_iconst dX1_isPlace_12 ic_1 ?_
      refine B_goto (tgt := 17) dX1_isPlace_13 (by decide) ?_
      exact B_zreturn dX1_isPlace_17 rfl rfl rfl
def f_X1_toldOf (t : Nat) (x1 : Int32) (x2 : Int32) (h : dH) : Option (Int32) :=
  if (f_X1_isPlace t x1 h) then
  if x2 < 0 then
  some 0
  else
  if 4 < x2 then
  some 0
  else
  if dIn x1 7 then
  if dIn x2 5 then
  some (h.1 (t + 3 + dI x1) (dI x2))
  else none
  else none
  else
  some 0
set_option maxRecDepth 20000 in
set_option maxHeartbeats 4000000 in
theorem t_X1_toldOf (t : Nat) (ht : XC.1[t]? = some (.inl 1)) (x1 : Int32) (x2 : Int32) (h : dH) : T XC 1 yX1_toldOf cX1_toldOf 3 (some .int) (fiP h) [.ref t, .int x1, .int x2] h (f_X1_toldOf t x1 x2 h) := by
  refine T_of [.ref t, .int x1, .int x2] (by decide) (fun _ => rfl) (fun _ => Nat.le_of_ble_eq_true rfl) ?_
  show B XC 1 RX1 cX1_toldOf 3 (some .int) (fiP h) 0 [.ref t, .int x1, .int x2] [] h (f_X1_toldOf t x1 x2 h)
  unfold f_X1_toldOf
  refine B_aload_n dX1_toldOf_0 rfl rfl ?_
  refine B_iload_n dX1_toldOf_1 rfl rfl ?_
  refine B_VTb (st := []) dX1_toldOf_2 cl_X1_46 (t_X1_isPlace t ht x1 h) (Nat.le_of_ble_eq_true rfl) ht rfl rfl (Nat.le_of_ble_eq_true rfl) ?_
  refine C_ifb_eq (tgt := 28) dX1_toldOf_5 (by decide) (fun q5 => ?_) (fun q5 => ?_)
  · refine B_iconst dX1_toldOf_28 ic_0 ?_
    exact B_ireturn dX1_toldOf_29 rfl rfl
  · refine B_iload_n dX1_toldOf_8 rfl rfl ?_
    refine C_if_lt (tgt := 28) dX1_toldOf_9 (by decide) (fun q4 => ?_) (fun q4 => ?_)
    · refine B_iconst dX1_toldOf_28 ic_0 ?_
      exact B_ireturn dX1_toldOf_29 rfl rfl
    · refine B_iload_n dX1_toldOf_12 rfl rfl ?_
      refine B_iconst dX1_toldOf_13 ic_4 ?_
      refine C_icmp_gt (tgt := 28) dX1_toldOf_14 (by decide) (fun q3 => ?_) (fun q3 => ?_)
      · refine B_iconst dX1_toldOf_28 ic_0 ?_
        exact B_ireturn dX1_toldOf_29 rfl rfl
      · refine B_aload_n dX1_toldOf_17 rfl rfl ?_
        refine B_getR dX1_toldOf_18 fl_X1_17 ht rfl (rfX1_1 _ ht) ?_
        refine B_iload_n dX1_toldOf_21 rfl rfl ?_
        refine C_chk (fun q1 => ?_)
        refine B_aald dX1_toldOf_22 (shX1_1 ht) q1 (rrX1_1 _ ht q1) ?_
        refine B_iload_n dX1_toldOf_23 rfl rfl ?_
        refine C_chk (fun q2 => ?_)
        refine L_iald dX1_toldOf_24 (rowX1_1 ht q1) q2 rfl ?_
        refine B_goto (tgt := 29) dX1_toldOf_25 (by decide) ?_
        exact B_ireturn dX1_toldOf_29 rfl rfl
def f_X1_measure_L12 (t : Nat) (kL2 : Int32 → dH → Option (dH)) : Nat → Int32 → Int32 → dH → Option (dH)
  | 0, _, _, _ => none
  | n + 1, y1, y2, h =>
    if y2 < (h.1 t 2) then
    if dIn (y1 + 1) 8 then
    (f_X1_toldOf t y1 0 h).bind fun v3 =>
    (f_X1_toldOf t y2 0 h).bind fun v4 =>
    (f_X1_toldOf t y1 1 h).bind fun v5 =>
    (f_X1_toldOf t y2 1 h).bind fun v6 =>
    if dIn (y2 + 1) 8 then
    (some (dPut h (t + 11 + dI (y1 + 1)) (dI (y2 + 1)) ((jabs (v3 - v4)) + (jabs (v5 - v6))))).bind fun h8 =>
    (f_X1_measure_L12 t kL2 n) y1 (y2 + 1) h8
    else none
    else none
    else
    kL2 (y1 + 1) h
set_option maxRecDepth 20000 in
set_option maxHeartbeats 4000000 in
theorem b_X1_measure_L12 {t : Nat} {kL2 : Int32 → dH → Option (dH)} (ht : XC.1[t]? = some (.inl 1)) (hkL2 : ∀ (y1 : Int32) (h : dH), B XC 2 RX1 cX1_measure 3 none fiV 2 [.ref t, .int y1, .null] [] h (kL2 y1 h)) : ∀ (n : Nat) (y1 : Int32) (y2 : Int32) (h : dH), B XC 2 RX1 cX1_measure 3 none fiV 12 [.ref t, .int y1, .int y2] [] h (f_X1_measure_L12 t kL2 n y1 y2 h) := by
  intro n
  induction n with
  | zero =>
    intro y1 y2 h
    exact B_none
  | succ n ih =>
    intro y1 y2 h
    rw [f_X1_measure_L12]
    refine B_iload_n dX1_measure_12 rfl rfl ?_
    refine B_aload_n dX1_measure_13 rfl rfl ?_
    refine B_getI dX1_measure_14 fl_X1_29 ht rfl ?_
    refine C_icmp_ge (tgt := 71) dX1_measure_17 (by decide) (fun q9 => ?_) (fun q9 => ?_)
    · refine B_iinc (w := (y1 + 1)) (ls' := [.ref t, .int (y1 + 1), .int y2]) dX1_measure_71 rfl (congrArg (fun z => y1 + z) ic_1) (Nat.le_of_ble_eq_true rfl) rfl rfl ?_
      refine B_goto (tgt := 2) dX1_measure_74 (by decide) ?_
      refine B_drop 2 (ls' := [.ref t, .int (y1 + 1), .null]) rfl ?_
      exact hkL2 (y1 + 1)  h
    · refine B_aload_n dX1_measure_20 rfl rfl ?_
      refine B_getR dX1_measure_21 fl_X1_20 ht rfl (rfX1_3 _ ht) ?_
      refine B_iload_n dX1_measure_24 rfl rfl ?_
      refine B_iconst dX1_measure_25 ic_1 ?_
      refine B_iadd dX1_measure_26 ?_
      refine C_chk (fun q2 => ?_)
      refine B_aald dX1_measure_27 (shX1_3 ht) q2 (rrX1_3 _ ht q2) ?_
      refine B_iload_n dX1_measure_28 rfl rfl ?_
      refine B_iconst dX1_measure_29 ic_1 ?_
      refine B_iadd dX1_measure_30 ?_
      refine B_aload_n dX1_measure_31 rfl rfl ?_
      refine B_iload_n dX1_measure_32 rfl rfl ?_
      refine B_iconst dX1_measure_33 ic_0 ?_
      refine B_Vp (st := [.int (y2 + 1), .ref (t + 11 + dI (y1 + 1))]) dX1_measure_34 cl_X1_36 (t_X1_toldOf t ht y1 0 h) (Nat.le_of_ble_eq_true rfl) ht rfl rfl (Nat.le_of_ble_eq_true rfl) (fun v3 _ => ?_)
      refine B_aload_n dX1_measure_37 rfl rfl ?_
      refine B_iload_n dX1_measure_38 rfl rfl ?_
      refine B_iconst dX1_measure_39 ic_0 ?_
      refine B_Vp (st := [.int v3, .int (y2 + 1), .ref (t + 11 + dI (y1 + 1))]) dX1_measure_40 cl_X1_36 (t_X1_toldOf t ht y2 0 h) (Nat.le_of_ble_eq_true rfl) ht rfl rfl (Nat.le_of_ble_eq_true rfl) (fun v4 _ => ?_)
      refine B_isub dX1_measure_43 ?_
      refine B_mabs dX1_measure_44 mt_X1_40 (Nat.le_of_ble_eq_true rfl) (Nat.le_of_ble_eq_true rfl) ?_
      refine B_aload_n dX1_measure_47 rfl rfl ?_
      refine B_iload_n dX1_measure_48 rfl rfl ?_
      refine B_iconst dX1_measure_49 ic_1 ?_
      refine B_Vp (st := [.int (jabs (v3 - v4)), .int (y2 + 1), .ref (t + 11 + dI (y1 + 1))]) dX1_measure_50 cl_X1_36 (t_X1_toldOf t ht y1 1 h) (Nat.le_of_ble_eq_true rfl) ht rfl rfl (Nat.le_of_ble_eq_true rfl) (fun v5 _ => ?_)
      refine B_aload_n dX1_measure_53 rfl rfl ?_
      refine B_iload_n dX1_measure_54 rfl rfl ?_
      refine B_iconst dX1_measure_55 ic_1 ?_
      refine B_Vp (st := [.int v5, .int (jabs (v3 - v4)), .int (y2 + 1), .ref (t + 11 + dI (y1 + 1))]) dX1_measure_56 cl_X1_36 (t_X1_toldOf t ht y2 1 h) (Nat.le_of_ble_eq_true rfl) ht rfl rfl (Nat.le_of_ble_eq_true rfl) (fun v6 _ => ?_)
      refine B_isub dX1_measure_59 ?_
      refine B_mabs dX1_measure_60 mt_X1_40 (Nat.le_of_ble_eq_true rfl) (Nat.le_of_ble_eq_true rfl) ?_
      refine B_iadd dX1_measure_63 ?_
      refine C_chk (fun q7 => ?_)
      refine L_iast dX1_measure_64 (rowX1_3 ht q2) q7 rfl ?_
      refine B_lh (fun h8 => ?_)
      refine B_iinc (w := (y2 + 1)) (ls' := [.ref t, .int y1, .int (y2 + 1)]) dX1_measure_65 rfl (congrArg (fun z => y2 + z) ic_1) (Nat.le_of_ble_eq_true rfl) rfl rfl ?_
      refine B_goto (tgt := 12) dX1_measure_68 (by decide) ?_
      exact ih y1 (y2 + 1)  h8
def f_X1_measure_L2 (t : Nat) : Nat → Int32 → dH → Option (dH)
  | 0, _, _ => none
  | n + 1, y1, h =>
    if y1 < (h.1 t 2) then
    f_X1_measure_L12 t (f_X1_measure_L2 t n) dFu y1 (-1) h
    else
    some h
set_option maxRecDepth 20000 in
set_option maxHeartbeats 4000000 in
theorem b_X1_measure_L2 {t : Nat} (ht : XC.1[t]? = some (.inl 1)) : ∀ (n : Nat) (y1 : Int32) (h : dH), B XC 2 RX1 cX1_measure 3 none fiV 2 [.ref t, .int y1, .null] [] h (f_X1_measure_L2 t n y1 h) := by
  intro n
  induction n with
  | zero =>
    intro y1 h
    exact B_none
  | succ n ih =>
    intro y1 h
    rw [f_X1_measure_L2]
    refine B_iload_n dX1_measure_2 rfl rfl ?_
    refine B_aload_n dX1_measure_3 rfl rfl ?_
    refine B_getI dX1_measure_4 fl_X1_29 ht rfl ?_
    refine C_icmp_ge (tgt := 77) dX1_measure_7 (by decide) (fun q1 => ?_) (fun q1 => ?_)
    · exact B_return dX1_measure_77 rfl rfl
    · refine B_iconst dX1_measure_10 ic_m1 ?_
      refine B_istore_n (ls' := [.ref t, .int y1, .int (-1)]) dX1_measure_11 rfl (Nat.le_of_ble_eq_true rfl) rfl rfl ?_
      exact b_X1_measure_L12 ht (fun qy1 qh => ih qy1 qh) dFu y1 (-1) h
def f_X1_measure (t : Nat) (h : dH) : Option (dH) :=
  f_X1_measure_L2 t dFu (-1) h
set_option maxRecDepth 20000 in
set_option maxHeartbeats 4000000 in
theorem t_X1_measure (t : Nat) (ht : XC.1[t]? = some (.inl 1)) (h : dH) : T XC 2 yX1_measure cX1_measure 3 none fiV [.ref t] h (f_X1_measure t h) := by
  refine T_of [.ref t, .null, .null] (by decide) (fun _ => rfl) (fun _ => Nat.le_of_ble_eq_true rfl) ?_
  show B XC 2 RX1 cX1_measure 3 none fiV 0 [.ref t, .null, .null] [] h (f_X1_measure t h)
  unfold f_X1_measure
  refine B_iconst dX1_measure_0 ic_m1 ?_
  refine B_istore_n (ls' := [.ref t, .int (-1), .null]) dX1_measure_1 rfl (Nat.le_of_ble_eq_true rfl) rfl rfl ?_
  exact b_X1_measure_L2 ht dFu (-1) h
def f_X1_copyFrom_L20 : Nat → Int32 → dH → Option (dH)
  | 0, _, _ => none
  | n + 1, y2, h =>
    if y2 < 7 then
    if dIn y2 7 then
    if dIn y2 7 then
    if dIn y2 7 then
    if dCk 0 0 5 5 5 then
    (some (dCpy h (25 + dI y2) (6 + dI y2) (dI 0) (dI 0) (dI 5))).bind fun h10 =>
    (f_X1_copyFrom_L20 n) (y2 + 1) h10
    else none
    else none
    else none
    else none
    else
    (some (dPut h 3 2 (h.1 22 2))).bind fun h3 =>
    (f_X1_measure 3 h3).bind fun h5 =>
    some h5
set_option maxRecDepth 20000 in
set_option maxHeartbeats 4000000 in
theorem b_X1_copyFrom_L20 : ∀ (n : Nat) (y2 : Int32) (h : dH), B XC 3 RX1 cX1_copyFrom 3 none fiV 20 [.ref 3, .ref 22, .int y2] [] h (f_X1_copyFrom_L20 n y2 h) := by
  intro n
  induction n with
  | zero =>
    intro y2 h
    exact B_none
  | succ n ih =>
    intro y2 h
    rw [f_X1_copyFrom_L20]
    refine B_iload_n dX1_copyFrom_20 rfl rfl ?_
    refine B_bipush dX1_copyFrom_21 bp_7 ?_
    refine C_icmp_ge (tgt := 56) dX1_copyFrom_23 (by decide) (fun q11 => ?_) (fun q11 => ?_)
    · refine B_aload_n dX1_copyFrom_56 rfl rfl ?_
      refine B_aload_n dX1_copyFrom_57 rfl rfl ?_
      refine B_getI dX1_copyFrom_58 fl_X1_29 shC_22 rfl ?_
      refine B_putI dX1_copyFrom_61 fl_X1_29 fw_X1_2 shC_3 rfl ?_
      refine B_lh (fun h3 => ?_)
      refine B_aload_n dX1_copyFrom_64 rfl rfl ?_
      refine B_VV (st := []) dX1_copyFrom_65 cl_X1_33 (t_X1_measure 3 shC_3 h3) (Nat.le_of_ble_eq_true rfl) shC_3 rfl rfl (Nat.le_of_ble_eq_true rfl) (fun h5 _ => ?_)
      exact B_return dX1_copyFrom_68 rfl rfl
    · refine B_aload_n dX1_copyFrom_26 rfl rfl ?_
      refine B_getR dX1_copyFrom_27 fl_X1_17 shC_22 rfl (rfC_22_1 _) ?_
      refine B_iload_n dX1_copyFrom_30 rfl rfl ?_
      refine C_chk (fun q6 => ?_)
      refine B_aald dX1_copyFrom_31 shC_24 q6 (rrC_24 _ q6) ?_
      refine B_iconst dX1_copyFrom_32 ic_0 ?_
      refine B_aload_n dX1_copyFrom_33 rfl rfl ?_
      refine B_getR dX1_copyFrom_34 fl_X1_17 shC_3 rfl (rfC_3_1 _) ?_
      refine B_iload_n dX1_copyFrom_37 rfl rfl ?_
      refine C_chk (fun q7 => ?_)
      refine B_aald dX1_copyFrom_38 shC_5 q7 (rrC_5 _ q7) ?_
      refine B_iconst dX1_copyFrom_39 ic_0 ?_
      refine B_aload_n dX1_copyFrom_40 rfl rfl ?_
      refine B_getR dX1_copyFrom_41 fl_X1_17 shC_3 rfl (rfC_3_1 _) ?_
      refine B_iload_n dX1_copyFrom_44 rfl rfl ?_
      refine C_chk (fun q8 => ?_)
      refine B_aald dX1_copyFrom_45 shC_5 q8 (rrC_5 _ q8) ?_
      refine B_alen (v := 5) dX1_copyFrom_46 (rowC_5 q8) (by decide) ?_
      refine C_chk (fun q9 => ?_)
      refine L_copy dX1_copyFrom_47 cp_X1_23 (Nat.le_of_ble_eq_true rfl) (Nat.le_of_ble_eq_true rfl) (rowC_24 q6) (rowC_5 q7) q9 ?_
      refine B_lh (fun h10 => ?_)
      refine B_iinc (w := (y2 + 1)) (ls' := [.ref 3, .ref 22, .int (y2 + 1)]) dX1_copyFrom_50 rfl (congrArg (fun z => y2 + z) ic_1) (Nat.le_of_ble_eq_true rfl) rfl rfl ?_
      refine B_goto (tgt := 20) dX1_copyFrom_53 (by decide) ?_
      exact ih (y2 + 1)  h10
def f_X1_copyFrom (h : dH) : Option (dH) :=
  if dCk 0 0 3 3 3 then
  (some (dCpy h 23 4 (dI 0) (dI 0) (dI 3))).bind fun h2 =>
  f_X1_copyFrom_L20 dFu 0 h2
  else none
set_option maxRecDepth 20000 in
set_option maxHeartbeats 4000000 in
theorem t_X1_copyFrom (h : dH) : T XC 3 yX1_copyFrom cX1_copyFrom 3 none fiV [.ref 3, .ref 22] h (f_X1_copyFrom h) := by
  refine T_of [.ref 3, .ref 22, .null] (by decide) (fun _ => rfl) (fun _ => Nat.le_of_ble_eq_true rfl) ?_
  show B XC 3 RX1 cX1_copyFrom 3 none fiV 0 [.ref 3, .ref 22, .null] [] h (f_X1_copyFrom h)
  unfold f_X1_copyFrom
  refine B_aload_n dX1_copyFrom_0 rfl rfl ?_
  refine B_getR dX1_copyFrom_1 fl_X1_9 shC_22 rfl (rfC_22_0 _) ?_
  refine B_iconst dX1_copyFrom_4 ic_0 ?_
  refine B_aload_n dX1_copyFrom_5 rfl rfl ?_
  refine B_getR dX1_copyFrom_6 fl_X1_9 shC_3 rfl (rfC_3_0 _) ?_
  refine B_iconst dX1_copyFrom_9 ic_0 ?_
  refine B_aload_n dX1_copyFrom_10 rfl rfl ?_
  refine B_getR dX1_copyFrom_11 fl_X1_9 shC_3 rfl (rfC_3_0 _) ?_
  refine B_alen (v := 3) dX1_copyFrom_14 shC_4 (by decide) ?_
  refine C_chk (fun q1 => ?_)
  refine L_copy dX1_copyFrom_15 cp_X1_23 (Nat.le_of_ble_eq_true rfl) (Nat.le_of_ble_eq_true rfl) shC_23 shC_4 q1 ?_
  refine B_lh (fun h2 => ?_)
  refine B_iconst dX1_copyFrom_18 ic_0 ?_
  refine B_istore_n (ls' := [.ref 3, .ref 22, .int 0]) dX1_copyFrom_19 rfl (Nat.le_of_ble_eq_true rfl) rfl rfl ?_
  exact b_X1_copyFrom_L20 dFu 0 h2
def f_X1_isThere (h : dH) : Bool :=
  if 0 < (h.1 3 2) then
  true
  else
  false
set_option maxRecDepth 20000 in
set_option maxHeartbeats 4000000 in
theorem t_X1_isThere (h : dH) : T XC 0 yX1_isThere cX1_isThere 1 (some .boolean) (fiB h) [.ref 3] h (some (f_X1_isThere h)) := by
  refine T_of [.ref 3] (by decide) (fun _ => rfl) (fun _ => Nat.le_of_ble_eq_true rfl) ?_
  show B XC 0 RX1 cX1_isThere 1 (some .boolean) (fiB h) 0 [.ref 3] [] h (some (f_X1_isThere h))
  unfold f_X1_isThere
  refine B_aload_n dX1_isThere_0 rfl rfl ?_
  refine B_getI dX1_isThere_1 fl_X1_29 shC_3 rfl ?_
  refine C_some ?_
  refine C_if_le (tgt := 11) dX1_isThere_4 (by decide) (fun q1 => ?_) (fun q1 => ?_)
  · refine B_iconst dX1_isThere_11 ic_0 ?_
    exact B_zreturn dX1_isThere_12 rfl rfl rfl
  · refine B_iconst dX1_isThere_7 ic_1 ?_
    refine B_goto (tgt := 12) dX1_isThere_8 (by decide) ?_
    exact B_zreturn dX1_isThere_12 rfl rfl rfl
def f_X1_isSet (x1 : Int32) (h : dH) : Bool :=
  if 0 < x1 then
  if x1 < (1 <<< ((h.1 3 2) &&& 31)) then
  true
  else
  false
  else
  false
set_option maxRecDepth 20000 in
set_option maxHeartbeats 4000000 in
theorem t_X1_isSet (x1 : Int32) (h : dH) : T XC 0 yX1_isSet cX1_isSet 2 (some .boolean) (fiB h) [.ref 3, .int x1] h (some (f_X1_isSet x1 h)) := by
  refine T_of [.ref 3, .int x1] (by decide) (fun _ => rfl) (fun _ => Nat.le_of_ble_eq_true rfl) ?_
  show B XC 0 RX1 cX1_isSet 2 (some .boolean) (fiB h) 0 [.ref 3, .int x1] [] h (some (f_X1_isSet x1 h))
  unfold f_X1_isSet
  refine B_iload_n dX1_isSet_0 rfl rfl ?_
  refine C_some ?_
  refine C_if_le (tgt := 18) dX1_isSet_1 (by decide) (fun q2 => ?_) (fun q2 => ?_)
  · refine B_iconst dX1_isSet_18 ic_0 ?_
    exact B_zreturn dX1_isSet_19 rfl rfl rfl
  · refine B_iload_n dX1_isSet_4 rfl rfl ?_
    refine B_iconst dX1_isSet_5 ic_1 ?_
    refine B_aload_n dX1_isSet_6 rfl rfl ?_
    refine B_getI dX1_isSet_7 fl_X1_29 shC_3 rfl ?_
    refine B_ishl dX1_isSet_10 ?_
    refine C_some ?_
    refine C_icmp_ge (tgt := 18) dX1_isSet_11 (by decide) (fun q1 => ?_) (fun q1 => ?_)
    · refine B_iconst dX1_isSet_18 ic_0 ?_
      exact B_zreturn dX1_isSet_19 rfl rfl rfl
    · refine B_iconst dX1_isSet_14 ic_1 ?_
      refine B_goto (tgt := 19) dX1_isSet_15 (by decide) ?_
      exact B_zreturn dX1_isSet_19 rfl rfl rfl
def f_X1_apart (t : Nat) (x1 : Int32) (x2 : Int32) (h : dH) : Option (Int32) :=
  if x1 < (-1) then
  some 0
  else
  if x1 < (h.1 t 2) then
  if x2 < (-1) then
  some 0
  else
  if x2 < (h.1 t 2) then
  if dIn (x1 + 1) 8 then
  if dIn (x2 + 1) 8 then
  some (h.1 (t + 11 + dI (x1 + 1)) (dI (x2 + 1)))
  else none
  else none
  else
  some 0
  else
  some 0
set_option maxRecDepth 20000 in
set_option maxHeartbeats 4000000 in
theorem t_X1_apart (t : Nat) (ht : XC.1[t]? = some (.inl 1)) (x1 : Int32) (x2 : Int32) (h : dH) : T XC 0 yX1_apart cX1_apart 3 (some .int) (fiP h) [.ref t, .int x1, .int x2] h (f_X1_apart t x1 x2 h) := by
  refine T_of [.ref t, .int x1, .int x2] (by decide) (fun _ => rfl) (fun _ => Nat.le_of_ble_eq_true rfl) ?_
  show B XC 0 RX1 cX1_apart 3 (some .int) (fiP h) 0 [.ref t, .int x1, .int x2] [] h (f_X1_apart t x1 x2 h)
  unfold f_X1_apart
  refine B_iload_n dX1_apart_0 rfl rfl ?_
  refine B_iconst dX1_apart_1 ic_m1 ?_
  refine C_icmp_lt (tgt := 41) dX1_apart_2 (by decide) (fun q6 => ?_) (fun q6 => ?_)
  · refine B_iconst dX1_apart_41 ic_0 ?_
    exact B_ireturn dX1_apart_42 rfl rfl
  · refine B_iload_n dX1_apart_5 rfl rfl ?_
    refine B_aload_n dX1_apart_6 rfl rfl ?_
    refine B_getI dX1_apart_7 fl_X1_29 ht rfl ?_
    refine C_icmp_ge (tgt := 41) dX1_apart_10 (by decide) (fun q5 => ?_) (fun q5 => ?_)
    · refine B_iconst dX1_apart_41 ic_0 ?_
      exact B_ireturn dX1_apart_42 rfl rfl
    · refine B_iload_n dX1_apart_13 rfl rfl ?_
      refine B_iconst dX1_apart_14 ic_m1 ?_
      refine C_icmp_lt (tgt := 41) dX1_apart_15 (by decide) (fun q4 => ?_) (fun q4 => ?_)
      · refine B_iconst dX1_apart_41 ic_0 ?_
        exact B_ireturn dX1_apart_42 rfl rfl
      · refine B_iload_n dX1_apart_18 rfl rfl ?_
        refine B_aload_n dX1_apart_19 rfl rfl ?_
        refine B_getI dX1_apart_20 fl_X1_29 ht rfl ?_
        refine C_icmp_ge (tgt := 41) dX1_apart_23 (by decide) (fun q3 => ?_) (fun q3 => ?_)
        · refine B_iconst dX1_apart_41 ic_0 ?_
          exact B_ireturn dX1_apart_42 rfl rfl
        · refine B_aload_n dX1_apart_26 rfl rfl ?_
          refine B_getR dX1_apart_27 fl_X1_20 ht rfl (rfX1_3 _ ht) ?_
          refine B_iload_n dX1_apart_30 rfl rfl ?_
          refine B_iconst dX1_apart_31 ic_1 ?_
          refine B_iadd dX1_apart_32 ?_
          refine C_chk (fun q1 => ?_)
          refine B_aald dX1_apart_33 (shX1_3 ht) q1 (rrX1_3 _ ht q1) ?_
          refine B_iload_n dX1_apart_34 rfl rfl ?_
          refine B_iconst dX1_apart_35 ic_1 ?_
          refine B_iadd dX1_apart_36 ?_
          refine C_chk (fun q2 => ?_)
          refine L_iald dX1_apart_37 (rowX1_3 ht q1) q2 rfl ?_
          refine B_goto (tgt := 42) dX1_apart_38 (by decide) ?_
          exact B_ireturn dX1_apart_42 rfl rfl
def f_X1_hasTwoInOne_L12 (t : Nat) (kL2 : Int32 → Option (Bool)) (h : dH) : Nat → Int32 → Int32 → Option (Bool)
  | 0, _, _ => none
  | n + 1, y1, y2 =>
    if y2 < y1 then
    (f_X1_apart t y1 y2 h).bind fun v2 =>
    if v2 = 0 then
    some true
    else
    (f_X1_hasTwoInOne_L12 t kL2 h n) y1 (y2 + 1)
    else
    kL2 (y1 + 1)
set_option maxRecDepth 20000 in
set_option maxHeartbeats 4000000 in
theorem b_X1_hasTwoInOne_L12 {t : Nat} {kL2 : Int32 → Option (Bool)} (ht : XC.1[t]? = some (.inl 1)) (h : dH) (hkL2 : ∀ (y1 : Int32), B XC 1 RX1 cX1_hasTwoInOne 3 (some .boolean) (fiB h) 2 [.ref t, .int y1, .null] [] h (kL2 y1)) : ∀ (n : Nat) (y1 : Int32) (y2 : Int32), B XC 1 RX1 cX1_hasTwoInOne 3 (some .boolean) (fiB h) 12 [.ref t, .int y1, .int y2] [] h (f_X1_hasTwoInOne_L12 t kL2 h n y1 y2) := by
  intro n
  induction n with
  | zero =>
    intro y1 y2
    exact B_none
  | succ n ih =>
    intro y1 y2
    rw [f_X1_hasTwoInOne_L12]
    refine B_iload_n dX1_hasTwoInOne_12 rfl rfl ?_
    refine B_iload_n dX1_hasTwoInOne_13 rfl rfl ?_
    refine C_icmp_ge (tgt := 34) dX1_hasTwoInOne_14 (by decide) (fun q4 => ?_) (fun q4 => ?_)
    · refine B_iinc (w := (y1 + 1)) (ls' := [.ref t, .int (y1 + 1), .int y2]) dX1_hasTwoInOne_34 rfl (congrArg (fun z => y1 + z) ic_1) (Nat.le_of_ble_eq_true rfl) rfl rfl ?_
      refine B_goto (tgt := 2) dX1_hasTwoInOne_37 (by decide) ?_
      refine B_drop 2 (ls' := [.ref t, .int (y1 + 1), .null]) rfl ?_
      exact hkL2 (y1 + 1)  
    · refine B_aload_n dX1_hasTwoInOne_17 rfl rfl ?_
      refine B_iload_n dX1_hasTwoInOne_18 rfl rfl ?_
      refine B_iload_n dX1_hasTwoInOne_19 rfl rfl ?_
      refine B_Vp (st := []) dX1_hasTwoInOne_20 cl_X1_50 (t_X1_apart t ht y1 y2 h) (Nat.le_of_ble_eq_true rfl) ht rfl rfl (Nat.le_of_ble_eq_true rfl) (fun v2 _ => ?_)
      refine C_if_ne (tgt := 28) dX1_hasTwoInOne_23 (by decide) (fun q3 => ?_) (fun q3 => ?_)
      · refine B_iinc (w := (y2 + 1)) (ls' := [.ref t, .int y1, .int (y2 + 1)]) dX1_hasTwoInOne_28 rfl (congrArg (fun z => y2 + z) ic_1) (Nat.le_of_ble_eq_true rfl) rfl rfl ?_
        refine B_goto (tgt := 12) dX1_hasTwoInOne_31 (by decide) ?_
        exact ih y1 (y2 + 1)  
      · refine B_iconst dX1_hasTwoInOne_26 ic_1 ?_
        exact B_zreturn dX1_hasTwoInOne_27 rfl rfl rfl
def f_X1_hasTwoInOne_L2 (t : Nat) (h : dH) : Nat → Int32 → Option (Bool)
  | 0, _ => none
  | n + 1, y1 =>
    if y1 < (h.1 t 2) then
    f_X1_hasTwoInOne_L12 t (f_X1_hasTwoInOne_L2 t h n) h dFu y1 0
    else
    some false
set_option maxRecDepth 20000 in
set_option maxHeartbeats 4000000 in
theorem b_X1_hasTwoInOne_L2 {t : Nat} (ht : XC.1[t]? = some (.inl 1)) (h : dH) : ∀ (n : Nat) (y1 : Int32), B XC 1 RX1 cX1_hasTwoInOne 3 (some .boolean) (fiB h) 2 [.ref t, .int y1, .null] [] h (f_X1_hasTwoInOne_L2 t h n y1) := by
  intro n
  induction n with
  | zero =>
    intro y1
    exact B_none
  | succ n ih =>
    intro y1
    rw [f_X1_hasTwoInOne_L2]
    refine B_iload_n dX1_hasTwoInOne_2 rfl rfl ?_
    refine B_aload_n dX1_hasTwoInOne_3 rfl rfl ?_
    refine B_getI dX1_hasTwoInOne_4 fl_X1_29 ht rfl ?_
    refine C_icmp_ge (tgt := 40) dX1_hasTwoInOne_7 (by decide) (fun q1 => ?_) (fun q1 => ?_)
    · refine B_iconst dX1_hasTwoInOne_40 ic_0 ?_
      exact B_zreturn dX1_hasTwoInOne_41 rfl rfl rfl
    · refine B_iconst dX1_hasTwoInOne_10 ic_0 ?_
      refine B_istore_n (ls' := [.ref t, .int y1, .int 0]) dX1_hasTwoInOne_11 rfl (Nat.le_of_ble_eq_true rfl) rfl rfl ?_
      exact b_X1_hasTwoInOne_L12 ht h (fun qy1 => ih qy1) dFu y1 0
def f_X1_hasTwoInOne (t : Nat) (h : dH) : Option (Bool) :=
  f_X1_hasTwoInOne_L2 t h dFu 0
set_option maxRecDepth 20000 in
set_option maxHeartbeats 4000000 in
theorem t_X1_hasTwoInOne (t : Nat) (ht : XC.1[t]? = some (.inl 1)) (h : dH) : T XC 1 yX1_hasTwoInOne cX1_hasTwoInOne 3 (some .boolean) (fiB h) [.ref t] h (f_X1_hasTwoInOne t h) := by
  refine T_of [.ref t, .null, .null] (by decide) (fun _ => rfl) (fun _ => Nat.le_of_ble_eq_true rfl) ?_
  show B XC 1 RX1 cX1_hasTwoInOne 3 (some .boolean) (fiB h) 0 [.ref t, .null, .null] [] h (f_X1_hasTwoInOne t h)
  unfold f_X1_hasTwoInOne
  refine B_iconst dX1_hasTwoInOne_0 ic_0 ?_
  refine B_istore_n (ls' := [.ref t, .int 0, .null]) dX1_hasTwoInOne_1 rfl (Nat.le_of_ble_eq_true rfl) rfl rfl ?_
  exact b_X1_hasTwoInOne_L2 ht h dFu 0
def f_X1_spread_L14 (kL4 : Int32 → Int32 → Option (Int32)) (h : dH) : Nat → Int32 → Int32 → Int32 → Option (Int32)
  | 0, _, _, _ => none
  | n + 1, y1, y2, y3 =>
    if y3 < y2 then
    (f_X1_apart 3 y2 y3 h).bind fun v2 =>
    (some ((jmax y1 v2))).bind fun v3 =>
    (f_X1_spread_L14 kL4 h n) v3 y2 (y3 + 1)
    else
    kL4 y1 (y2 + 1)
set_option maxRecDepth 20000 in
set_option maxHeartbeats 4000000 in
theorem b_X1_spread_L14 {kL4 : Int32 → Int32 → Option (Int32)} (h : dH) (hkL4 : ∀ (y1 : Int32) (y2 : Int32), B XC 1 RX1 cX1_spread 4 (some .int) (fiP h) 4 [.ref 3, .int y1, .int y2, .null] [] h (kL4 y1 y2)) : ∀ (n : Nat) (y1 : Int32) (y2 : Int32) (y3 : Int32), B XC 1 RX1 cX1_spread 4 (some .int) (fiP h) 14 [.ref 3, .int y1, .int y2, .int y3] [] h (f_X1_spread_L14 kL4 h n y1 y2 y3) := by
  intro n
  induction n with
  | zero =>
    intro y1 y2 y3
    exact B_none
  | succ n ih =>
    intro y1 y2 y3
    rw [f_X1_spread_L14]
    refine B_iload_n dX1_spread_14 rfl rfl ?_
    refine B_iload_n dX1_spread_15 rfl rfl ?_
    refine C_icmp_ge (tgt := 36) dX1_spread_16 (by decide) (fun q4 => ?_) (fun q4 => ?_)
    · refine B_iinc (w := (y2 + 1)) (ls' := [.ref 3, .int y1, .int (y2 + 1), .int y3]) dX1_spread_36 rfl (congrArg (fun z => y2 + z) ic_1) (Nat.le_of_ble_eq_true rfl) rfl rfl ?_
      refine B_goto (tgt := 4) dX1_spread_39 (by decide) ?_
      refine B_drop 3 (ls' := [.ref 3, .int y1, .int (y2 + 1), .null]) rfl ?_
      exact hkL4 y1 (y2 + 1)  
    · refine B_iload_n dX1_spread_19 rfl rfl ?_
      refine B_aload_n dX1_spread_20 rfl rfl ?_
      refine B_iload_n dX1_spread_21 rfl rfl ?_
      refine B_iload_n dX1_spread_22 rfl rfl ?_
      refine B_Vp (st := [.int y1]) dX1_spread_23 cl_X1_50 (t_X1_apart 3 shC_3 y2 y3 h) (Nat.le_of_ble_eq_true rfl) shC_3 rfl rfl (Nat.le_of_ble_eq_true rfl) (fun v2 _ => ?_)
      refine B_mmax dX1_spread_26 mt_X1_53 (Nat.le_of_ble_eq_true rfl) (Nat.le_of_ble_eq_true rfl) ?_
      refine B_lv (fun v3 => ?_)
      refine B_istore_n (ls' := [.ref 3, .int v3, .int y2, .int y3]) dX1_spread_29 rfl (Nat.le_of_ble_eq_true rfl) rfl rfl ?_
      refine B_iinc (w := (y3 + 1)) (ls' := [.ref 3, .int v3, .int y2, .int (y3 + 1)]) dX1_spread_30 rfl (congrArg (fun z => y3 + z) ic_1) (Nat.le_of_ble_eq_true rfl) rfl rfl ?_
      refine B_goto (tgt := 14) dX1_spread_33 (by decide) ?_
      exact ih v3 y2 (y3 + 1)  
def f_X1_spread_L4 (h : dH) : Nat → Int32 → Int32 → Option (Int32)
  | 0, _, _ => none
  | n + 1, y1, y2 =>
    if y2 < (h.1 3 2) then
    f_X1_spread_L14 (f_X1_spread_L4 h n) h dFu y1 y2 0
    else
    some y1
set_option maxRecDepth 20000 in
set_option maxHeartbeats 4000000 in
theorem b_X1_spread_L4 (h : dH) : ∀ (n : Nat) (y1 : Int32) (y2 : Int32), B XC 1 RX1 cX1_spread 4 (some .int) (fiP h) 4 [.ref 3, .int y1, .int y2, .null] [] h (f_X1_spread_L4 h n y1 y2) := by
  intro n
  induction n with
  | zero =>
    intro y1 y2
    exact B_none
  | succ n ih =>
    intro y1 y2
    rw [f_X1_spread_L4]
    refine B_iload_n dX1_spread_4 rfl rfl ?_
    refine B_aload_n dX1_spread_5 rfl rfl ?_
    refine B_getI dX1_spread_6 fl_X1_29 shC_3 rfl ?_
    refine C_icmp_ge (tgt := 42) dX1_spread_9 (by decide) (fun q1 => ?_) (fun q1 => ?_)
    · refine B_iload_n dX1_spread_42 rfl rfl ?_
      exact B_ireturn dX1_spread_43 rfl rfl
    · refine B_iconst dX1_spread_12 ic_0 ?_
      refine B_istore_n (ls' := [.ref 3, .int y1, .int y2, .int 0]) dX1_spread_13 rfl (Nat.le_of_ble_eq_true rfl) rfl rfl ?_
      exact b_X1_spread_L14 h (fun qy1 qy2 => ih qy1 qy2) dFu y1 y2 0
def f_X1_spread (h : dH) : Option (Int32) :=
  f_X1_spread_L4 h dFu 0 0
set_option maxRecDepth 20000 in
set_option maxHeartbeats 4000000 in
theorem t_X1_spread (h : dH) : T XC 1 yX1_spread cX1_spread 4 (some .int) (fiP h) [.ref 3] h (f_X1_spread h) := by
  refine T_of [.ref 3, .null, .null, .null] (by decide) (fun _ => rfl) (fun _ => Nat.le_of_ble_eq_true rfl) ?_
  show B XC 1 RX1 cX1_spread 4 (some .int) (fiP h) 0 [.ref 3, .null, .null, .null] [] h (f_X1_spread h)
  unfold f_X1_spread
  refine B_iconst dX1_spread_0 ic_0 ?_
  refine B_istore_n (ls' := [.ref 3, .int 0, .null, .null]) dX1_spread_1 rfl (Nat.le_of_ble_eq_true rfl) rfl rfl ?_
  refine B_iconst dX1_spread_2 ic_0 ?_
  refine B_istore_n (ls' := [.ref 3, .int 0, .int 0, .null]) dX1_spread_3 rfl (Nat.le_of_ble_eq_true rfl) rfl rfl ?_
  exact b_X1_spread_L4 h dFu 0 0
def f_X1_ofKind_J28 (kL4 : Int32 → Int32 → Int32 → Option (Int32)) (y1 : Int32) (y2 : Int32) (y3 : Int32) (h : dH) : Option (Int32) :=
  kL4 y1 y2 (y3 + 1)
set_option maxRecDepth 20000 in
set_option maxHeartbeats 4000000 in
theorem b_X1_ofKind_J28 {kL4 : Int32 → Int32 → Int32 → Option (Int32)} (h : dH) (hkL4 : ∀ (y1 : Int32) (y2 : Int32) (y3 : Int32), B XC 2 RX1 cX1_ofKind 4 (some .int) (fiP h) 4 [.ref 3, .int y1, .int y2, .int y3] [] h (kL4 y1 y2 y3)) (y1 : Int32) (y2 : Int32) (y3 : Int32) : B XC 2 RX1 cX1_ofKind 4 (some .int) (fiP h) 28 [.ref 3, .int y1, .int y2, .int y3] [] h (f_X1_ofKind_J28 kL4 y1 y2 y3 h) := by
  unfold f_X1_ofKind_J28
  refine B_iinc (w := (y3 + 1)) (ls' := [.ref 3, .int y1, .int y2, .int (y3 + 1)]) dX1_ofKind_28 rfl (congrArg (fun z => y3 + z) ic_1) (Nat.le_of_ble_eq_true rfl) rfl rfl ?_
  refine B_goto (tgt := 4) dX1_ofKind_31 (by decide) ?_
  exact hkL4 y1 y2 (y3 + 1)  
def f_X1_ofKind_L4 (h : dH) : Nat → Int32 → Int32 → Int32 → Option (Int32)
  | 0, _, _, _ => none
  | n + 1, y1, y2, y3 =>
    if y3 < (h.1 3 2) then
    (f_X1_toldOf 3 y3 2 h).bind fun v1 =>
    if v1 = y1 then
    (some ((y2 ||| (1 <<< (y3 &&& 31))))).bind fun v2 =>
    f_X1_ofKind_J28 (f_X1_ofKind_L4 h n) y1 v2 y3 h
    else
    f_X1_ofKind_J28 (f_X1_ofKind_L4 h n) y1 y2 y3 h
    else
    some y2
set_option maxRecDepth 20000 in
set_option maxHeartbeats 4000000 in
theorem b_X1_ofKind_L4 (h : dH) : ∀ (n : Nat) (y1 : Int32) (y2 : Int32) (y3 : Int32), B XC 2 RX1 cX1_ofKind 4 (some .int) (fiP h) 4 [.ref 3, .int y1, .int y2, .int y3] [] h (f_X1_ofKind_L4 h n y1 y2 y3) := by
  intro n
  induction n with
  | zero =>
    intro y1 y2 y3
    exact B_none
  | succ n ih =>
    intro y1 y2 y3
    rw [f_X1_ofKind_L4]
    refine B_iload_n dX1_ofKind_4 rfl rfl ?_
    refine B_aload_n dX1_ofKind_5 rfl rfl ?_
    refine B_getI dX1_ofKind_6 fl_X1_29 shC_3 rfl ?_
    refine C_icmp_ge (tgt := 34) dX1_ofKind_9 (by decide) (fun q4 => ?_) (fun q4 => ?_)
    · refine B_iload_n dX1_ofKind_34 rfl rfl ?_
      exact B_ireturn dX1_ofKind_35 rfl rfl
    · refine B_aload_n dX1_ofKind_12 rfl rfl ?_
      refine B_iload_n dX1_ofKind_13 rfl rfl ?_
      refine B_iconst dX1_ofKind_14 ic_2 ?_
      refine B_Vp (st := []) dX1_ofKind_15 cl_X1_36 (t_X1_toldOf 3 shC_3 y3 2 h) (Nat.le_of_ble_eq_true rfl) shC_3 rfl rfl (Nat.le_of_ble_eq_true rfl) (fun v1 _ => ?_)
      refine B_iload_n dX1_ofKind_18 rfl rfl ?_
      refine C_icmp_ne (tgt := 28) dX1_ofKind_19 (by decide) (fun q3 => ?_) (fun q3 => ?_)
      · exact b_X1_ofKind_J28 h (fun qy1 qy2 qy3 => ih qy1 qy2 qy3) y1 y2 y3
      · refine B_iload_n dX1_ofKind_22 rfl rfl ?_
        refine B_iconst dX1_ofKind_23 ic_1 ?_
        refine B_iload_n dX1_ofKind_24 rfl rfl ?_
        refine B_ishl dX1_ofKind_25 ?_
        refine B_ior dX1_ofKind_26 ?_
        refine B_lv (fun v2 => ?_)
        refine B_istore_n (ls' := [.ref 3, .int y1, .int v2, .int y3]) dX1_ofKind_27 rfl (Nat.le_of_ble_eq_true rfl) rfl rfl ?_
        exact b_X1_ofKind_J28 h (fun qy1 qy2 qy3 => ih qy1 qy2 qy3) y1 v2 y3
def f_X1_ofKind (x1 : Int32) (h : dH) : Option (Int32) :=
  f_X1_ofKind_L4 h dFu x1 0 0
set_option maxRecDepth 20000 in
set_option maxHeartbeats 4000000 in
theorem t_X1_ofKind (x1 : Int32) (h : dH) : T XC 2 yX1_ofKind cX1_ofKind 4 (some .int) (fiP h) [.ref 3, .int x1] h (f_X1_ofKind x1 h) := by
  refine T_of [.ref 3, .int x1, .null, .null] (by decide) (fun _ => rfl) (fun _ => Nat.le_of_ble_eq_true rfl) ?_
  show B XC 2 RX1 cX1_ofKind 4 (some .int) (fiP h) 0 [.ref 3, .int x1, .null, .null] [] h (f_X1_ofKind x1 h)
  unfold f_X1_ofKind
  refine B_iconst dX1_ofKind_0 ic_0 ?_
  refine B_istore_n (ls' := [.ref 3, .int x1, .int 0, .null]) dX1_ofKind_1 rfl (Nat.le_of_ble_eq_true rfl) rfl rfl ?_
  refine B_iconst dX1_ofKind_2 ic_0 ?_
  refine B_istore_n (ls' := [.ref 3, .int x1, .int 0, .int 0]) dX1_ofKind_3 rfl (Nat.le_of_ble_eq_true rfl) rfl rfl ?_
  exact b_X1_ofKind_L4 h dFu x1 0 0
def f_X1_roundComes_J61 (kL7 : Int32 → Int32 → Int32 → Int32 → Option (Int32)) (kL16 : Int32 → Int32 → Int32 → Int32 → Int32 → Option (Int32)) (y1 : Int32) (y2 : Int32) (y3 : Int32) (y4 : Int32) (y5 : Int32) (h : dH) : Option (Int32) :=
  kL16 y1 y2 y3 y4 (y5 + 1)
set_option maxRecDepth 20000 in
set_option maxHeartbeats 4000000 in
theorem b_X1_roundComes_J61 {kL7 : Int32 → Int32 → Int32 → Int32 → Option (Int32)} {kL16 : Int32 → Int32 → Int32 → Int32 → Int32 → Option (Int32)} (h : dH) (hkL7 : ∀ (y1 : Int32) (y2 : Int32) (y3 : Int32) (y4 : Int32), B XC 2 RX1 cX1_roundComes 6 (some .int) (fiP h) 7 [.ref 3, .int y1, .int y2, .int y3, .int y4, .null] [] h (kL7 y1 y2 y3 y4)) (hkL16 : ∀ (y1 : Int32) (y2 : Int32) (y3 : Int32) (y4 : Int32) (y5 : Int32), B XC 2 RX1 cX1_roundComes 6 (some .int) (fiP h) 16 [.ref 3, .int y1, .int y2, .int y3, .int y4, .int y5] [] h (kL16 y1 y2 y3 y4 y5)) (y1 : Int32) (y2 : Int32) (y3 : Int32) (y4 : Int32) (y5 : Int32) : B XC 2 RX1 cX1_roundComes 6 (some .int) (fiP h) 61 [.ref 3, .int y1, .int y2, .int y3, .int y4, .int y5] [] h (f_X1_roundComes_J61 kL7 kL16 y1 y2 y3 y4 y5 h) := by
  unfold f_X1_roundComes_J61
  refine B_iinc (w := (y5 + 1)) (ls' := [.ref 3, .int y1, .int y2, .int y3, .int y4, .int (y5 + 1)]) dX1_roundComes_61 rfl (congrArg (fun z => y5 + z) ic_1) (Nat.le_of_ble_eq_true rfl) rfl rfl ?_
  refine B_goto (tgt := 16) dX1_roundComes_64 (by decide) ?_
  exact hkL16 y1 y2 y3 y4 (y5 + 1)  
def f_X1_roundComes_L16 (kL7 : Int32 → Int32 → Int32 → Int32 → Option (Int32)) (h : dH) : Nat → Int32 → Int32 → Int32 → Int32 → Int32 → Option (Int32)
  | 0, _, _, _, _, _ => none
  | n + 1, y1, y2, y3, y4, y5 =>
    if y5 < (h.1 3 2) then
    (f_X1_toldOf 3 y5 2 h).bind fun v2 =>
    if v2 = y4 then
    (f_X1_apart 3 y3 y5 h).bind fun v3 =>
    if y5 = y1 then
    some (y2 + v3)
    else
    f_X1_roundComes_J61 kL7 (f_X1_roundComes_L16 kL7 h n) y1 ((y2 + v3) + 2) y5 y4 y5 h
    else
    f_X1_roundComes_J61 kL7 (f_X1_roundComes_L16 kL7 h n) y1 y2 y3 y4 y5 h
    else
    kL7 y1 y2 y3 (y4 + 1)
set_option maxRecDepth 20000 in
set_option maxHeartbeats 4000000 in
theorem b_X1_roundComes_L16 {kL7 : Int32 → Int32 → Int32 → Int32 → Option (Int32)} (h : dH) (hkL7 : ∀ (y1 : Int32) (y2 : Int32) (y3 : Int32) (y4 : Int32), B XC 2 RX1 cX1_roundComes 6 (some .int) (fiP h) 7 [.ref 3, .int y1, .int y2, .int y3, .int y4, .null] [] h (kL7 y1 y2 y3 y4)) : ∀ (n : Nat) (y1 : Int32) (y2 : Int32) (y3 : Int32) (y4 : Int32) (y5 : Int32), B XC 2 RX1 cX1_roundComes 6 (some .int) (fiP h) 16 [.ref 3, .int y1, .int y2, .int y3, .int y4, .int y5] [] h (f_X1_roundComes_L16 kL7 h n y1 y2 y3 y4 y5) := by
  intro n
  induction n with
  | zero =>
    intro y1 y2 y3 y4 y5
    exact B_none
  | succ n ih =>
    intro y1 y2 y3 y4 y5
    rw [f_X1_roundComes_L16]
    refine B_iload dX1_roundComes_16 rfl ?_
    refine B_aload_n dX1_roundComes_18 rfl rfl ?_
    refine B_getI dX1_roundComes_19 fl_X1_29 shC_3 rfl ?_
    refine C_icmp_ge (tgt := 67) dX1_roundComes_22 (by decide) (fun q6 => ?_) (fun q6 => ?_)
    · refine B_iinc (w := (y4 + 1)) (ls' := [.ref 3, .int y1, .int y2, .int y3, .int (y4 + 1), .int y5]) dX1_roundComes_67 rfl (congrArg (fun z => y4 + z) ic_1) (Nat.le_of_ble_eq_true rfl) rfl rfl ?_
      refine B_goto (tgt := 7) dX1_roundComes_70 (by decide) ?_
      refine B_drop 5 (ls' := [.ref 3, .int y1, .int y2, .int y3, .int (y4 + 1), .null]) rfl ?_
      exact hkL7 y1 y2 y3 (y4 + 1)  
    · refine B_aload_n dX1_roundComes_25 rfl rfl ?_
      refine B_iload dX1_roundComes_26 rfl ?_
      refine B_iconst dX1_roundComes_28 ic_2 ?_
      refine B_Vp (st := []) dX1_roundComes_29 cl_X1_36 (t_X1_toldOf 3 shC_3 y5 2 h) (Nat.le_of_ble_eq_true rfl) shC_3 rfl rfl (Nat.le_of_ble_eq_true rfl) (fun v2 _ => ?_)
      refine B_iload dX1_roundComes_32 rfl ?_
      refine C_icmp_ne (tgt := 61) dX1_roundComes_34 (by decide) (fun q5 => ?_) (fun q5 => ?_)
      · exact b_X1_roundComes_J61 h hkL7 (fun qy1 qy2 qy3 qy4 qy5 => ih qy1 qy2 qy3 qy4 qy5) y1 y2 y3 y4 y5
      · refine B_iload_n dX1_roundComes_37 rfl rfl ?_
        refine B_aload_n dX1_roundComes_38 rfl rfl ?_
        refine B_iload_n dX1_roundComes_39 rfl rfl ?_
        refine B_iload dX1_roundComes_40 rfl ?_
        refine B_Vp (st := [.int y2]) dX1_roundComes_42 cl_X1_50 (t_X1_apart 3 shC_3 y3 y5 h) (Nat.le_of_ble_eq_true rfl) shC_3 rfl rfl (Nat.le_of_ble_eq_true rfl) (fun v3 _ => ?_)
        refine B_iadd dX1_roundComes_45 ?_
        refine B_istore_n (ls' := [.ref 3, .int y1, .int (y2 + v3), .int y3, .int y4, .int y5]) dX1_roundComes_46 rfl (Nat.le_of_ble_eq_true rfl) rfl rfl ?_
        refine B_iload dX1_roundComes_47 rfl ?_
        refine B_iload_n dX1_roundComes_49 rfl rfl ?_
        refine C_icmp_ne (tgt := 55) dX1_roundComes_50 (by decide) (fun q4 => ?_) (fun q4 => ?_)
        · refine B_iinc (w := ((y2 + v3) + 2)) (ls' := [.ref 3, .int y1, .int ((y2 + v3) + 2), .int y3, .int y4, .int y5]) dX1_roundComes_55 rfl (congrArg (fun z => (y2 + v3) + z) ic_2) (Nat.le_of_ble_eq_true rfl) rfl rfl ?_
          refine B_iload dX1_roundComes_58 rfl ?_
          refine B_istore_n (ls' := [.ref 3, .int y1, .int ((y2 + v3) + 2), .int y5, .int y4, .int y5]) dX1_roundComes_60 rfl (Nat.le_of_ble_eq_true rfl) rfl rfl ?_
          exact b_X1_roundComes_J61 h hkL7 (fun qy1 qy2 qy3 qy4 qy5 => ih qy1 qy2 qy3 qy4 qy5) y1 ((y2 + v3) + 2) y5 y4 y5
        · refine B_iload_n dX1_roundComes_53 rfl rfl ?_
          exact B_ireturn dX1_roundComes_54 rfl rfl
def f_X1_roundComes_L7 (h : dH) : Nat → Int32 → Int32 → Int32 → Int32 → Option (Int32)
  | 0, _, _, _, _ => none
  | n + 1, y1, y2, y3, y4 =>
    if y4 < 4 then
    f_X1_roundComes_L16 (f_X1_roundComes_L7 h n) h dFu y1 y2 y3 y4 0
    else
    some (-1)
set_option maxRecDepth 20000 in
set_option maxHeartbeats 4000000 in
theorem b_X1_roundComes_L7 (h : dH) : ∀ (n : Nat) (y1 : Int32) (y2 : Int32) (y3 : Int32) (y4 : Int32), B XC 2 RX1 cX1_roundComes 6 (some .int) (fiP h) 7 [.ref 3, .int y1, .int y2, .int y3, .int y4, .null] [] h (f_X1_roundComes_L7 h n y1 y2 y3 y4) := by
  intro n
  induction n with
  | zero =>
    intro y1 y2 y3 y4
    exact B_none
  | succ n ih =>
    intro y1 y2 y3 y4
    rw [f_X1_roundComes_L7]
    refine B_iload dX1_roundComes_7 rfl ?_
    refine B_iconst dX1_roundComes_9 ic_4 ?_
    refine C_icmp_ge (tgt := 73) dX1_roundComes_10 (by decide) (fun q1 => ?_) (fun q1 => ?_)
    · refine B_iconst dX1_roundComes_73 ic_m1 ?_
      exact B_ireturn dX1_roundComes_74 rfl rfl
    · refine B_iconst dX1_roundComes_13 ic_0 ?_
      refine B_istore (ls' := [.ref 3, .int y1, .int y2, .int y3, .int y4, .int 0]) dX1_roundComes_14 (Nat.le_of_ble_eq_true rfl) rfl rfl ?_
      exact b_X1_roundComes_L16 h (fun qy1 qy2 qy3 qy4 => ih qy1 qy2 qy3 qy4) dFu y1 y2 y3 y4 0
def f_X1_roundComes (x1 : Int32) (h : dH) : Option (Int32) :=
  f_X1_roundComes_L7 h dFu x1 0 (-1) 0
set_option maxRecDepth 20000 in
set_option maxHeartbeats 4000000 in
theorem t_X1_roundComes (x1 : Int32) (h : dH) : T XC 2 yX1_roundComes cX1_roundComes 6 (some .int) (fiP h) [.ref 3, .int x1] h (f_X1_roundComes x1 h) := by
  refine T_of [.ref 3, .int x1, .null, .null, .null, .null] (by decide) (fun _ => rfl) (fun _ => Nat.le_of_ble_eq_true rfl) ?_
  show B XC 2 RX1 cX1_roundComes 6 (some .int) (fiP h) 0 [.ref 3, .int x1, .null, .null, .null, .null] [] h (f_X1_roundComes x1 h)
  unfold f_X1_roundComes
  refine B_iconst dX1_roundComes_0 ic_0 ?_
  refine B_istore_n (ls' := [.ref 3, .int x1, .int 0, .null, .null, .null]) dX1_roundComes_1 rfl (Nat.le_of_ble_eq_true rfl) rfl rfl ?_
  refine B_iconst dX1_roundComes_2 ic_m1 ?_
  refine B_istore_n (ls' := [.ref 3, .int x1, .int 0, .int (-1), .null, .null]) dX1_roundComes_3 rfl (Nat.le_of_ble_eq_true rfl) rfl rfl ?_
  refine B_iconst dX1_roundComes_4 ic_0 ?_
  refine B_istore (ls' := [.ref 3, .int x1, .int 0, .int (-1), .int 0, .null]) dX1_roundComes_5 (Nat.le_of_ble_eq_true rfl) rfl rfl ?_
  exact b_X1_roundComes_L7 h dFu x1 0 (-1) 0
def f_X9_sign_J38 (h : dH) : Option (Int32 × dH) :=
  if (h.1 1 2) < (h.1 1 1) then
  if dIn (h.1 1 2) 240 then
  some ((h.1 2 (dI (h.1 1 2))), h)
  else none
  else
  some ((-1), h)
set_option maxRecDepth 20000 in
set_option maxHeartbeats 4000000 in
theorem b_X9_sign_J38 (h : dH) : B XC 0 RX9 cX9_sign 1 (some .int) fiI 38 [.ref 1] [] h (f_X9_sign_J38 h) := by
  unfold f_X9_sign_J38
  refine B_aload_n dX9_sign_38 rfl rfl ?_
  refine B_getI dX9_sign_39 fl_X9_19 shC_1 rfl ?_
  refine B_aload_n dX9_sign_42 rfl rfl ?_
  refine B_getI dX9_sign_43 fl_X9_15 shC_1 rfl ?_
  refine C_icmp_ge (tgt := 61) dX9_sign_46 (by decide) (fun q6 => ?_) (fun q6 => ?_)
  · refine B_iconst dX9_sign_61 ic_m1 ?_
    exact B_ireturn dX9_sign_62 rfl rfl
  · refine B_aload_n dX9_sign_49 rfl rfl ?_
    refine B_getR dX9_sign_50 fl_X9_9 shC_1 rfl (rfC_1_0 _) ?_
    refine B_aload_n dX9_sign_53 rfl rfl ?_
    refine B_getI dX9_sign_54 fl_X9_19 shC_1 rfl ?_
    refine C_chk (fun q5 => ?_)
    refine L_iald dX9_sign_57 shC_2 q5 rfl ?_
    refine B_goto (tgt := 62) dX9_sign_58 (by decide) ?_
    exact B_ireturn dX9_sign_62 rfl rfl
def f_X9_sign_L0 : Nat → dH → Option (Int32 × dH)
  | 0, _ => none
  | n + 1, h =>
    if (h.1 1 2) < (h.1 1 1) then
    if dIn (h.1 1 2) 240 then
    if (h.1 2 (dI (h.1 1 2))) = 32 then
    (some (dPut h 1 2 ((h.1 1 2) + 1))).bind fun h8 =>
    (f_X9_sign_L0 n) h8
    else
    f_X9_sign_J38 h
    else none
    else
    f_X9_sign_J38 h
set_option maxRecDepth 20000 in
set_option maxHeartbeats 4000000 in
theorem b_X9_sign_L0 : ∀ (n : Nat) (h : dH), B XC 0 RX9 cX9_sign 1 (some .int) fiI 0 [.ref 1] [] h (f_X9_sign_L0 n h) := by
  intro n
  induction n with
  | zero =>
    intro h
    exact B_none
  | succ n ih =>
    intro h
    rw [f_X9_sign_L0]
    refine B_aload_n dX9_sign_0 rfl rfl ?_
    refine B_getI dX9_sign_1 fl_X9_19 shC_1 rfl ?_
    refine B_aload_n dX9_sign_4 rfl rfl ?_
    refine B_getI dX9_sign_5 fl_X9_15 shC_1 rfl ?_
    refine C_icmp_ge (tgt := 38) dX9_sign_8 (by decide) (fun q10 => ?_) (fun q10 => ?_)
    · exact b_X9_sign_J38 h
    · refine B_aload_n dX9_sign_11 rfl rfl ?_
      refine B_getR dX9_sign_12 fl_X9_9 shC_1 rfl (rfC_1_0 _) ?_
      refine B_aload_n dX9_sign_15 rfl rfl ?_
      refine B_getI dX9_sign_16 fl_X9_19 shC_1 rfl ?_
      refine C_chk (fun q7 => ?_)
      refine L_iald dX9_sign_19 shC_2 q7 rfl ?_
      refine B_bipush dX9_sign_20 bp_32 ?_
      refine C_icmp_ne (tgt := 38) dX9_sign_22 (by decide) (fun q9 => ?_) (fun q9 => ?_)
      · exact b_X9_sign_J38 h
      · refine B_aload_n dX9_sign_25 rfl rfl ?_
        refine B_dup dX9_sign_26 rfl ?_
        refine B_getI dX9_sign_27 fl_X9_19 shC_1 rfl ?_
        refine B_iconst dX9_sign_30 ic_1 ?_
        refine B_iadd dX9_sign_31 ?_
        refine B_putI dX9_sign_32 fl_X9_19 fw_X9_2 shC_1 rfl ?_
        refine B_lh (fun h8 => ?_)
        refine B_goto (tgt := 0) dX9_sign_35 (by decide) ?_
        exact ih   h8
def f_X9_sign (h : dH) : Option (Int32 × dH) :=
  if (h.1 1 2) < (h.1 1 1) then
  if dIn (h.1 1 2) 240 then
  if (h.1 2 (dI (h.1 1 2))) = 32 then
  (some (dPut h 1 2 ((h.1 1 2) + 1))).bind fun h2 =>
  f_X9_sign_L0 dFu h2
  else
  f_X9_sign_J38 h
  else none
  else
  f_X9_sign_J38 h
set_option maxRecDepth 20000 in
set_option maxHeartbeats 4000000 in
theorem t_X9_sign (h : dH) : T XC 0 yX9_sign cX9_sign 1 (some .int) fiI [.ref 1] h (f_X9_sign h) := by
  refine T_of [.ref 1] (by decide) (fun _ => rfl) (fun _ => Nat.le_of_ble_eq_true rfl) ?_
  show B XC 0 RX9 cX9_sign 1 (some .int) fiI 0 [.ref 1] [] h (f_X9_sign h)
  unfold f_X9_sign
  refine B_aload_n dX9_sign_0 rfl rfl ?_
  refine B_getI dX9_sign_1 fl_X9_19 shC_1 rfl ?_
  refine B_aload_n dX9_sign_4 rfl rfl ?_
  refine B_getI dX9_sign_5 fl_X9_15 shC_1 rfl ?_
  refine C_icmp_ge (tgt := 38) dX9_sign_8 (by decide) (fun q4 => ?_) (fun q4 => ?_)
  · exact b_X9_sign_J38 h
  · refine B_aload_n dX9_sign_11 rfl rfl ?_
    refine B_getR dX9_sign_12 fl_X9_9 shC_1 rfl (rfC_1_0 _) ?_
    refine B_aload_n dX9_sign_15 rfl rfl ?_
    refine B_getI dX9_sign_16 fl_X9_19 shC_1 rfl ?_
    refine C_chk (fun q1 => ?_)
    refine L_iald dX9_sign_19 shC_2 q1 rfl ?_
    refine B_bipush dX9_sign_20 bp_32 ?_
    refine C_icmp_ne (tgt := 38) dX9_sign_22 (by decide) (fun q3 => ?_) (fun q3 => ?_)
    · exact b_X9_sign_J38 h
    · refine B_aload_n dX9_sign_25 rfl rfl ?_
      refine B_dup dX9_sign_26 rfl ?_
      refine B_getI dX9_sign_27 fl_X9_19 shC_1 rfl ?_
      refine B_iconst dX9_sign_30 ic_1 ?_
      refine B_iadd dX9_sign_31 ?_
      refine B_putI dX9_sign_32 fl_X9_19 fw_X9_2 shC_1 rfl ?_
      refine B_lh (fun h2 => ?_)
      refine B_goto (tgt := 0) dX9_sign_35 (by decide) ?_
      exact b_X9_sign_L0 dFu h2
def f_X9_isDigit (x0 : Int32) (h : dH) : Bool :=
  if x0 < 48 then
  false
  else
  if 57 < x0 then
  false
  else
  true
set_option maxRecDepth 20000 in
set_option maxHeartbeats 4000000 in
theorem t_X9_isDigit (x0 : Int32) (h : dH) : T XC 0 yX9_isDigit cX9_isDigit 1 (some .boolean) (fiB h) [.int x0] h (some (f_X9_isDigit x0 h)) := by
  refine T_of [.int x0] (by decide) (fun _ => rfl) (fun _ => Nat.le_of_ble_eq_true rfl) ?_
  show B XC 0 RX9 cX9_isDigit 1 (some .boolean) (fiB h) 0 [.int x0] [] h (some (f_X9_isDigit x0 h))
  unfold f_X9_isDigit
  refine B_iload_n dX9_isDigit_0 rfl rfl ?_
  refine B_bipush dX9_isDigit_1 bp_48 ?_
  refine C_some ?_
  refine C_icmp_lt (tgt := 16) dX9_isDigit_3 (by decide) (fun q2 => ?_) (fun q2 => ?_)
  · refine B_iconst dX9_isDigit_16 ic_0 ?_
    exact B_zreturn dX9_isDigit_17 rfl rfl rfl
  · refine B_iload_n dX9_isDigit_6 rfl rfl ?_
    refine B_bipush dX9_isDigit_7 bp_57 ?_
    refine C_some ?_
    refine C_icmp_gt (tgt := 16) dX9_isDigit_9 (by decide) (fun q1 => ?_) (fun q1 => ?_)
    · refine B_iconst dX9_isDigit_16 ic_0 ?_
      exact B_zreturn dX9_isDigit_17 rfl rfl rfl
    · refine B_iconst dX9_isDigit_12 ic_1 ?_
      refine B_goto (tgt := 17) dX9_isDigit_13 (by decide) ?_
      exact B_zreturn dX9_isDigit_17 rfl rfl rfl
def f_X9_readNumber_J110 (h : dH) : Option (Bool × dH) :=
  some (false, (dPut h 1 2 ((h.1 1 2) - 1)))
set_option maxRecDepth 20000 in
set_option maxHeartbeats 4000000 in
theorem b_X9_readNumber_J110 (h : dH) : B XC 1 RX9 cX9_readNumber 5 (some .boolean) fiC 110 [.ref 1, .null, .null, .null, .null] [] h (f_X9_readNumber_J110 h) := by
  unfold f_X9_readNumber_J110
  refine B_aload_n dX9_readNumber_110 rfl rfl ?_
  refine B_dup dX9_readNumber_111 rfl ?_
  refine B_getI dX9_readNumber_112 fl_X9_19 shC_1 rfl ?_
  refine B_iconst dX9_readNumber_115 ic_1 ?_
  refine B_isub dX9_readNumber_116 ?_
  refine B_putI dX9_readNumber_117 fl_X9_19 fw_X9_2 shC_1 rfl ?_
  refine B_iconst dX9_readNumber_120 ic_0 ?_
  exact B_zreturn dX9_readNumber_121 rfl rfl rfl
def f_X9_readNumber_J87 (y2 : Int32) (y3 : Int32) (y4 : Int32) (h : dH) : Option (Bool × dH) :=
  if y4 = 0 then
  some (false, h)
  else
  if (h.1 1 3) < y2 then
  f_X9_readNumber_J110 h
  else
  if y3 < (h.1 1 3) then
  f_X9_readNumber_J110 h
  else
  some (true, h)
set_option maxRecDepth 20000 in
set_option maxHeartbeats 4000000 in
theorem b_X9_readNumber_J87 (y2 : Int32) (y3 : Int32) (y4 : Int32) (h : dH) : B XC 1 RX9 cX9_readNumber 5 (some .boolean) fiC 87 [.ref 1, .null, .int y2, .int y3, .int y4] [] h (f_X9_readNumber_J87 y2 y3 y4 h) := by
  unfold f_X9_readNumber_J87
  refine B_iload dX9_readNumber_87 rfl ?_
  refine C_if_ne (tgt := 94) dX9_readNumber_89 (by decide) (fun q13 => ?_) (fun q13 => ?_)
  · refine B_aload_n dX9_readNumber_94 rfl rfl ?_
    refine B_getI dX9_readNumber_95 fl_X9_26 shC_1 rfl ?_
    refine B_iload_n dX9_readNumber_98 rfl rfl ?_
    refine C_icmp_lt (tgt := 110) dX9_readNumber_99 (by decide) (fun q12 => ?_) (fun q12 => ?_)
    · refine B_drop 2 (ls' := [.ref 1, .null, .null, .int y3, .int y4]) rfl ?_
      refine B_drop 3 (ls' := [.ref 1, .null, .null, .null, .int y4]) rfl ?_
      refine B_drop 4 (ls' := [.ref 1, .null, .null, .null, .null]) rfl ?_
      exact b_X9_readNumber_J110 h
    · refine B_aload_n dX9_readNumber_102 rfl rfl ?_
      refine B_getI dX9_readNumber_103 fl_X9_26 shC_1 rfl ?_
      refine B_iload_n dX9_readNumber_106 rfl rfl ?_
      refine C_icmp_le (tgt := 122) dX9_readNumber_107 (by decide) (fun q11 => ?_) (fun q11 => ?_)
      · refine B_iconst dX9_readNumber_122 ic_1 ?_
        exact B_zreturn dX9_readNumber_123 rfl rfl rfl
      · refine B_drop 2 (ls' := [.ref 1, .null, .null, .int y3, .int y4]) rfl ?_
        refine B_drop 3 (ls' := [.ref 1, .null, .null, .null, .int y4]) rfl ?_
        refine B_drop 4 (ls' := [.ref 1, .null, .null, .null, .null]) rfl ?_
        exact b_X9_readNumber_J110 h
  · refine B_iconst dX9_readNumber_92 ic_0 ?_
    exact B_zreturn dX9_readNumber_93 rfl rfl rfl
def f_X9_readNumber_L13 : Nat → Int32 → Int32 → Int32 → Int32 → dH → Option (Bool × dH)
  | 0, _, _, _, _, _ => none
  | n + 1, y1, y2, y3, y4, h =>
    if (h.1 1 2) < (h.1 1 1) then
    if dIn (h.1 1 2) 240 then
    if (f_X9_isDigit (h.1 2 (dI (h.1 1 2))) h) then
    if y4 = y1 then
    some (false, h)
    else
    if dIn (h.1 1 2) 240 then
    (some (dPut h 1 3 ((((h.1 1 3) * 10) + (h.1 2 (dI (h.1 1 2)))) - 48))).bind fun h6 =>
    (some (dPut h6 1 2 ((h6.1 1 2) + 1))).bind fun h7 =>
    (f_X9_readNumber_L13 n) y1 y2 y3 (y4 + 1) h7
    else none
    else
    f_X9_readNumber_J87 y2 y3 y4 h
    else none
    else
    f_X9_readNumber_J87 y2 y3 y4 h
set_option maxRecDepth 20000 in
set_option maxHeartbeats 4000000 in
theorem b_X9_readNumber_L13 : ∀ (n : Nat) (y1 : Int32) (y2 : Int32) (y3 : Int32) (y4 : Int32) (h : dH), B XC 1 RX9 cX9_readNumber 5 (some .boolean) fiC 13 [.ref 1, .int y1, .int y2, .int y3, .int y4] [] h (f_X9_readNumber_L13 n y1 y2 y3 y4 h) := by
  intro n
  induction n with
  | zero =>
    intro y1 y2 y3 y4 h
    exact B_none
  | succ n ih =>
    intro y1 y2 y3 y4 h
    rw [f_X9_readNumber_L13]
    refine B_aload_n dX9_readNumber_13 rfl rfl ?_
    refine B_getI dX9_readNumber_14 fl_X9_19 shC_1 rfl ?_
    refine B_aload_n dX9_readNumber_17 rfl rfl ?_
    refine B_getI dX9_readNumber_18 fl_X9_15 shC_1 rfl ?_
    refine C_icmp_ge (tgt := 87) dX9_readNumber_21 (by decide) (fun q10 => ?_) (fun q10 => ?_)
    · refine B_drop 1 (ls' := [.ref 1, .null, .int y2, .int y3, .int y4]) rfl ?_
      exact b_X9_readNumber_J87 y2 y3 y4 h
    · refine B_aload_n dX9_readNumber_24 rfl rfl ?_
      refine B_getR dX9_readNumber_25 fl_X9_9 shC_1 rfl (rfC_1_0 _) ?_
      refine B_aload_n dX9_readNumber_28 rfl rfl ?_
      refine B_getI dX9_readNumber_29 fl_X9_19 shC_1 rfl ?_
      refine C_chk (fun q4 => ?_)
      refine L_iald dX9_readNumber_32 shC_2 q4 rfl ?_
      refine B_STb (st := []) dX9_readNumber_33 cl_X9_29 (t_X9_isDigit (h.1 2 (dI (h.1 1 2))) h) (Nat.le_of_ble_eq_true rfl) rfl rfl (Nat.le_of_ble_eq_true rfl) ?_
      refine C_ifb_eq (tgt := 87) dX9_readNumber_36 (by decide) (fun q9 => ?_) (fun q9 => ?_)
      · refine B_drop 1 (ls' := [.ref 1, .null, .int y2, .int y3, .int y4]) rfl ?_
        exact b_X9_readNumber_J87 y2 y3 y4 h
      · refine B_iload dX9_readNumber_39 rfl ?_
        refine B_iload_n dX9_readNumber_41 rfl rfl ?_
        refine C_icmp_ne (tgt := 47) dX9_readNumber_42 (by decide) (fun q8 => ?_) (fun q8 => ?_)
        · refine B_aload_n dX9_readNumber_47 rfl rfl ?_
          refine B_aload_n dX9_readNumber_48 rfl rfl ?_
          refine B_getI dX9_readNumber_49 fl_X9_26 shC_1 rfl ?_
          refine B_bipush dX9_readNumber_52 bp_10 ?_
          refine B_imul dX9_readNumber_54 ?_
          refine B_aload_n dX9_readNumber_55 rfl rfl ?_
          refine B_getR dX9_readNumber_56 fl_X9_9 shC_1 rfl (rfC_1_0 _) ?_
          refine B_aload_n dX9_readNumber_59 rfl rfl ?_
          refine B_getI dX9_readNumber_60 fl_X9_19 shC_1 rfl ?_
          refine C_chk (fun q5 => ?_)
          refine L_iald dX9_readNumber_63 shC_2 q5 rfl ?_
          refine B_iadd dX9_readNumber_64 ?_
          refine B_bipush dX9_readNumber_65 bp_48 ?_
          refine B_isub dX9_readNumber_67 ?_
          refine B_putI dX9_readNumber_68 fl_X9_26 fw_X9_3 shC_1 rfl ?_
          refine B_lh (fun h6 => ?_)
          refine B_iinc (w := (y4 + 1)) (ls' := [.ref 1, .int y1, .int y2, .int y3, .int (y4 + 1)]) dX9_readNumber_71 rfl (congrArg (fun z => y4 + z) ic_1) (Nat.le_of_ble_eq_true rfl) rfl rfl ?_
          refine B_aload_n dX9_readNumber_74 rfl rfl ?_
          refine B_dup dX9_readNumber_75 rfl ?_
          refine B_getI dX9_readNumber_76 fl_X9_19 shC_1 rfl ?_
          refine B_iconst dX9_readNumber_79 ic_1 ?_
          refine B_iadd dX9_readNumber_80 ?_
          refine B_putI dX9_readNumber_81 fl_X9_19 fw_X9_2 shC_1 rfl ?_
          refine B_lh (fun h7 => ?_)
          refine B_goto (tgt := 13) dX9_readNumber_84 (by decide) ?_
          exact ih y1 y2 y3 (y4 + 1)  h7
        · refine B_iconst dX9_readNumber_45 ic_0 ?_
          exact B_zreturn dX9_readNumber_46 rfl rfl rfl
def f_X9_readNumber (x1 : Int32) (x2 : Int32) (x3 : Int32) (h : dH) : Option (Bool × dH) :=
  (f_X9_sign h).bind fun rv1 =>
  (some (dPut rv1.2 1 3 0)).bind fun h3 =>
  f_X9_readNumber_L13 dFu x1 x2 x3 0 h3
set_option maxRecDepth 20000 in
set_option maxHeartbeats 4000000 in
theorem t_X9_readNumber (x1 : Int32) (x2 : Int32) (x3 : Int32) (h : dH) : T XC 1 yX9_readNumber cX9_readNumber 5 (some .boolean) fiC [.ref 1, .int x1, .int x2, .int x3] h (f_X9_readNumber x1 x2 x3 h) := by
  refine T_of [.ref 1, .int x1, .int x2, .int x3, .null] (by decide) (fun _ => rfl) (fun _ => Nat.le_of_ble_eq_true rfl) ?_
  show B XC 1 RX9 cX9_readNumber 5 (some .boolean) fiC 0 [.ref 1, .int x1, .int x2, .int x3, .null] [] h (f_X9_readNumber x1 x2 x3 h)
  unfold f_X9_readNumber
  refine B_aload_n dX9_readNumber_0 rfl rfl ?_
  refine B_VI (st := []) dX9_readNumber_1 cl_X9_22 (t_X9_sign h) (Nat.le_of_ble_eq_true rfl) shC_1 rfl rfl (Nat.le_of_ble_eq_true rfl) (fun v1 h2 _ => ?_)
  refine B_pop dX9_readNumber_4 rfl ?_
  refine B_iconst dX9_readNumber_5 ic_0 ?_
  refine B_istore (ls' := [.ref 1, .int x1, .int x2, .int x3, .int 0]) dX9_readNumber_6 (Nat.le_of_ble_eq_true rfl) rfl rfl ?_
  refine B_aload_n dX9_readNumber_8 rfl rfl ?_
  refine B_iconst dX9_readNumber_9 ic_0 ?_
  refine B_putI dX9_readNumber_10 fl_X9_26 fw_X9_3 shC_1 rfl ?_
  refine B_lh (fun h3 => ?_)
  exact b_X9_readNumber_L13 dFu x1 x2 x3 0 h3
def f_X11_isIn (x0 : Int32) (x1 : Int32) (h : dH) : Bool :=
  if ((x0 >>> (x1 &&& 31)) &&& 1) = 0 then
  false
  else
  true
set_option maxRecDepth 20000 in
set_option maxHeartbeats 4000000 in
theorem t_X11_isIn (x0 : Int32) (x1 : Int32) (h : dH) : T XC 0 yX11_isIn cX11_isIn 2 (some .boolean) (fiB h) [.int x0, .int x1] h (some (f_X11_isIn x0 x1 h)) := by
  refine T_of [.int x0, .int x1] (by decide) (fun _ => rfl) (fun _ => Nat.le_of_ble_eq_true rfl) ?_
  show B XC 0 RX11 cX11_isIn 2 (some .boolean) (fiB h) 0 [.int x0, .int x1] [] h (some (f_X11_isIn x0 x1 h))
  unfold f_X11_isIn
  refine B_iload_n dX11_isIn_0 rfl rfl ?_
  refine B_iload_n dX11_isIn_1 rfl rfl ?_
  refine B_ishr dX11_isIn_2 ?_
  refine B_iconst dX11_isIn_3 ic_1 ?_
  refine B_iand dX11_isIn_4 ?_
  refine C_some ?_
  refine C_if_eq (tgt := 12) dX11_isIn_5 (by decide) (fun q1 => ?_) (fun q1 => ?_)
  · refine B_iconst dX11_isIn_12 ic_0 ?_
    exact B_zreturn dX11_isIn_13 rfl rfl rfl
  · refine B_iconst dX11_isIn_8 ic_1 ?_
    refine B_goto (tgt := 13) dX11_isIn_9 (by decide) ?_
    exact B_zreturn dX11_isIn_13 rfl rfl rfl
def f_X2_readItems_L6 (ks : Nat) (lo : Nat) (hi : Nat) (into : Nat) (nn : Nat) : Nat → Int32 → Int32 → dH → Option (Bool × dH)
  | 0, _, _, _ => none
  | n + 1, y5, y6, h =>
    if y6 < (sln ks) then
    (f_X9_sign h).bind fun rv1 =>
    (some ((f_X11_placeIn ks rv1.1))).bind fun v3 =>
    if v3 < 0 then
    some (true, rv1.2)
    else
    if v3 < (Int32.ofNat nn) then
    if (f_X11_isIn y5 v3 rv1.2) then
    some (true, rv1.2)
    else
    (some ((y5 ||| (1 <<< (v3 &&& 31))))).bind fun v4 =>
    (some (dPut rv1.2 1 2 ((rv1.2.1 1 2) + 1))).bind fun h5 =>
    if dIn v3 (zln lo) then
    if dIn v3 (zln hi) then
    (f_X9_readNumber 2 (h5.1 (1000 + lo) (dI v3)) (h5.1 (1000 + hi) (dI v3)) h5).bind fun rv8 =>
    if rv8.1 then
    if dIn v3 nn then
    (some (dPut rv8.2 into (dI v3) (rv8.2.1 1 3))).bind fun h11 =>
    (f_X2_readItems_L6 ks lo hi into nn n) v4 (y6 + 1) h11
    else none
    else
    some (false, rv8.2)
    else none
    else none
    else
    some (true, rv1.2)
    else
    some (true, h)
set_option maxRecDepth 20000 in
set_option maxHeartbeats 4000000 in
theorem b_X2_readItems_L6 {ks : Nat} {lo : Nat} {hi : Nat} {into : Nat} {nn : Nat} (hks : ks < 9) (hlo : lo < 6) (hhi : hi < 6) (hinto : XC.1[into]? = some (.inr (0, nn))) : ∀ (n : Nat) (y5 : Int32) (y6 : Int32) (h : dH), B XC 8 RX2 cX2_readItems 8 (some .boolean) fiC 6 [.ref 41, .ref (2000 + ks), .ref (1000 + lo), .ref (1000 + hi), .ref into, .int y5, .int y6, .null] [] h (f_X2_readItems_L6 ks lo hi into nn n y5 y6 h) := by
  intro n
  induction n with
  | zero =>
    intro y5 y6 h
    exact B_none
  | succ n ih =>
    intro y5 y6 h
    rw [f_X2_readItems_L6]
    refine B_iload dX2_readItems_6 rfl ?_
    refine B_aload_n dX2_readItems_8 rfl rfl ?_
    refine B_slen dX2_readItems_9 cl_X2_95 (Nat.le_of_ble_eq_true rfl) hks (Nat.le_of_ble_eq_true rfl) ?_
    refine C_icmp_ge (tgt := 114) dX2_readItems_12 (by decide) (fun q16 => ?_) (fun q16 => ?_)
    · refine B_iconst dX2_readItems_114 ic_1 ?_
      exact B_zreturn dX2_readItems_115 rfl rfl rfl
    · refine B_aload_n dX2_readItems_15 rfl rfl ?_
      refine B_aload_n dX2_readItems_16 rfl rfl ?_
      refine B_getR dX2_readItems_17 fl_X2_9 shC_41 rfl (rfC_41_0 _) ?_
      refine B_VI (st := [.ref (2000 + ks)]) dX2_readItems_20 cl_X2_51 (t_X9_sign h) (Nat.le_of_ble_eq_true rfl) shC_1 rfl rfl (Nat.le_of_ble_eq_true rfl) (fun v1 h2 _ => ?_)
      refine B_Nt (st := []) dX2_readItems_23 cl_X2_99 (t_X11_placeIn ks hks v1 h2) (Nat.le_of_ble_eq_true rfl) rfl rfl (Nat.le_of_ble_eq_true rfl) ?_
      refine B_lv (fun v3 => ?_)
      refine B_istore (ls' := [.ref 41, .ref (2000 + ks), .ref (1000 + lo), .ref (1000 + hi), .ref into, .int y5, .int y6, .int v3]) dX2_readItems_26 (Nat.le_of_ble_eq_true rfl) rfl rfl ?_
      refine B_iload dX2_readItems_28 rfl ?_
      refine C_if_lt (tgt := 51) dX2_readItems_30 (by decide) (fun q15 => ?_) (fun q15 => ?_)
      · refine B_iconst dX2_readItems_51 ic_1 ?_
        exact B_zreturn dX2_readItems_52 rfl rfl rfl
      · refine B_iload dX2_readItems_33 rfl ?_
        refine B_aload dX2_readItems_35 rfl ?_
        refine B_alen dX2_readItems_37 hinto rfl ?_
        refine C_icmp_ge (tgt := 51) dX2_readItems_38 (by decide) (fun q14 => ?_) (fun q14 => ?_)
        · refine B_iconst dX2_readItems_51 ic_1 ?_
          exact B_zreturn dX2_readItems_52 rfl rfl rfl
        · refine B_iload dX2_readItems_41 rfl ?_
          refine B_iload dX2_readItems_43 rfl ?_
          refine B_NTb (st := []) dX2_readItems_45 cl_X2_103 (t_X11_isIn y5 v3 h2) (Nat.le_of_ble_eq_true rfl) rfl rfl (Nat.le_of_ble_eq_true rfl) ?_
          refine C_ifb_eq (tgt := 53) dX2_readItems_48 (by decide) (fun q13 => ?_) (fun q13 => ?_)
          · refine B_iload dX2_readItems_53 rfl ?_
            refine B_iconst dX2_readItems_55 ic_1 ?_
            refine B_iload dX2_readItems_56 rfl ?_
            refine B_ishl dX2_readItems_58 ?_
            refine B_ior dX2_readItems_59 ?_
            refine B_lv (fun v4 => ?_)
            refine B_istore (ls' := [.ref 41, .ref (2000 + ks), .ref (1000 + lo), .ref (1000 + hi), .ref into, .int v4, .int y6, .int v3]) dX2_readItems_60 (Nat.le_of_ble_eq_true rfl) rfl rfl ?_
            refine B_aload_n dX2_readItems_62 rfl rfl ?_
            refine B_getR dX2_readItems_63 fl_X2_9 shC_41 rfl (rfC_41_0 _) ?_
            refine B_dup dX2_readItems_66 rfl ?_
            refine B_getI dX2_readItems_67 fl_X2_19 shC_1 rfl ?_
            refine B_iconst dX2_readItems_70 ic_1 ?_
            refine B_iadd dX2_readItems_71 ?_
            refine B_putI dX2_readItems_72 fl_X2_19 fw_X9_2 shC_1 rfl ?_
            refine B_lh (fun h5 => ?_)
            refine B_aload_n dX2_readItems_75 rfl rfl ?_
            refine B_getR dX2_readItems_76 fl_X2_9 shC_41 rfl (rfC_41_0 _) ?_
            refine B_iconst dX2_readItems_79 ic_2 ?_
            refine B_aload_n dX2_readItems_80 rfl rfl ?_
            refine B_iload dX2_readItems_81 rfl ?_
            refine C_chk (fun q6 => ?_)
            refine L_ialdE dX2_readItems_83 hlo q6 ?_
            refine B_aload_n dX2_readItems_84 rfl rfl ?_
            refine B_iload dX2_readItems_85 rfl ?_
            refine C_chk (fun q7 => ?_)
            refine L_ialdE dX2_readItems_87 hhi q7 ?_
            refine B_VC (st := []) dX2_readItems_88 cl_X2_107 (t_X9_readNumber 2 (h5.1 (1000 + lo) (dI v3)) (h5.1 (1000 + hi) (dI v3)) h5) (Nat.le_of_ble_eq_true rfl) shC_1 rfl rfl (Nat.le_of_ble_eq_true rfl) (fun v8 h9 _ => ?_)
            refine C_ifb_ne (tgt := 96) dX2_readItems_91 (by decide) (fun q12 => ?_) (fun q12 => ?_)
            · refine B_aload dX2_readItems_96 rfl ?_
              refine B_iload dX2_readItems_98 rfl ?_
              refine B_aload_n dX2_readItems_100 rfl rfl ?_
              refine B_getR dX2_readItems_101 fl_X2_9 shC_41 rfl (rfC_41_0 _) ?_
              refine B_getI dX2_readItems_104 fl_X2_111 shC_1 rfl ?_
              refine C_chk (fun q10 => ?_)
              refine L_iast dX2_readItems_107 hinto q10 rfl ?_
              refine B_lh (fun h11 => ?_)
              refine B_iinc (w := (y6 + 1)) (ls' := [.ref 41, .ref (2000 + ks), .ref (1000 + lo), .ref (1000 + hi), .ref into, .int v4, .int (y6 + 1), .int v3]) dX2_readItems_108 rfl (congrArg (fun z => y6 + z) ic_1) (Nat.le_of_ble_eq_true rfl) rfl rfl ?_
              refine B_goto (tgt := 6) dX2_readItems_111 (by decide) ?_
              refine B_drop 7 (ls' := [.ref 41, .ref (2000 + ks), .ref (1000 + lo), .ref (1000 + hi), .ref into, .int v4, .int (y6 + 1), .null]) rfl ?_
              exact ih v4 (y6 + 1)  h11
            · refine B_iconst dX2_readItems_94 ic_0 ?_
              exact B_zreturn dX2_readItems_95 rfl rfl rfl
          · refine B_iconst dX2_readItems_51 ic_1 ?_
            exact B_zreturn dX2_readItems_52 rfl rfl rfl
def f_X2_readItems (ks : Nat) (lo : Nat) (hi : Nat) (into nn : Nat) (h : dH) : Option (Bool × dH) :=
  f_X2_readItems_L6 ks lo hi into nn dFu 0 0 h
set_option maxRecDepth 20000 in
set_option maxHeartbeats 4000000 in
theorem t_X2_readItems (ks : Nat) (hks : ks < 9) (lo : Nat) (hlo : lo < 6) (hi : Nat) (hhi : hi < 6) (into nn : Nat) (hinto : XC.1[into]? = some (.inr (0, nn))) (h : dH) : T XC 8 yX2_readItems cX2_readItems 8 (some .boolean) fiC [.ref 41, .ref (2000 + ks), .ref (1000 + lo), .ref (1000 + hi), .ref into] h (f_X2_readItems ks lo hi into nn h) := by
  refine T_of [.ref 41, .ref (2000 + ks), .ref (1000 + lo), .ref (1000 + hi), .ref into, .null, .null, .null] (by decide) (fun _ => rfl) (fun _ => Nat.le_of_ble_eq_true rfl) ?_
  show B XC 8 RX2 cX2_readItems 8 (some .boolean) fiC 0 [.ref 41, .ref (2000 + ks), .ref (1000 + lo), .ref (1000 + hi), .ref into, .null, .null, .null] [] h (f_X2_readItems ks lo hi into nn h)
  unfold f_X2_readItems
  refine B_iconst dX2_readItems_0 ic_0 ?_
  refine B_istore (ls' := [.ref 41, .ref (2000 + ks), .ref (1000 + lo), .ref (1000 + hi), .ref into, .int 0, .null, .null]) dX2_readItems_1 (Nat.le_of_ble_eq_true rfl) rfl rfl ?_
  refine B_iconst dX2_readItems_3 ic_0 ?_
  refine B_istore (ls' := [.ref 41, .ref (2000 + ks), .ref (1000 + lo), .ref (1000 + hi), .ref into, .int 0, .int 0, .null]) dX2_readItems_4 (Nat.le_of_ble_eq_true rfl) rfl rfl ?_
  exact b_X2_readItems_L6 hks hlo hhi hinto dFu 0 0 h
def f_X2_readClause_J59 (y1 : Int32) (h : dH) : Option (Bool × dH) :=
  if y1 = 112 then
  if (h.1 22 2) < 7 then
  if dIn (h.1 22 2) 7 then
  (some (dPut h 22 2 ((h.1 22 2) + 1))).bind fun h10 =>
  (some (dPut h10 1 2 ((h10.1 1 2) + 1))).bind fun h11 =>
  if dCk 0 0 (Int32.ofNat (zln 5)) (zln 5) 5 then
  (some (dCpy h11 (1000 + 5) (25 + dI (h.1 22 2)) (dI 0) (dI 0) (dI (Int32.ofNat (zln 5))))).bind fun h13 =>
  (f_X2_readItems 1 3 4 (25 + dI (h.1 22 2)) 5 h13).bind fun rv14 =>
  some (rv14.1, rv14.2)
  else none
  else none
  else
  some (false, h)
  else
  some (false, h)
set_option maxRecDepth 20000 in
set_option maxHeartbeats 4000000 in
theorem b_X2_readClause_J59 (y1 : Int32) (h : dH) : B XC 9 RX2 cX2_readClause 3 (some .boolean) fiC 59 [.ref 41, .int y1, .null] [] h (f_X2_readClause_J59 y1 h) := by
  unfold f_X2_readClause_J59
  refine B_iload_n dX2_readClause_59 rfl rfl ?_
  refine B_bipush dX2_readClause_60 bp_112 ?_
  refine C_icmp_ne (tgt := 146) dX2_readClause_62 (by decide) (fun q17 => ?_) (fun q17 => ?_)
  · refine B_iconst dX2_readClause_146 ic_0 ?_
    exact B_zreturn dX2_readClause_147 rfl rfl rfl
  · refine B_aload_n dX2_readClause_65 rfl rfl ?_
    refine B_getR dX2_readClause_66 fl_X2_15 shC_41 rfl (rfC_41_1 _) ?_
    refine B_getI dX2_readClause_69 fl_X2_29 shC_22 rfl ?_
    refine B_bipush dX2_readClause_72 bp_7 ?_
    refine C_icmp_ge (tgt := 146) dX2_readClause_74 (by decide) (fun q16 => ?_) (fun q16 => ?_)
    · refine B_iconst dX2_readClause_146 ic_0 ?_
      exact B_zreturn dX2_readClause_147 rfl rfl rfl
    · refine B_aload_n dX2_readClause_77 rfl rfl ?_
      refine B_getR dX2_readClause_78 fl_X2_15 shC_41 rfl (rfC_41_1 _) ?_
      refine B_getR dX2_readClause_81 fl_X2_80 shC_22 rfl (rfC_22_1 _) ?_
      refine B_aload_n dX2_readClause_84 rfl rfl ?_
      refine B_getR dX2_readClause_85 fl_X2_15 shC_41 rfl (rfC_41_1 _) ?_
      refine B_getI dX2_readClause_88 fl_X2_29 shC_22 rfl ?_
      refine C_chk (fun q9 => ?_)
      refine B_aald dX2_readClause_91 shC_24 q9 (rrC_24 _ q9) ?_
      refine B_astore_n (ls' := [.ref 41, .int y1, .ref (25 + dI (h.1 22 2))]) dX2_readClause_92 rfl (Nat.le_of_ble_eq_true rfl) rfl rfl ?_
      refine B_aload_n dX2_readClause_93 rfl rfl ?_
      refine B_getR dX2_readClause_94 fl_X2_15 shC_41 rfl (rfC_41_1 _) ?_
      refine B_dup dX2_readClause_97 rfl ?_
      refine B_getI dX2_readClause_98 fl_X2_29 shC_22 rfl ?_
      refine B_iconst dX2_readClause_101 ic_1 ?_
      refine B_iadd dX2_readClause_102 ?_
      refine B_putI dX2_readClause_103 fl_X2_29 fw_X1_2 shC_22 rfl ?_
      refine B_lh (fun h10 => ?_)
      refine B_aload_n dX2_readClause_106 rfl rfl ?_
      refine B_getR dX2_readClause_107 fl_X2_9 shC_41 rfl (rfC_41_0 _) ?_
      refine B_dup dX2_readClause_110 rfl ?_
      refine B_getI dX2_readClause_111 fl_X2_19 shC_1 rfl ?_
      refine B_iconst dX2_readClause_114 ic_1 ?_
      refine B_iadd dX2_readClause_115 ?_
      refine B_putI dX2_readClause_116 fl_X2_19 fw_X9_2 shC_1 rfl ?_
      refine B_lh (fun h11 => ?_)
      refine B_gets (j := 5) dX2_readClause_119 rfl zl_X2_84 ?_
      refine B_iconst dX2_readClause_122 ic_0 ?_
      refine B_aload_n dX2_readClause_123 rfl rfl ?_
      refine B_iconst dX2_readClause_124 ic_0 ?_
      refine B_gets (j := 5) dX2_readClause_125 rfl zl_X2_84 ?_
      refine L_alenE dX2_readClause_128 (by decide) ?_
      refine C_chk (fun q12 => ?_)
      refine L_copyE dX2_readClause_129 cp_X2_41 (Nat.le_of_ble_eq_true rfl) (Nat.le_of_ble_eq_true rfl) (by decide) (rowC_24 q9) q12 ?_
      refine B_lh (fun h13 => ?_)
      refine B_aload_n dX2_readClause_132 rfl rfl ?_
      refine B_ldcS (j := 1) dX2_readClause_133 rfl rfl rfl ?_
      refine B_gets (j := 3) dX2_readClause_135 rfl zl_X2_89 ?_
      refine B_gets (j := 4) dX2_readClause_138 rfl zl_X2_92 ?_
      refine B_aload_n dX2_readClause_141 rfl rfl ?_
      refine B_VC (st := []) dX2_readClause_142 cl_X2_76 (t_X2_readItems 1 (by decide) 3 (by decide) 4 (by decide) (25 + dI (h.1 22 2)) 5 (rowC_24 q9) h13) (Nat.le_of_ble_eq_true rfl) shC_41 rfl rfl (Nat.le_of_ble_eq_true rfl) (fun v14 h15 _ => ?_)
      exact B_zreturn dX2_readClause_145 rfl (nar_bi v14) rfl
def f_X2_readClause (h : dH) : Option (Bool × dH) :=
  (f_X9_sign h).bind fun rv1 =>
  if rv1.1 = 115 then
  if (rv1.2.1 41 2) = 0 then
  (some (dPut rv1.2 41 2 1)).bind fun h3 =>
  (some (dPut h3 1 2 ((h3.1 1 2) + 1))).bind fun h4 =>
  (f_X2_readItems 0 0 1 23 3 h4).bind fun rv5 =>
  some (rv5.1, rv5.2)
  else
  f_X2_readClause_J59 rv1.1 rv1.2
  else
  f_X2_readClause_J59 rv1.1 rv1.2
set_option maxRecDepth 20000 in
set_option maxHeartbeats 4000000 in
theorem t_X2_readClause (h : dH) : T XC 9 yX2_readClause cX2_readClause 3 (some .boolean) fiC [.ref 41] h (f_X2_readClause h) := by
  refine T_of [.ref 41, .null, .null] (by decide) (fun _ => rfl) (fun _ => Nat.le_of_ble_eq_true rfl) ?_
  show B XC 9 RX2 cX2_readClause 3 (some .boolean) fiC 0 [.ref 41, .null, .null] [] h (f_X2_readClause h)
  unfold f_X2_readClause
  refine B_aload_n dX2_readClause_0 rfl rfl ?_
  refine B_getR dX2_readClause_1 fl_X2_9 shC_41 rfl (rfC_41_0 _) ?_
  refine B_VI (st := []) dX2_readClause_4 cl_X2_51 (t_X9_sign h) (Nat.le_of_ble_eq_true rfl) shC_1 rfl rfl (Nat.le_of_ble_eq_true rfl) (fun v1 h2 _ => ?_)
  refine B_istore_n (ls' := [.ref 41, .int v1, .null]) dX2_readClause_7 rfl (Nat.le_of_ble_eq_true rfl) rfl rfl ?_
  refine B_iload_n dX2_readClause_8 rfl rfl ?_
  refine B_bipush dX2_readClause_9 bp_115 ?_
  refine C_icmp_ne (tgt := 59) dX2_readClause_11 (by decide) (fun q8 => ?_) (fun q8 => ?_)
  · exact b_X2_readClause_J59 v1 h2
  · refine B_aload_n dX2_readClause_14 rfl rfl ?_
    refine B_getZ dX2_readClause_15 fl_X2_25 shC_41 rfl ?_
    refine C_if_ne (tgt := 59) dX2_readClause_18 (by decide) (fun q7 => ?_) (fun q7 => ?_)
    · exact b_X2_readClause_J59 v1 h2
    · refine B_aload_n dX2_readClause_21 rfl rfl ?_
      refine B_iconst dX2_readClause_22 ic_1 ?_
      refine B_putZ dX2_readClause_23 fl_X2_25 fw_X2_2 shC_41 rfl (Or.inr rfl) ?_
      refine B_lh (fun h3 => ?_)
      refine B_aload_n dX2_readClause_26 rfl rfl ?_
      refine B_getR dX2_readClause_27 fl_X2_9 shC_41 rfl (rfC_41_0 _) ?_
      refine B_dup dX2_readClause_30 rfl ?_
      refine B_getI dX2_readClause_31 fl_X2_19 shC_1 rfl ?_
      refine B_iconst dX2_readClause_34 ic_1 ?_
      refine B_iadd dX2_readClause_35 ?_
      refine B_putI dX2_readClause_36 fl_X2_19 fw_X9_2 shC_1 rfl ?_
      refine B_lh (fun h4 => ?_)
      refine B_aload_n dX2_readClause_39 rfl rfl ?_
      refine B_ldcS (j := 0) dX2_readClause_40 rfl rfl rfl ?_
      refine B_gets (j := 0) dX2_readClause_42 rfl zl_X2_70 ?_
      refine B_gets (j := 1) dX2_readClause_45 rfl zl_X2_73 ?_
      refine B_aload_n dX2_readClause_48 rfl rfl ?_
      refine B_getR dX2_readClause_49 fl_X2_15 shC_41 rfl (rfC_41_1 _) ?_
      refine B_getR dX2_readClause_52 fl_X2_38 shC_22 rfl (rfC_22_0 _) ?_
      refine B_VC (st := []) dX2_readClause_55 cl_X2_76 (t_X2_readItems 0 (by decide) 0 (by decide) 1 (by decide) 23 3 shC_23 h4) (Nat.le_of_ble_eq_true rfl) shC_41 rfl rfl (Nat.le_of_ble_eq_true rfl) (fun v5 h6 _ => ?_)
      exact B_zreturn dX2_readClause_58 rfl (nar_bi v5) rfl
def f_X9_take (x1 : Int32) (h : dH) : Option (Bool × dH) :=
  (f_X9_sign h).bind fun rv1 =>
  if rv1.1 = x1 then
  some (true, (dPut rv1.2 1 2 ((rv1.2.1 1 2) + 1)))
  else
  some (false, rv1.2)
set_option maxRecDepth 20000 in
set_option maxHeartbeats 4000000 in
theorem t_X9_take (x1 : Int32) (h : dH) : T XC 1 yX9_take cX9_take 2 (some .boolean) fiC [.ref 1, .int x1] h (f_X9_take x1 h) := by
  refine T_of [.ref 1, .int x1] (by decide) (fun _ => rfl) (fun _ => Nat.le_of_ble_eq_true rfl) ?_
  show B XC 1 RX9 cX9_take 2 (some .boolean) fiC 0 [.ref 1, .int x1] [] h (f_X9_take x1 h)
  unfold f_X9_take
  refine B_aload_n dX9_take_0 rfl rfl ?_
  refine B_VI (st := []) dX9_take_1 cl_X9_22 (t_X9_sign h) (Nat.le_of_ble_eq_true rfl) shC_1 rfl rfl (Nat.le_of_ble_eq_true rfl) (fun v1 h2 _ => ?_)
  refine B_iload_n dX9_take_4 rfl rfl ?_
  refine C_icmp_eq (tgt := 10) dX9_take_5 (by decide) (fun q3 => ?_) (fun q3 => ?_)
  · refine B_aload_n dX9_take_10 rfl rfl ?_
    refine B_dup dX9_take_11 rfl ?_
    refine B_getI dX9_take_12 fl_X9_19 shC_1 rfl ?_
    refine B_iconst dX9_take_15 ic_1 ?_
    refine B_iadd dX9_take_16 ?_
    refine B_putI dX9_take_17 fl_X9_19 fw_X9_2 shC_1 rfl ?_
    refine B_iconst dX9_take_20 ic_1 ?_
    exact B_zreturn dX9_take_21 rfl rfl rfl
  · refine B_iconst dX9_take_8 ic_0 ?_
    exact B_zreturn dX9_take_9 rfl rfl rfl
def f_X2_findFault_L42 : Nat → Int32 → dH → Option (Int32 × dH)
  | 0, _, _ => none
  | n + 1, y1, h =>
    if 8 < y1 then
    some ((h.1 1 2), h)
    else
    (f_X2_readClause h).bind fun rv6 =>
    if rv6.1 then
    (f_X9_sign rv6.2).bind fun rv8 =>
    if rv8.1 = (-1) then
    (f_X1_measure 22 rv8.2).bind fun h14 =>
    if (h14.1 22 2) < 2 then
    some ((h14.1 1 1), h14)
    else
    (f_X1_hasTwoInOne 22 h14).bind fun v15 =>
    if v15 then
    some ((h14.1 1 1), h14)
    else
    some ((-1), h14)
    else
    (f_X9_take 59 rv8.2).bind fun rv10 =>
    if rv10.1 then
    (f_X2_findFault_L42 n) (y1 + 1) rv10.2
    else
    some ((rv10.2.1 1 2), rv10.2)
    else
    some ((rv6.2.1 1 2), rv6.2)
set_option maxRecDepth 20000 in
set_option maxHeartbeats 4000000 in
theorem b_X2_findFault_L42 : ∀ (n : Nat) (y1 : Int32) (h : dH), B XC 10 RX2 cX2_findFault 2 (some .int) fiI 42 [.ref 41, .int y1] [] h (f_X2_findFault_L42 n y1 h) := by
  intro n
  induction n with
  | zero =>
    intro y1 h
    exact B_none
  | succ n ih =>
    intro y1 h
    rw [f_X2_findFault_L42]
    refine B_iload_n dX2_findFault_42 rfl rfl ?_
    refine B_bipush dX2_findFault_43 bp_8 ?_
    refine C_icmp_gt (tgt := 140) dX2_findFault_45 (by decide) (fun q20 => ?_) (fun q20 => ?_)
    · refine B_aload_n dX2_findFault_140 rfl rfl ?_
      refine B_getR dX2_findFault_141 fl_X2_9 shC_41 rfl (rfC_41_0 _) ?_
      refine B_getI dX2_findFault_144 fl_X2_19 shC_1 rfl ?_
      exact B_ireturn dX2_findFault_147 rfl rfl
    · refine B_aload_n dX2_findFault_48 rfl rfl ?_
      refine B_VC (st := []) dX2_findFault_49 cl_X2_47 (t_X2_readClause h) (Nat.le_of_ble_eq_true rfl) shC_41 rfl rfl (Nat.le_of_ble_eq_true rfl) (fun v6 h7 _ => ?_)
      refine C_ifb_ne (tgt := 63) dX2_findFault_52 (by decide) (fun q19 => ?_) (fun q19 => ?_)
      · refine B_aload_n dX2_findFault_63 rfl rfl ?_
        refine B_getR dX2_findFault_64 fl_X2_9 shC_41 rfl (rfC_41_0 _) ?_
        refine B_VI (st := []) dX2_findFault_67 cl_X2_51 (t_X9_sign h7) (Nat.le_of_ble_eq_true rfl) shC_1 rfl rfl (Nat.le_of_ble_eq_true rfl) (fun v8 h9 _ => ?_)
        refine B_iconst dX2_findFault_70 ic_m1 ?_
        refine C_icmp_ne (tgt := 114) dX2_findFault_71 (by decide) (fun q18 => ?_) (fun q18 => ?_)
        · refine B_aload_n dX2_findFault_114 rfl rfl ?_
          refine B_getR dX2_findFault_115 fl_X2_9 shC_41 rfl (rfC_41_0 _) ?_
          refine B_bipush dX2_findFault_118 bp_59 ?_
          refine B_VC (st := []) dX2_findFault_120 cl_X2_64 (t_X9_take 59 h9) (Nat.le_of_ble_eq_true rfl) shC_1 rfl rfl (Nat.le_of_ble_eq_true rfl) (fun v10 h11 _ => ?_)
          refine C_ifb_ne (tgt := 134) dX2_findFault_123 (by decide) (fun q12 => ?_) (fun q12 => ?_)
          · refine B_iinc (w := (y1 + 1)) (ls' := [.ref 41, .int (y1 + 1)]) dX2_findFault_134 rfl (congrArg (fun z => y1 + z) ic_1) (Nat.le_of_ble_eq_true rfl) rfl rfl ?_
            refine B_goto (tgt := 42) dX2_findFault_137 (by decide) ?_
            exact ih (y1 + 1)  h11
          · refine B_aload_n dX2_findFault_126 rfl rfl ?_
            refine B_getR dX2_findFault_127 fl_X2_9 shC_41 rfl (rfC_41_0 _) ?_
            refine B_getI dX2_findFault_130 fl_X2_19 shC_1 rfl ?_
            exact B_ireturn dX2_findFault_133 rfl rfl
        · refine B_aload_n dX2_findFault_74 rfl rfl ?_
          refine B_getR dX2_findFault_75 fl_X2_15 shC_41 rfl (rfC_41_1 _) ?_
          refine B_VV (st := []) dX2_findFault_78 cl_X2_55 (t_X1_measure 22 shC_22 h9) (Nat.le_of_ble_eq_true rfl) shC_22 rfl rfl (Nat.le_of_ble_eq_true rfl) (fun h14 _ => ?_)
          refine B_aload_n dX2_findFault_81 rfl rfl ?_
          refine B_getR dX2_findFault_82 fl_X2_15 shC_41 rfl (rfC_41_1 _) ?_
          refine B_getI dX2_findFault_85 fl_X2_29 shC_22 rfl ?_
          refine B_iconst dX2_findFault_88 ic_2 ?_
          refine C_icmp_lt (tgt := 102) dX2_findFault_89 (by decide) (fun q17 => ?_) (fun q17 => ?_)
          · refine B_aload_n dX2_findFault_102 rfl rfl ?_
            refine B_getR dX2_findFault_103 fl_X2_9 shC_41 rfl (rfC_41_0 _) ?_
            refine B_getI dX2_findFault_106 fl_X2_61 shC_1 rfl ?_
            refine B_goto (tgt := 113) dX2_findFault_109 (by decide) ?_
            exact B_ireturn dX2_findFault_113 rfl rfl
          · refine B_aload_n dX2_findFault_92 rfl rfl ?_
            refine B_getR dX2_findFault_93 fl_X2_15 shC_41 rfl (rfC_41_1 _) ?_
            refine B_Vpb (st := []) dX2_findFault_96 cl_X2_58 (t_X1_hasTwoInOne 22 shC_22 h14) (Nat.le_of_ble_eq_true rfl) shC_22 rfl rfl (Nat.le_of_ble_eq_true rfl) (fun v15 _ => ?_)
            refine C_ifb_eq (tgt := 112) dX2_findFault_99 (by decide) (fun q16 => ?_) (fun q16 => ?_)
            · refine B_iconst dX2_findFault_112 ic_m1 ?_
              exact B_ireturn dX2_findFault_113 rfl rfl
            · refine B_aload_n dX2_findFault_102 rfl rfl ?_
              refine B_getR dX2_findFault_103 fl_X2_9 shC_41 rfl (rfC_41_0 _) ?_
              refine B_getI dX2_findFault_106 fl_X2_61 shC_1 rfl ?_
              refine B_goto (tgt := 113) dX2_findFault_109 (by decide) ?_
              exact B_ireturn dX2_findFault_113 rfl rfl
      · refine B_aload_n dX2_findFault_55 rfl rfl ?_
        refine B_getR dX2_findFault_56 fl_X2_9 shC_41 rfl (rfC_41_0 _) ?_
        refine B_getI dX2_findFault_59 fl_X2_19 shC_1 rfl ?_
        exact B_ireturn dX2_findFault_62 rfl rfl
def f_X2_findFault (h : dH) : Option (Int32 × dH) :=
  (some (dPut h 1 2 0)).bind fun h1 =>
  (some (dPut h1 41 2 0)).bind fun h2 =>
  (some (dPut h2 22 2 0)).bind fun h3 =>
  if dCk 0 0 (Int32.ofNat (zln 2)) (zln 2) 3 then
  (some (dCpy h3 (1000 + 2) 23 (dI 0) (dI 0) (dI (Int32.ofNat (zln 2))))).bind fun h5 =>
  f_X2_findFault_L42 dFu 0 h5
  else none
set_option maxRecDepth 20000 in
set_option maxHeartbeats 4000000 in
theorem t_X2_findFault (h : dH) : T XC 10 yX2_findFault cX2_findFault 2 (some .int) fiI [.ref 41] h (f_X2_findFault h) := by
  refine T_of [.ref 41, .null] (by decide) (fun _ => rfl) (fun _ => Nat.le_of_ble_eq_true rfl) ?_
  show B XC 10 RX2 cX2_findFault 2 (some .int) fiI 0 [.ref 41, .null] [] h (f_X2_findFault h)
  unfold f_X2_findFault
  refine B_aload_n dX2_findFault_0 rfl rfl ?_
  refine B_getR dX2_findFault_1 fl_X2_9 shC_41 rfl (rfC_41_0 _) ?_
  refine B_iconst dX2_findFault_4 ic_0 ?_
  refine B_putI dX2_findFault_5 fl_X2_19 fw_X9_2 shC_1 rfl ?_
  refine B_lh (fun h1 => ?_)
  refine B_aload_n dX2_findFault_8 rfl rfl ?_
  refine B_iconst dX2_findFault_9 ic_0 ?_
  refine B_putZ dX2_findFault_10 fl_X2_25 fw_X2_2 shC_41 rfl (Or.inl rfl) ?_
  refine B_lh (fun h2 => ?_)
  refine B_aload_n dX2_findFault_13 rfl rfl ?_
  refine B_getR dX2_findFault_14 fl_X2_15 shC_41 rfl (rfC_41_1 _) ?_
  refine B_iconst dX2_findFault_17 ic_0 ?_
  refine B_putI dX2_findFault_18 fl_X2_29 fw_X1_2 shC_22 rfl ?_
  refine B_lh (fun h3 => ?_)
  refine B_gets (j := 2) dX2_findFault_21 rfl zl_X2_34 ?_
  refine B_iconst dX2_findFault_24 ic_0 ?_
  refine B_aload_n dX2_findFault_25 rfl rfl ?_
  refine B_getR dX2_findFault_26 fl_X2_15 shC_41 rfl (rfC_41_1 _) ?_
  refine B_getR dX2_findFault_29 fl_X2_38 shC_22 rfl (rfC_22_0 _) ?_
  refine B_iconst dX2_findFault_32 ic_0 ?_
  refine B_gets (j := 2) dX2_findFault_33 rfl zl_X2_34 ?_
  refine L_alenE dX2_findFault_36 (by decide) ?_
  refine C_chk (fun q4 => ?_)
  refine L_copyE dX2_findFault_37 cp_X2_41 (Nat.le_of_ble_eq_true rfl) (Nat.le_of_ble_eq_true rfl) (by decide) shC_23 q4 ?_
  refine B_lh (fun h5 => ?_)
  refine B_iconst dX2_findFault_40 ic_0 ?_
  refine B_istore_n (ls' := [.ref 41, .int 0]) dX2_findFault_41 rfl (Nat.le_of_ble_eq_true rfl) rfl rfl ?_
  exact b_X2_findFault_L42 dFu 0 h5
def f_X3_keepDraft (h : dH) : Option (Int32 × dH) :=
  if (h.1 52 0) < 4 then
  some ((((dPut h 52 0 ((h.1 52 0) + 1)).1 52 0) - 1), (dPut h 52 0 ((h.1 52 0) + 1)))
  else
  some ((-1), h)
set_option maxRecDepth 20000 in
set_option maxHeartbeats 4000000 in
theorem t_X3_keepDraft (h : dH) : T XC 0 yX3_keepDraft cX3_keepDraft 1 (some .int) fiI [.ref 52] h (f_X3_keepDraft h) := by
  refine T_of [.ref 52] (by decide) (fun _ => rfl) (fun _ => Nat.le_of_ble_eq_true rfl) ?_
  show B XC 0 RX3 cX3_keepDraft 1 (some .int) fiI 0 [.ref 52] [] h (f_X3_keepDraft h)
  unfold f_X3_keepDraft
  refine B_aload_n dX3_keepDraft_0 rfl rfl ?_
  refine B_getI dX3_keepDraft_1 fl_X3_27 shC_52 rfl ?_
  refine B_iconst dX3_keepDraft_4 ic_4 ?_
  refine C_icmp_lt (tgt := 10) dX3_keepDraft_5 (by decide) (fun q1 => ?_) (fun q1 => ?_)
  · refine B_aload_n dX3_keepDraft_10 rfl rfl ?_
    refine B_dup dX3_keepDraft_11 rfl ?_
    refine B_getI dX3_keepDraft_12 fl_X3_27 shC_52 rfl ?_
    refine B_iconst dX3_keepDraft_15 ic_1 ?_
    refine B_iadd dX3_keepDraft_16 ?_
    refine B_putI dX3_keepDraft_17 fl_X3_27 fw_X3_0 shC_52 rfl ?_
    refine B_aload_n dX3_keepDraft_20 rfl rfl ?_
    refine B_getI dX3_keepDraft_21 fl_X3_27 shC_52 rfl ?_
    refine B_iconst dX3_keepDraft_24 ic_1 ?_
    refine B_isub dX3_keepDraft_25 ?_
    exact B_ireturn dX3_keepDraft_26 rfl rfl
  · refine B_iconst dX3_keepDraft_8 ic_m1 ?_
    exact B_ireturn dX3_keepDraft_9 rfl rfl
def f_X3_isKept (x1 : Int32) (h : dH) : Bool :=
  if x1 < 0 then
  false
  else
  if x1 < (h.1 52 0) then
  true
  else
  false
set_option maxRecDepth 20000 in
set_option maxHeartbeats 4000000 in
theorem t_X3_isKept (x1 : Int32) (h : dH) : T XC 0 yX3_isKept cX3_isKept 2 (some .boolean) (fiB h) [.ref 52, .int x1] h (some (f_X3_isKept x1 h)) := by
  refine T_of [.ref 52, .int x1] (by decide) (fun _ => rfl) (fun _ => Nat.le_of_ble_eq_true rfl) ?_
  show B XC 0 RX3 cX3_isKept 2 (some .boolean) (fiB h) 0 [.ref 52, .int x1] [] h (some (f_X3_isKept x1 h))
  unfold f_X3_isKept
  refine B_iload_n dX3_isKept_0 rfl rfl ?_
  refine C_some ?_
  refine C_if_lt (tgt := 16) dX3_isKept_1 (by decide) (fun q2 => ?_) (fun q2 => ?_)
  · refine B_iconst dX3_isKept_16 ic_0 ?_
    exact B_zreturn dX3_isKept_17 rfl rfl rfl
  · refine B_iload_n dX3_isKept_4 rfl rfl ?_
    refine B_aload_n dX3_isKept_5 rfl rfl ?_
    refine B_getI dX3_isKept_6 fl_X3_27 shC_52 rfl ?_
    refine C_some ?_
    refine C_icmp_ge (tgt := 16) dX3_isKept_9 (by decide) (fun q1 => ?_) (fun q1 => ?_)
    · refine B_iconst dX3_isKept_16 ic_0 ?_
      exact B_zreturn dX3_isKept_17 rfl rfl rfl
    · refine B_iconst dX3_isKept_12 ic_1 ?_
      refine B_goto (tgt := 17) dX3_isKept_13 (by decide) ?_
      exact B_zreturn dX3_isKept_17 rfl rfl rfl
def f_X3_sizeOf (x1 : Int32) (h : dH) : Option (Int32) :=
  if (f_X3_isKept x1 h) then
  if dIn x1 5 then
  some (h.1 65 (dI x1))
  else none
  else
  some 0
set_option maxRecDepth 20000 in
set_option maxHeartbeats 4000000 in
theorem t_X3_sizeOf (x1 : Int32) (h : dH) : T XC 1 yX3_sizeOf cX3_sizeOf 2 (some .int) (fiP h) [.ref 52, .int x1] h (f_X3_sizeOf x1 h) := by
  refine T_of [.ref 52, .int x1] (by decide) (fun _ => rfl) (fun _ => Nat.le_of_ble_eq_true rfl) ?_
  show B XC 1 RX3 cX3_sizeOf 2 (some .int) (fiP h) 0 [.ref 52, .int x1] [] h (f_X3_sizeOf x1 h)
  unfold f_X3_sizeOf
  refine B_aload_n dX3_sizeOf_0 rfl rfl ?_
  refine B_iload_n dX3_sizeOf_1 rfl rfl ?_
  refine B_VTb (st := []) dX3_sizeOf_2 cl_X3_31 (t_X3_isKept x1 h) (Nat.le_of_ble_eq_true rfl) shC_52 rfl rfl (Nat.le_of_ble_eq_true rfl) ?_
  refine C_ifb_eq (tgt := 17) dX3_sizeOf_5 (by decide) (fun q2 => ?_) (fun q2 => ?_)
  · refine B_iconst dX3_sizeOf_17 ic_0 ?_
    exact B_ireturn dX3_sizeOf_18 rfl rfl
  · refine B_aload_n dX3_sizeOf_8 rfl rfl ?_
    refine B_getR dX3_sizeOf_9 fl_X3_19 shC_52 rfl (rfC_52_4 _) ?_
    refine B_iload_n dX3_sizeOf_12 rfl rfl ?_
    refine C_chk (fun q1 => ?_)
    refine L_iald dX3_sizeOf_13 shC_65 q1 rfl ?_
    refine B_goto (tgt := 18) dX3_sizeOf_14 (by decide) ?_
    exact B_ireturn dX3_sizeOf_18 rfl rfl
def f_X3_whatOf (x1 : Int32) (x2 : Int32) (h : dH) : Option (Int32) :=
  if x2 < 0 then
  some (-1)
  else
  (f_X3_sizeOf x1 h).bind fun v1 =>
  if x2 < v1 then
  if dIn x1 5 then
  if dIn x2 16 then
  some (h.1 (54 + dI x1) (dI x2))
  else none
  else none
  else
  some (-1)
set_option maxRecDepth 20000 in
set_option maxHeartbeats 4000000 in
theorem t_X3_whatOf (x1 : Int32) (x2 : Int32) (h : dH) : T XC 2 yX3_whatOf cX3_whatOf 3 (some .int) (fiP h) [.ref 52, .int x1, .int x2] h (f_X3_whatOf x1 x2 h) := by
  refine T_of [.ref 52, .int x1, .int x2] (by decide) (fun _ => rfl) (fun _ => Nat.le_of_ble_eq_true rfl) ?_
  show B XC 2 RX3 cX3_whatOf 3 (some .int) (fiP h) 0 [.ref 52, .int x1, .int x2] [] h (f_X3_whatOf x1 x2 h)
  unfold f_X3_whatOf
  refine B_iload_n dX3_whatOf_0 rfl rfl ?_
  refine C_if_lt (tgt := 24) dX3_whatOf_1 (by decide) (fun q5 => ?_) (fun q5 => ?_)
  · refine B_iconst dX3_whatOf_24 ic_m1 ?_
    exact B_ireturn dX3_whatOf_25 rfl rfl
  · refine B_iload_n dX3_whatOf_4 rfl rfl ?_
    refine B_aload_n dX3_whatOf_5 rfl rfl ?_
    refine B_iload_n dX3_whatOf_6 rfl rfl ?_
    refine B_Vp (st := [.int x2]) dX3_whatOf_7 cl_X3_35 (t_X3_sizeOf x1 h) (Nat.le_of_ble_eq_true rfl) shC_52 rfl rfl (Nat.le_of_ble_eq_true rfl) (fun v1 _ => ?_)
    refine C_icmp_ge (tgt := 24) dX3_whatOf_10 (by decide) (fun q4 => ?_) (fun q4 => ?_)
    · refine B_iconst dX3_whatOf_24 ic_m1 ?_
      exact B_ireturn dX3_whatOf_25 rfl rfl
    · refine B_aload_n dX3_whatOf_13 rfl rfl ?_
      refine B_getR dX3_whatOf_14 fl_X3_13 shC_52 rfl (rfC_52_2 _) ?_
      refine B_iload_n dX3_whatOf_17 rfl rfl ?_
      refine C_chk (fun q2 => ?_)
      refine B_aald dX3_whatOf_18 shC_53 q2 (rrC_53 _ q2) ?_
      refine B_iload_n dX3_whatOf_19 rfl rfl ?_
      refine C_chk (fun q3 => ?_)
      refine L_iald dX3_whatOf_20 (rowC_53 q2) q3 rfl ?_
      refine B_goto (tgt := 25) dX3_whatOf_21 (by decide) ?_
      exact B_ireturn dX3_whatOf_25 rfl rfl
def f_X3_digitOf (x1 : Int32) (x2 : Int32) (h : dH) : Option (Int32) :=
  if x2 < 0 then
  some (-1)
  else
  (f_X3_sizeOf x1 h).bind fun v1 =>
  if x2 < v1 then
  if dIn x1 5 then
  if dIn x2 16 then
  some (h.1 (60 + dI x1) (dI x2))
  else none
  else none
  else
  some (-1)
set_option maxRecDepth 20000 in
set_option maxHeartbeats 4000000 in
theorem t_X3_digitOf (x1 : Int32) (x2 : Int32) (h : dH) : T XC 2 yX3_digitOf cX3_digitOf 3 (some .int) (fiP h) [.ref 52, .int x1, .int x2] h (f_X3_digitOf x1 x2 h) := by
  refine T_of [.ref 52, .int x1, .int x2] (by decide) (fun _ => rfl) (fun _ => Nat.le_of_ble_eq_true rfl) ?_
  show B XC 2 RX3 cX3_digitOf 3 (some .int) (fiP h) 0 [.ref 52, .int x1, .int x2] [] h (f_X3_digitOf x1 x2 h)
  unfold f_X3_digitOf
  refine B_iload_n dX3_digitOf_0 rfl rfl ?_
  refine C_if_lt (tgt := 24) dX3_digitOf_1 (by decide) (fun q5 => ?_) (fun q5 => ?_)
  · refine B_iconst dX3_digitOf_24 ic_m1 ?_
    exact B_ireturn dX3_digitOf_25 rfl rfl
  · refine B_iload_n dX3_digitOf_4 rfl rfl ?_
    refine B_aload_n dX3_digitOf_5 rfl rfl ?_
    refine B_iload_n dX3_digitOf_6 rfl rfl ?_
    refine B_Vp (st := [.int x2]) dX3_digitOf_7 cl_X3_35 (t_X3_sizeOf x1 h) (Nat.le_of_ble_eq_true rfl) shC_52 rfl rfl (Nat.le_of_ble_eq_true rfl) (fun v1 _ => ?_)
    refine C_icmp_ge (tgt := 24) dX3_digitOf_10 (by decide) (fun q4 => ?_) (fun q4 => ?_)
    · refine B_iconst dX3_digitOf_24 ic_m1 ?_
      exact B_ireturn dX3_digitOf_25 rfl rfl
    · refine B_aload_n dX3_digitOf_13 rfl rfl ?_
      refine B_getR dX3_digitOf_14 fl_X3_16 shC_52 rfl (rfC_52_3 _) ?_
      refine B_iload_n dX3_digitOf_17 rfl rfl ?_
      refine C_chk (fun q2 => ?_)
      refine B_aald dX3_digitOf_18 shC_59 q2 (rrC_59 _ q2) ?_
      refine B_iload_n dX3_digitOf_19 rfl rfl ?_
      refine C_chk (fun q3 => ?_)
      refine L_iald dX3_digitOf_20 (rowC_59 q2) q3 rfl ?_
      refine B_goto (tgt := 25) dX3_digitOf_21 (by decide) ?_
      exact B_ireturn dX3_digitOf_25 rfl rfl
def f_X3_readStep_J68 (y1 : Int32) (h : dH) : Option (Bool × dH) :=
  (f_X9_sign h).bind fun rv14 =>
  if (f_X9_isDigit rv14.1 rv14.2) then
  if dIn (rv14.2.1 52 0) 5 then
  if dIn y1 16 then
  (some (dPut rv14.2 (60 + dI (rv14.2.1 52 0)) (dI y1) (rv14.1 - 48))).bind fun h18 =>
  some (true, (dPut h18 1 2 ((h18.1 1 2) + 1)))
  else none
  else none
  else
  some (false, rv14.2)
set_option maxRecDepth 20000 in
set_option maxHeartbeats 4000000 in
theorem b_X3_readStep_J68 (y1 : Int32) (h : dH) : B XC 8 RX3 cX3_readStep 4 (some .boolean) fiC 68 [.ref 52, .int y1, .null, .null] [] h (f_X3_readStep_J68 y1 h) := by
  unfold f_X3_readStep_J68
  refine B_aload_n dX3_readStep_68 rfl rfl ?_
  refine B_getR dX3_readStep_69 fl_X3_23 shC_52 rfl (rfC_52_1 _) ?_
  refine B_VI (st := []) dX3_readStep_72 cl_X3_47 (t_X9_sign h) (Nat.le_of_ble_eq_true rfl) shC_1 rfl rfl (Nat.le_of_ble_eq_true rfl) (fun v14 h15 _ => ?_)
  refine B_istore_n (ls' := [.ref 52, .int y1, .null, .int v14]) dX3_readStep_75 rfl (Nat.le_of_ble_eq_true rfl) rfl rfl ?_
  refine B_iload_n dX3_readStep_76 rfl rfl ?_
  refine B_STb (st := []) dX3_readStep_77 cl_X3_61 (t_X9_isDigit v14 h15) (Nat.le_of_ble_eq_true rfl) rfl rfl (Nat.le_of_ble_eq_true rfl) ?_
  refine C_ifb_ne (tgt := 85) dX3_readStep_80 (by decide) (fun q19 => ?_) (fun q19 => ?_)
  · refine B_aload_n dX3_readStep_85 rfl rfl ?_
    refine B_getR dX3_readStep_86 fl_X3_16 shC_52 rfl (rfC_52_3 _) ?_
    refine B_aload_n dX3_readStep_89 rfl rfl ?_
    refine B_getI dX3_readStep_90 fl_X3_27 shC_52 rfl ?_
    refine C_chk (fun q16 => ?_)
    refine B_aald dX3_readStep_93 shC_59 q16 (rrC_59 _ q16) ?_
    refine B_iload_n dX3_readStep_94 rfl rfl ?_
    refine B_iload_n dX3_readStep_95 rfl rfl ?_
    refine B_bipush dX3_readStep_96 bp_48 ?_
    refine B_isub dX3_readStep_98 ?_
    refine C_chk (fun q17 => ?_)
    refine L_iast dX3_readStep_99 (rowC_59 q16) q17 rfl ?_
    refine B_lh (fun h18 => ?_)
    refine B_aload_n dX3_readStep_100 rfl rfl ?_
    refine B_getR dX3_readStep_101 fl_X3_23 shC_52 rfl (rfC_52_1 _) ?_
    refine B_dup dX3_readStep_104 rfl ?_
    refine B_getI dX3_readStep_105 fl_X3_39 shC_1 rfl ?_
    refine B_iconst dX3_readStep_108 ic_1 ?_
    refine B_iadd dX3_readStep_109 ?_
    refine B_putI dX3_readStep_110 fl_X3_39 fw_X9_2 shC_1 rfl ?_
    refine B_iconst dX3_readStep_113 ic_1 ?_
    exact B_zreturn dX3_readStep_114 rfl rfl rfl
  · refine B_iconst dX3_readStep_83 ic_0 ?_
    exact B_zreturn dX3_readStep_84 rfl rfl rfl
def f_X3_readStep (x1 : Int32) (h : dH) : Option (Bool × dH) :=
  (f_X9_sign h).bind fun rv1 =>
  (some ((f_X11_placeIn 3 rv1.1))).bind fun v3 =>
  if v3 = (-1) then
  some (false, rv1.2)
  else
  (some (dPut rv1.2 1 2 ((rv1.2.1 1 2) + 1))).bind fun h4 =>
  if dIn (h4.1 52 0) 5 then
  if dIn x1 16 then
  (some (dPut h4 (54 + dI (h4.1 52 0)) (dI x1) v3)).bind fun h7 =>
  if dIn (h7.1 52 0) 5 then
  if dIn x1 16 then
  (some (dPut h7 (60 + dI (h7.1 52 0)) (dI x1) (-1))).bind fun h10 =>
  if v3 = 0 then
  f_X3_readStep_J68 x1 h10
  else
  if v3 = 2 then
  f_X3_readStep_J68 x1 h10
  else
  some (true, h10)
  else none
  else none
  else none
  else none
set_option maxRecDepth 20000 in
set_option maxHeartbeats 4000000 in
theorem t_X3_readStep (x1 : Int32) (h : dH) : T XC 8 yX3_readStep cX3_readStep 4 (some .boolean) fiC [.ref 52, .int x1] h (f_X3_readStep x1 h) := by
  refine T_of [.ref 52, .int x1, .null, .null] (by decide) (fun _ => rfl) (fun _ => Nat.le_of_ble_eq_true rfl) ?_
  show B XC 8 RX3 cX3_readStep 4 (some .boolean) fiC 0 [.ref 52, .int x1, .null, .null] [] h (f_X3_readStep x1 h)
  unfold f_X3_readStep
  refine B_ldcS (j := 3) dX3_readStep_0 rfl rfl rfl ?_
  refine B_aload_n dX3_readStep_2 rfl rfl ?_
  refine B_getR dX3_readStep_3 fl_X3_23 shC_52 rfl (rfC_52_1 _) ?_
  refine B_VI (st := [.ref (2000 + 3)]) dX3_readStep_6 cl_X3_47 (t_X9_sign h) (Nat.le_of_ble_eq_true rfl) shC_1 rfl rfl (Nat.le_of_ble_eq_true rfl) (fun v1 h2 _ => ?_)
  refine B_Nt (st := []) dX3_readStep_9 cl_X3_57 (t_X11_placeIn 3 (by decide) v1 h2) (Nat.le_of_ble_eq_true rfl) rfl rfl (Nat.le_of_ble_eq_true rfl) ?_
  refine B_lv (fun v3 => ?_)
  refine B_istore_n (ls' := [.ref 52, .int x1, .int v3, .null]) dX3_readStep_12 rfl (Nat.le_of_ble_eq_true rfl) rfl rfl ?_
  refine B_iload_n dX3_readStep_13 rfl rfl ?_
  refine B_iconst dX3_readStep_14 ic_m1 ?_
  refine C_icmp_ne (tgt := 20) dX3_readStep_15 (by decide) (fun q13 => ?_) (fun q13 => ?_)
  · refine B_aload_n dX3_readStep_20 rfl rfl ?_
    refine B_getR dX3_readStep_21 fl_X3_23 shC_52 rfl (rfC_52_1 _) ?_
    refine B_dup dX3_readStep_24 rfl ?_
    refine B_getI dX3_readStep_25 fl_X3_39 shC_1 rfl ?_
    refine B_iconst dX3_readStep_28 ic_1 ?_
    refine B_iadd dX3_readStep_29 ?_
    refine B_putI dX3_readStep_30 fl_X3_39 fw_X9_2 shC_1 rfl ?_
    refine B_lh (fun h4 => ?_)
    refine B_aload_n dX3_readStep_33 rfl rfl ?_
    refine B_getR dX3_readStep_34 fl_X3_13 shC_52 rfl (rfC_52_2 _) ?_
    refine B_aload_n dX3_readStep_37 rfl rfl ?_
    refine B_getI dX3_readStep_38 fl_X3_27 shC_52 rfl ?_
    refine C_chk (fun q5 => ?_)
    refine B_aald dX3_readStep_41 shC_53 q5 (rrC_53 _ q5) ?_
    refine B_iload_n dX3_readStep_42 rfl rfl ?_
    refine B_iload_n dX3_readStep_43 rfl rfl ?_
    refine C_chk (fun q6 => ?_)
    refine L_iast dX3_readStep_44 (rowC_53 q5) q6 rfl ?_
    refine B_lh (fun h7 => ?_)
    refine B_aload_n dX3_readStep_45 rfl rfl ?_
    refine B_getR dX3_readStep_46 fl_X3_16 shC_52 rfl (rfC_52_3 _) ?_
    refine B_aload_n dX3_readStep_49 rfl rfl ?_
    refine B_getI dX3_readStep_50 fl_X3_27 shC_52 rfl ?_
    refine C_chk (fun q8 => ?_)
    refine B_aald dX3_readStep_53 shC_59 q8 (rrC_59 _ q8) ?_
    refine B_iload_n dX3_readStep_54 rfl rfl ?_
    refine B_iconst dX3_readStep_55 ic_m1 ?_
    refine C_chk (fun q9 => ?_)
    refine L_iast dX3_readStep_56 (rowC_59 q8) q9 rfl ?_
    refine B_lh (fun h10 => ?_)
    refine B_iload_n dX3_readStep_57 rfl rfl ?_
    refine C_if_eq (tgt := 68) dX3_readStep_58 (by decide) (fun q12 => ?_) (fun q12 => ?_)
    · refine B_drop 2 (ls' := [.ref 52, .int x1, .null, .null]) rfl ?_
      exact b_X3_readStep_J68 x1 h10
    · refine B_iload_n dX3_readStep_61 rfl rfl ?_
      refine B_iconst dX3_readStep_62 ic_2 ?_
      refine C_icmp_eq (tgt := 68) dX3_readStep_63 (by decide) (fun q11 => ?_) (fun q11 => ?_)
      · refine B_drop 2 (ls' := [.ref 52, .int x1, .null, .null]) rfl ?_
        exact b_X3_readStep_J68 x1 h10
      · refine B_iconst dX3_readStep_66 ic_1 ?_
        exact B_zreturn dX3_readStep_67 rfl rfl rfl
  · refine B_iconst dX3_readStep_18 ic_0 ?_
    exact B_zreturn dX3_readStep_19 rfl rfl rfl
def f_X3_findFault_L10 : Nat → Int32 → dH → Option (Int32 × dH)
  | 0, _, _ => none
  | n + 1, y1, h =>
    if y1 < 16 then
    (f_X3_readStep y1 h).bind fun rv2 =>
    if rv2.1 then
    if dIn (rv2.2.1 52 0) 5 then
    (some (dPut rv2.2 65 (dI (rv2.2.1 52 0)) (y1 + 1))).bind fun h5 =>
    (f_X9_sign h5).bind fun rv6 =>
    if rv6.1 = (-1) then
    some ((-1), rv6.2)
    else
    if y1 = 15 then
    some ((rv6.2.1 1 2), rv6.2)
    else
    (f_X9_take 59 rv6.2).bind fun rv8 =>
    if rv8.1 then
    (f_X3_findFault_L10 n) (y1 + 1) rv8.2
    else
    some ((rv8.2.1 1 2), rv8.2)
    else none
    else
    some ((rv2.2.1 1 2), rv2.2)
    else
    some ((h.1 1 2), h)
set_option maxRecDepth 20000 in
set_option maxHeartbeats 4000000 in
theorem b_X3_findFault_L10 : ∀ (n : Nat) (y1 : Int32) (h : dH), B XC 9 RX3 cX3_findFault 2 (some .int) fiI 10 [.ref 52, .int y1] [] h (f_X3_findFault_L10 n y1 h) := by
  intro n
  induction n with
  | zero =>
    intro y1 h
    exact B_none
  | succ n ih =>
    intro y1 h
    rw [f_X3_findFault_L10]
    refine B_iload_n dX3_findFault_10 rfl rfl ?_
    refine B_bipush dX3_findFault_11 bp_16 ?_
    refine C_icmp_ge (tgt := 89) dX3_findFault_13 (by decide) (fun q14 => ?_) (fun q14 => ?_)
    · refine B_aload_n dX3_findFault_89 rfl rfl ?_
      refine B_getR dX3_findFault_90 fl_X3_23 shC_52 rfl (rfC_52_1 _) ?_
      refine B_getI dX3_findFault_93 fl_X3_39 shC_1 rfl ?_
      exact B_ireturn dX3_findFault_96 rfl rfl
    · refine B_aload_n dX3_findFault_16 rfl rfl ?_
      refine B_iload_n dX3_findFault_17 rfl rfl ?_
      refine B_VC (st := []) dX3_findFault_18 cl_X3_44 (t_X3_readStep y1 h) (Nat.le_of_ble_eq_true rfl) shC_52 rfl rfl (Nat.le_of_ble_eq_true rfl) (fun v2 h3 _ => ?_)
      refine C_ifb_ne (tgt := 32) dX3_findFault_21 (by decide) (fun q13 => ?_) (fun q13 => ?_)
      · refine B_aload_n dX3_findFault_32 rfl rfl ?_
        refine B_getR dX3_findFault_33 fl_X3_19 shC_52 rfl (rfC_52_4 _) ?_
        refine B_aload_n dX3_findFault_36 rfl rfl ?_
        refine B_getI dX3_findFault_37 fl_X3_27 shC_52 rfl ?_
        refine B_iload_n dX3_findFault_40 rfl rfl ?_
        refine B_iconst dX3_findFault_41 ic_1 ?_
        refine B_iadd dX3_findFault_42 ?_
        refine C_chk (fun q4 => ?_)
        refine L_iast dX3_findFault_43 shC_65 q4 rfl ?_
        refine B_lh (fun h5 => ?_)
        refine B_aload_n dX3_findFault_44 rfl rfl ?_
        refine B_getR dX3_findFault_45 fl_X3_23 shC_52 rfl (rfC_52_1 _) ?_
        refine B_VI (st := []) dX3_findFault_48 cl_X3_47 (t_X9_sign h5) (Nat.le_of_ble_eq_true rfl) shC_1 rfl rfl (Nat.le_of_ble_eq_true rfl) (fun v6 h7 _ => ?_)
        refine B_iconst dX3_findFault_51 ic_m1 ?_
        refine C_icmp_ne (tgt := 57) dX3_findFault_52 (by decide) (fun q12 => ?_) (fun q12 => ?_)
        · refine B_iload_n dX3_findFault_57 rfl rfl ?_
          refine B_bipush dX3_findFault_58 bp_15 ?_
          refine C_icmp_eq (tgt := 75) dX3_findFault_60 (by decide) (fun q11 => ?_) (fun q11 => ?_)
          · refine B_aload_n dX3_findFault_75 rfl rfl ?_
            refine B_getR dX3_findFault_76 fl_X3_23 shC_52 rfl (rfC_52_1 _) ?_
            refine B_getI dX3_findFault_79 fl_X3_39 shC_1 rfl ?_
            exact B_ireturn dX3_findFault_82 rfl rfl
          · refine B_aload_n dX3_findFault_63 rfl rfl ?_
            refine B_getR dX3_findFault_64 fl_X3_23 shC_52 rfl (rfC_52_1 _) ?_
            refine B_bipush dX3_findFault_67 bp_59 ?_
            refine B_VC (st := []) dX3_findFault_69 cl_X3_51 (t_X9_take 59 h7) (Nat.le_of_ble_eq_true rfl) shC_1 rfl rfl (Nat.le_of_ble_eq_true rfl) (fun v8 h9 _ => ?_)
            refine C_ifb_ne (tgt := 83) dX3_findFault_72 (by decide) (fun q10 => ?_) (fun q10 => ?_)
            · refine B_iinc (w := (y1 + 1)) (ls' := [.ref 52, .int (y1 + 1)]) dX3_findFault_83 rfl (congrArg (fun z => y1 + z) ic_1) (Nat.le_of_ble_eq_true rfl) rfl rfl ?_
              refine B_goto (tgt := 10) dX3_findFault_86 (by decide) ?_
              exact ih (y1 + 1)  h9
            · refine B_aload_n dX3_findFault_75 rfl rfl ?_
              refine B_getR dX3_findFault_76 fl_X3_23 shC_52 rfl (rfC_52_1 _) ?_
              refine B_getI dX3_findFault_79 fl_X3_39 shC_1 rfl ?_
              exact B_ireturn dX3_findFault_82 rfl rfl
        · refine B_iconst dX3_findFault_55 ic_m1 ?_
          exact B_ireturn dX3_findFault_56 rfl rfl
      · refine B_aload_n dX3_findFault_24 rfl rfl ?_
        refine B_getR dX3_findFault_25 fl_X3_23 shC_52 rfl (rfC_52_1 _) ?_
        refine B_getI dX3_findFault_28 fl_X3_39 shC_1 rfl ?_
        exact B_ireturn dX3_findFault_31 rfl rfl
def f_X3_findFault (h : dH) : Option (Int32 × dH) :=
  (some (dPut h 1 2 0)).bind fun h1 =>
  f_X3_findFault_L10 dFu 0 h1
set_option maxRecDepth 20000 in
set_option maxHeartbeats 4000000 in
theorem t_X3_findFault (h : dH) : T XC 9 yX3_findFault cX3_findFault 2 (some .int) fiI [.ref 52] h (f_X3_findFault h) := by
  refine T_of [.ref 52, .null] (by decide) (fun _ => rfl) (fun _ => Nat.le_of_ble_eq_true rfl) ?_
  show B XC 9 RX3 cX3_findFault 2 (some .int) fiI 0 [.ref 52, .null] [] h (f_X3_findFault h)
  unfold f_X3_findFault
  refine B_aload_n dX3_findFault_0 rfl rfl ?_
  refine B_getR dX3_findFault_1 fl_X3_23 shC_52 rfl (rfC_52_1 _) ?_
  refine B_iconst dX3_findFault_4 ic_0 ?_
  refine B_putI dX3_findFault_5 fl_X3_39 fw_X9_2 shC_1 rfl ?_
  refine B_lh (fun h1 => ?_)
  refine B_iconst dX3_findFault_8 ic_0 ?_
  refine B_istore_n (ls' := [.ref 52, .int 0]) dX3_findFault_9 rfl (Nat.le_of_ble_eq_true rfl) rfl rfl ?_
  exact b_X3_findFault_L10 dFu 0 h1
def f_J9_floorMod_7cf53 (x0 : Int32) (x1 : Int32) (h : dH) : Option (Int32) :=
  if ¬ x1 = 0 then
  (some ((x0 - x0 / x1 * x1))).bind fun v2 =>
  if (x0 ^^^ x1) < 0 then
  if v2 = 0 then
  some v2
  else
  some (v2 + x1)
  else
  some v2
  else none
set_option maxRecDepth 20000 in
set_option maxHeartbeats 4000000 in
theorem t_J9_floorMod_7cf53 (x0 : Int32) (x1 : Int32) (h : dH) : T XC 0 yJ9_floorMod_7cf53 cJ9_floorMod_7cf53 3 (some .int) (fiP h) [.int x0, .int x1] h (f_J9_floorMod_7cf53 x0 x1 h) := by
  refine T_of [.int x0, .int x1, .null] (by decide) (fun _ => rfl) (fun _ => Nat.le_of_ble_eq_true rfl) ?_
  show B XC 0 RJ9 cJ9_floorMod_7cf53 3 (some .int) (fiP h) 0 [.int x0, .int x1, .null] [] h (f_J9_floorMod_7cf53 x0 x1 h)
  unfold f_J9_floorMod_7cf53
  refine B_iload_n dJ9_floorMod_7cf53_0 rfl rfl ?_
  refine B_iload_n dJ9_floorMod_7cf53_1 rfl rfl ?_
  refine C_chk (fun q1 => ?_)
  refine B_irem dJ9_floorMod_7cf53_2 q1 ?_
  refine B_lv (fun v2 => ?_)
  refine B_istore_n (ls' := [.int x0, .int x1, .int v2]) dJ9_floorMod_7cf53_3 rfl (Nat.le_of_ble_eq_true rfl) rfl rfl ?_
  refine B_iload_n dJ9_floorMod_7cf53_4 rfl rfl ?_
  refine B_iload_n dJ9_floorMod_7cf53_5 rfl rfl ?_
  refine B_ixor dJ9_floorMod_7cf53_6 ?_
  refine C_if_ge (tgt := 18) dJ9_floorMod_7cf53_7 (by decide) (fun q4 => ?_) (fun q4 => ?_)
  · refine B_iload_n dJ9_floorMod_7cf53_18 rfl rfl ?_
    exact B_ireturn dJ9_floorMod_7cf53_19 rfl rfl
  · refine B_iload_n dJ9_floorMod_7cf53_10 rfl rfl ?_
    refine C_if_eq (tgt := 18) dJ9_floorMod_7cf53_11 (by decide) (fun q3 => ?_) (fun q3 => ?_)
    · refine B_iload_n dJ9_floorMod_7cf53_18 rfl rfl ?_
      exact B_ireturn dJ9_floorMod_7cf53_19 rfl rfl
    · refine B_iload_n dJ9_floorMod_7cf53_14 rfl rfl ?_
      refine B_iload_n dJ9_floorMod_7cf53_15 rfl rfl ?_
      refine B_iadd dJ9_floorMod_7cf53_16 ?_
      exact B_ireturn dJ9_floorMod_7cf53_17 rfl rfl
def f_X4_rowOf (x0 : Int32) (h : dH) : Option (Int32) :=
  (f_J9_floorMod_7cf53 x0 100 h).bind fun v1 =>
  some (v1 * 3)
set_option maxRecDepth 20000 in
set_option maxHeartbeats 4000000 in
theorem t_X4_rowOf (x0 : Int32) (h : dH) : T XC 1 yX4_rowOf cX4_rowOf 1 (some .int) (fiP h) [.int x0] h (f_X4_rowOf x0 h) := by
  refine T_of [.int x0] (by decide) (fun _ => rfl) (fun _ => Nat.le_of_ble_eq_true rfl) ?_
  show B XC 1 RX4 cX4_rowOf 1 (some .int) (fiP h) 0 [.int x0] [] h (f_X4_rowOf x0 h)
  unfold f_X4_rowOf
  refine B_iload_n dX4_rowOf_0 rfl rfl ?_
  refine B_bipush dX4_rowOf_1 bp_100 ?_
  refine B_Sp (st := []) dX4_rowOf_3 cl_X4_15 (t_J9_floorMod_7cf53 x0 100 h) (Nat.le_of_ble_eq_true rfl) rfl rfl (Nat.le_of_ble_eq_true rfl) (fun v1 _ => ?_)
  refine B_iconst dX4_rowOf_6 ic_3 ?_
  refine B_imul dX4_rowOf_7 ?_
  exact B_ireturn dX4_rowOf_8 rfl rfl
def f_X4_lengthOn (x0 : Int32) (h : dH) : Int32 :=
  (jmin 60 x0)
set_option maxRecDepth 20000 in
set_option maxHeartbeats 4000000 in
theorem t_X4_lengthOn (x0 : Int32) (h : dH) : T XC 1 yX4_lengthOn cX4_lengthOn 1 (some .int) (fiP h) [.int x0] h (some (f_X4_lengthOn x0 h)) := by
  refine T_of [.int x0] (by decide) (fun _ => rfl) (fun _ => Nat.le_of_ble_eq_true rfl) ?_
  show B XC 1 RX4 cX4_lengthOn 1 (some .int) (fiP h) 0 [.int x0] [] h (some (f_X4_lengthOn x0 h))
  unfold f_X4_lengthOn
  refine B_bipush dX4_lengthOn_0 bp_60 ?_
  refine B_iload_n dX4_lengthOn_2 rfl rfl ?_
  refine B_mmin dX4_lengthOn_3 mt_X4_21 (Nat.le_of_ble_eq_true rfl) (Nat.le_of_ble_eq_true rfl) ?_
  exact B_ireturn dX4_lengthOn_6 rfl rfl
def f_X4_copyFrom (t : Nat) (u : Nat) (h : dH) : Option (dH) :=
  if dCk 0 0 300 300 300 then
  some (dCpy h (u + 1) (t + 1) (dI 0) (dI 0) (dI 300))
  else none
set_option maxRecDepth 20000 in
set_option maxHeartbeats 4000000 in
theorem t_X4_copyFrom (t : Nat) (ht : XC.1[t]? = some (.inl 4)) (u : Nat) (hu : XC.1[u]? = some (.inl 4)) (h : dH) : T XC 1 yX4_copyFrom cX4_copyFrom 2 none fiV [.ref t, .ref u] h (f_X4_copyFrom t u h) := by
  refine T_of [.ref t, .ref u] (by decide) (fun _ => rfl) (fun _ => Nat.le_of_ble_eq_true rfl) ?_
  show B XC 1 RX4 cX4_copyFrom 2 none fiV 0 [.ref t, .ref u] [] h (f_X4_copyFrom t u h)
  unfold f_X4_copyFrom
  refine B_aload_n dX4_copyFrom_0 rfl rfl ?_
  refine B_getR dX4_copyFrom_1 fl_X4_11 hu rfl (rfX4_0 _ hu) ?_
  refine B_iconst dX4_copyFrom_4 ic_0 ?_
  refine B_aload_n dX4_copyFrom_5 rfl rfl ?_
  refine B_getR dX4_copyFrom_6 fl_X4_11 ht rfl (rfX4_0 _ ht) ?_
  refine B_iconst dX4_copyFrom_9 ic_0 ?_
  refine B_aload_n dX4_copyFrom_10 rfl rfl ?_
  refine B_getR dX4_copyFrom_11 fl_X4_11 ht rfl (rfX4_0 _ ht) ?_
  refine B_alen (v := 300) dX4_copyFrom_14 (shX4_0 ht) (by decide) ?_
  refine C_chk (fun q1 => ?_)
  refine L_copy dX4_copyFrom_15 cp_X4_24 (Nat.le_of_ble_eq_true rfl) (Nat.le_of_ble_eq_true rfl) (shX4_0 hu) (shX4_0 ht) q1 ?_
  exact B_return dX4_copyFrom_18 rfl rfl
def f_X8_daysGone (h : dH) : Int32 :=
  (h.1 67 6)
set_option maxRecDepth 20000 in
set_option maxHeartbeats 4000000 in
theorem t_X8_daysGone (h : dH) : T XC 0 yX8_daysGone cX8_daysGone 1 (some .int) (fiP h) [.ref 66] h (some (f_X8_daysGone h)) := by
  refine T_of [.ref 66] (by decide) (fun _ => rfl) (fun _ => Nat.le_of_ble_eq_true rfl) ?_
  show B XC 0 RX8 cX8_daysGone 1 (some .int) (fiP h) 0 [.ref 66] [] h (some (f_X8_daysGone h))
  unfold f_X8_daysGone
  refine B_aload_n dX8_daysGone_0 rfl rfl ?_
  refine B_getR dX8_daysGone_1 fl_X8_11 shC_66 rfl (rfC_66_2 _) ?_
  refine B_bipush dX8_daysGone_4 bp_6 ?_
  refine L_iald dX8_daysGone_6 shC_67 (by decide) di_6 ?_
  exact B_ireturn dX8_daysGone_7 rfl rfl
def f_X8_seenToday (h : dH) : Int32 :=
  (h.1 67 3)
set_option maxRecDepth 20000 in
set_option maxHeartbeats 4000000 in
theorem t_X8_seenToday (h : dH) : T XC 0 yX8_seenToday cX8_seenToday 1 (some .int) (fiP h) [.ref 66] h (some (f_X8_seenToday h)) := by
  refine T_of [.ref 66] (by decide) (fun _ => rfl) (fun _ => Nat.le_of_ble_eq_true rfl) ?_
  show B XC 0 RX8 cX8_seenToday 1 (some .int) (fiP h) 0 [.ref 66] [] h (some (f_X8_seenToday h))
  unfold f_X8_seenToday
  refine B_aload_n dX8_seenToday_0 rfl rfl ?_
  refine B_getR dX8_seenToday_1 fl_X8_11 shC_66 rfl (rfC_66_2 _) ?_
  refine B_iconst dX8_seenToday_4 ic_3 ?_
  refine L_iald dX8_seenToday_5 shC_67 (by decide) di_3 ?_
  exact B_ireturn dX8_seenToday_6 rfl rfl
def f_X8_hour (h : dH) : Int32 :=
  (h.1 67 1)
set_option maxRecDepth 20000 in
set_option maxHeartbeats 4000000 in
theorem t_X8_hour (h : dH) : T XC 0 yX8_hour cX8_hour 1 (some .int) (fiP h) [.ref 66] h (some (f_X8_hour h)) := by
  refine T_of [.ref 66] (by decide) (fun _ => rfl) (fun _ => Nat.le_of_ble_eq_true rfl) ?_
  show B XC 0 RX8 cX8_hour 1 (some .int) (fiP h) 0 [.ref 66] [] h (some (f_X8_hour h))
  unfold f_X8_hour
  refine B_aload_n dX8_hour_0 rfl rfl ?_
  refine B_getR dX8_hour_1 fl_X8_11 shC_66 rfl (rfC_66_2 _) ?_
  refine B_iconst dX8_hour_4 ic_1 ?_
  refine L_iald dX8_hour_5 shC_67 (by decide) di_1 ?_
  exact B_ireturn dX8_hour_6 rfl rfl
def f_X8_patienceOf (t : Nat) (x1 : Int32) (h : dH) : Option (Int32) :=
  if (f_X1_isPlace 3 x1 h) then
  if dIn (21 + x1) 28 then
  some (h.1 (t + 1) (dI (21 + x1)))
  else none
  else
  some 0
set_option maxRecDepth 20000 in
set_option maxHeartbeats 4000000 in
theorem t_X8_patienceOf (t : Nat) (ht : XC.1[t]? = some (.inl 8)) (x1 : Int32) (h : dH) : T XC 1 yX8_patienceOf cX8_patienceOf 2 (some .int) (fiP h) [.ref t, .int x1] h (f_X8_patienceOf t x1 h) := by
  refine T_of [.ref t, .int x1] (by decide) (fun _ => rfl) (fun _ => Nat.le_of_ble_eq_true rfl) ?_
  show B XC 1 RX8 cX8_patienceOf 2 (some .int) (fiP h) 0 [.ref t, .int x1] [] h (f_X8_patienceOf t x1 h)
  unfold f_X8_patienceOf
  refine B_aload_n dX8_patienceOf_0 rfl rfl ?_
  refine B_getR dX8_patienceOf_1 fl_X8_15 ht rfl (rfX8_0 _ ht) ?_
  refine B_iload_n dX8_patienceOf_4 rfl rfl ?_
  refine B_VTb (st := []) dX8_patienceOf_5 cl_X8_35 (t_X1_isPlace 3 shC_3 x1 h) (Nat.le_of_ble_eq_true rfl) shC_3 rfl rfl (Nat.le_of_ble_eq_true rfl) ?_
  refine C_ifb_eq (tgt := 23) dX8_patienceOf_8 (by decide) (fun q2 => ?_) (fun q2 => ?_)
  · refine B_iconst dX8_patienceOf_23 ic_0 ?_
    exact B_ireturn dX8_patienceOf_24 rfl rfl
  · refine B_aload_n dX8_patienceOf_11 rfl rfl ?_
    refine B_getR dX8_patienceOf_12 fl_X8_11 ht rfl (rfX8_2 _ ht) ?_
    refine B_bipush dX8_patienceOf_15 bp_21 ?_
    refine B_iload_n dX8_patienceOf_17 rfl rfl ?_
    refine B_iadd dX8_patienceOf_18 ?_
    refine C_chk (fun q1 => ?_)
    refine L_iald dX8_patienceOf_19 (shX8_2 ht) q1 rfl ?_
    refine B_goto (tgt := 24) dX8_patienceOf_20 (by decide) ?_
    exact B_ireturn dX8_patienceOf_24 rfl rfl
def f_X8_troublesOf (t : Nat) (x1 : Int32) (h : dH) : Option (Int32) :=
  if (f_X1_isPlace 3 x1 h) then
  if dIn (14 + x1) 28 then
  some (h.1 (t + 1) (dI (14 + x1)))
  else none
  else
  some 0
set_option maxRecDepth 20000 in
set_option maxHeartbeats 4000000 in
theorem t_X8_troublesOf (t : Nat) (ht : XC.1[t]? = some (.inl 8)) (x1 : Int32) (h : dH) : T XC 1 yX8_troublesOf cX8_troublesOf 2 (some .int) (fiP h) [.ref t, .int x1] h (f_X8_troublesOf t x1 h) := by
  refine T_of [.ref t, .int x1] (by decide) (fun _ => rfl) (fun _ => Nat.le_of_ble_eq_true rfl) ?_
  show B XC 1 RX8 cX8_troublesOf 2 (some .int) (fiP h) 0 [.ref t, .int x1] [] h (f_X8_troublesOf t x1 h)
  unfold f_X8_troublesOf
  refine B_aload_n dX8_troublesOf_0 rfl rfl ?_
  refine B_getR dX8_troublesOf_1 fl_X8_15 ht rfl (rfX8_0 _ ht) ?_
  refine B_iload_n dX8_troublesOf_4 rfl rfl ?_
  refine B_VTb (st := []) dX8_troublesOf_5 cl_X8_35 (t_X1_isPlace 3 shC_3 x1 h) (Nat.le_of_ble_eq_true rfl) shC_3 rfl rfl (Nat.le_of_ble_eq_true rfl) ?_
  refine C_ifb_eq (tgt := 23) dX8_troublesOf_8 (by decide) (fun q2 => ?_) (fun q2 => ?_)
  · refine B_iconst dX8_troublesOf_23 ic_0 ?_
    exact B_ireturn dX8_troublesOf_24 rfl rfl
  · refine B_aload_n dX8_troublesOf_11 rfl rfl ?_
    refine B_getR dX8_troublesOf_12 fl_X8_11 ht rfl (rfX8_2 _ ht) ?_
    refine B_bipush dX8_troublesOf_15 bp_14 ?_
    refine B_iload_n dX8_troublesOf_17 rfl rfl ?_
    refine B_iadd dX8_troublesOf_18 ?_
    refine C_chk (fun q1 => ?_)
    refine L_iald dX8_troublesOf_19 (shX8_2 ht) q1 rfl ?_
    refine B_goto (tgt := 24) dX8_troublesOf_20 (by decide) ?_
    exact B_ireturn dX8_troublesOf_24 rfl rfl
def f_X8_isTooMuch (x1 : Int32) (x2 : Int32) (h : dH) : Option (Bool) :=
  (f_X8_troublesOf 66 x1 h).bind fun v1 =>
  (f_X8_patienceOf 66 x1 h).bind fun v2 =>
  if v2 < (v1 + x2) then
  some true
  else
  some false
set_option maxRecDepth 20000 in
set_option maxHeartbeats 4000000 in
theorem t_X8_isTooMuch (x1 : Int32) (x2 : Int32) (h : dH) : T XC 2 yX8_isTooMuch cX8_isTooMuch 3 (some .boolean) (fiB h) [.ref 66, .int x1, .int x2] h (f_X8_isTooMuch x1 x2 h) := by
  refine T_of [.ref 66, .int x1, .int x2] (by decide) (fun _ => rfl) (fun _ => Nat.le_of_ble_eq_true rfl) ?_
  show B XC 2 RX8 cX8_isTooMuch 3 (some .boolean) (fiB h) 0 [.ref 66, .int x1, .int x2] [] h (f_X8_isTooMuch x1 x2 h)
  unfold f_X8_isTooMuch
  refine B_aload_n dX8_isTooMuch_0 rfl rfl ?_
  refine B_iload_n dX8_isTooMuch_1 rfl rfl ?_
  refine B_Vp (st := []) dX8_isTooMuch_2 cl_X8_39 (t_X8_troublesOf 66 shC_66 x1 h) (Nat.le_of_ble_eq_true rfl) shC_66 rfl rfl (Nat.le_of_ble_eq_true rfl) (fun v1 _ => ?_)
  refine B_iload_n dX8_isTooMuch_5 rfl rfl ?_
  refine B_iadd dX8_isTooMuch_6 ?_
  refine B_aload_n dX8_isTooMuch_7 rfl rfl ?_
  refine B_iload_n dX8_isTooMuch_8 rfl rfl ?_
  refine B_Vp (st := [.int (v1 + x2)]) dX8_isTooMuch_9 cl_X8_43 (t_X8_patienceOf 66 shC_66 x1 h) (Nat.le_of_ble_eq_true rfl) shC_66 rfl rfl (Nat.le_of_ble_eq_true rfl) (fun v2 _ => ?_)
  refine C_icmp_le (tgt := 19) dX8_isTooMuch_12 (by decide) (fun q3 => ?_) (fun q3 => ?_)
  · refine B_iconst dX8_isTooMuch_19 ic_0 ?_
    exact B_zreturn dX8_isTooMuch_20 rfl rfl rfl
  · refine B_iconst dX8_isTooMuch_15 ic_1 ?_
    refine B_goto (tgt := 20) dX8_isTooMuch_16 (by decide) ?_
    exact B_zreturn dX8_isTooMuch_20 rfl rfl rfl
def f_X8_tooMuch_J30 (kL4 : Int32 → Int32 → Option (Int32)) (y1 : Int32) (y2 : Int32) (h : dH) : Option (Int32) :=
  kL4 y1 (y2 + 1)
set_option maxRecDepth 20000 in
set_option maxHeartbeats 4000000 in
theorem b_X8_tooMuch_J30 {kL4 : Int32 → Int32 → Option (Int32)} (h : dH) (hkL4 : ∀ (y1 : Int32) (y2 : Int32), B XC 3 RX8 cX8_tooMuch 3 (some .int) (fiP h) 4 [.ref 66, .int y1, .int y2] [] h (kL4 y1 y2)) (y1 : Int32) (y2 : Int32) : B XC 3 RX8 cX8_tooMuch 3 (some .int) (fiP h) 30 [.ref 66, .int y1, .int y2] [] h (f_X8_tooMuch_J30 kL4 y1 y2 h) := by
  unfold f_X8_tooMuch_J30
  refine B_iinc (w := (y2 + 1)) (ls' := [.ref 66, .int y1, .int (y2 + 1)]) dX8_tooMuch_30 rfl (congrArg (fun z => y2 + z) ic_1) (Nat.le_of_ble_eq_true rfl) rfl rfl ?_
  refine B_goto (tgt := 4) dX8_tooMuch_33 (by decide) ?_
  exact hkL4 y1 (y2 + 1)  
def f_X8_tooMuch_L4 (h : dH) : Nat → Int32 → Int32 → Option (Int32)
  | 0, _, _ => none
  | n + 1, y1, y2 =>
    if y2 < (h.1 3 2) then
    (f_X8_isTooMuch y2 0 h).bind fun v1 =>
    if v1 then
    (some ((y1 ||| (1 <<< (y2 &&& 31))))).bind fun v2 =>
    f_X8_tooMuch_J30 (f_X8_tooMuch_L4 h n) v2 y2 h
    else
    f_X8_tooMuch_J30 (f_X8_tooMuch_L4 h n) y1 y2 h
    else
    some y1
set_option maxRecDepth 20000 in
set_option maxHeartbeats 4000000 in
theorem b_X8_tooMuch_L4 (h : dH) : ∀ (n : Nat) (y1 : Int32) (y2 : Int32), B XC 3 RX8 cX8_tooMuch 3 (some .int) (fiP h) 4 [.ref 66, .int y1, .int y2] [] h (f_X8_tooMuch_L4 h n y1 y2) := by
  intro n
  induction n with
  | zero =>
    intro y1 y2
    exact B_none
  | succ n ih =>
    intro y1 y2
    rw [f_X8_tooMuch_L4]
    refine B_iload_n dX8_tooMuch_4 rfl rfl ?_
    refine B_aload_n dX8_tooMuch_5 rfl rfl ?_
    refine B_getR dX8_tooMuch_6 fl_X8_15 shC_66 rfl (rfC_66_0 _) ?_
    refine B_getI dX8_tooMuch_9 fl_X8_46 shC_3 rfl ?_
    refine C_icmp_ge (tgt := 36) dX8_tooMuch_12 (by decide) (fun q4 => ?_) (fun q4 => ?_)
    · refine B_iload_n dX8_tooMuch_36 rfl rfl ?_
      exact B_ireturn dX8_tooMuch_37 rfl rfl
    · refine B_aload_n dX8_tooMuch_15 rfl rfl ?_
      refine B_iload_n dX8_tooMuch_16 rfl rfl ?_
      refine B_iconst dX8_tooMuch_17 ic_0 ?_
      refine B_Vpb (st := []) dX8_tooMuch_18 cl_X8_50 (t_X8_isTooMuch y2 0 h) (Nat.le_of_ble_eq_true rfl) shC_66 rfl rfl (Nat.le_of_ble_eq_true rfl) (fun v1 _ => ?_)
      refine C_ifb_eq (tgt := 30) dX8_tooMuch_21 (by decide) (fun q3 => ?_) (fun q3 => ?_)
      · exact b_X8_tooMuch_J30 h (fun qy1 qy2 => ih qy1 qy2) y1 y2
      · refine B_iload_n dX8_tooMuch_24 rfl rfl ?_
        refine B_iconst dX8_tooMuch_25 ic_1 ?_
        refine B_iload_n dX8_tooMuch_26 rfl rfl ?_
        refine B_ishl dX8_tooMuch_27 ?_
        refine B_ior dX8_tooMuch_28 ?_
        refine B_lv (fun v2 => ?_)
        refine B_istore_n (ls' := [.ref 66, .int v2, .int y2]) dX8_tooMuch_29 rfl (Nat.le_of_ble_eq_true rfl) rfl rfl ?_
        exact b_X8_tooMuch_J30 h (fun qy1 qy2 => ih qy1 qy2) v2 y2
def f_X8_tooMuch (h : dH) : Option (Int32) :=
  f_X8_tooMuch_L4 h dFu 0 0
set_option maxRecDepth 20000 in
set_option maxHeartbeats 4000000 in
theorem t_X8_tooMuch (h : dH) : T XC 3 yX8_tooMuch cX8_tooMuch 3 (some .int) (fiP h) [.ref 66] h (f_X8_tooMuch h) := by
  refine T_of [.ref 66, .null, .null] (by decide) (fun _ => rfl) (fun _ => Nat.le_of_ble_eq_true rfl) ?_
  show B XC 3 RX8 cX8_tooMuch 3 (some .int) (fiP h) 0 [.ref 66, .null, .null] [] h (f_X8_tooMuch h)
  unfold f_X8_tooMuch
  refine B_iconst dX8_tooMuch_0 ic_0 ?_
  refine B_istore_n (ls' := [.ref 66, .int 0, .null]) dX8_tooMuch_1 rfl (Nat.le_of_ble_eq_true rfl) rfl rfl ?_
  refine B_iconst dX8_tooMuch_2 ic_0 ?_
  refine B_istore_n (ls' := [.ref 66, .int 0, .int 0]) dX8_tooMuch_3 rfl (Nat.le_of_ble_eq_true rfl) rfl rfl ?_
  exact b_X8_tooMuch_L4 h dFu 0 0
def f_X4_write (h : dH) : Option (dH) :=
  (f_X4_rowOf (f_X8_daysGone h) h).bind fun v1 =>
  if dIn v1 300 then
  (some (dPut h 73 (dI v1) (f_X8_hour h))).bind fun h3 =>
  if dIn (v1 + 1) 300 then
  (some (dPut h3 73 (dI (v1 + 1)) (f_X8_seenToday h3))).bind fun h5 =>
  (f_X8_tooMuch h5).bind fun v6 =>
  if dIn (v1 + 2) 300 then
  some (dPut h5 73 (dI (v1 + 2)) v6)
  else none
  else none
  else none
set_option maxRecDepth 20000 in
set_option maxHeartbeats 4000000 in
theorem t_X4_write (h : dH) : T XC 4 yX4_write cX4_write 3 none fiV [.ref 72, .ref 66] h (f_X4_write h) := by
  refine T_of [.ref 72, .ref 66, .null] (by decide) (fun _ => rfl) (fun _ => Nat.le_of_ble_eq_true rfl) ?_
  show B XC 4 RX4 cX4_write 3 none fiV 0 [.ref 72, .ref 66, .null] [] h (f_X4_write h)
  unfold f_X4_write
  refine B_aload_n dX4_write_0 rfl rfl ?_
  refine B_Vt (st := []) dX4_write_1 cl_X4_30 (t_X8_daysGone h) (Nat.le_of_ble_eq_true rfl) shC_66 rfl rfl (Nat.le_of_ble_eq_true rfl) ?_
  refine B_Sp (st := []) dX4_write_4 cl_X4_36 (t_X4_rowOf (f_X8_daysGone h) h) (Nat.le_of_ble_eq_true rfl) rfl rfl (Nat.le_of_ble_eq_true rfl) (fun v1 _ => ?_)
  refine B_istore_n (ls' := [.ref 72, .ref 66, .int v1]) dX4_write_7 rfl (Nat.le_of_ble_eq_true rfl) rfl rfl ?_
  refine B_aload_n dX4_write_8 rfl rfl ?_
  refine B_getR dX4_write_9 fl_X4_11 shC_72 rfl (rfC_72_0 _) ?_
  refine B_iload_n dX4_write_12 rfl rfl ?_
  refine B_aload_n dX4_write_13 rfl rfl ?_
  refine B_Vt (st := [.int v1, .ref 73]) dX4_write_14 cl_X4_40 (t_X8_hour h) (Nat.le_of_ble_eq_true rfl) shC_66 rfl rfl (Nat.le_of_ble_eq_true rfl) ?_
  refine C_chk (fun q2 => ?_)
  refine L_iast dX4_write_17 shC_73 q2 rfl ?_
  refine B_lh (fun h3 => ?_)
  refine B_aload_n dX4_write_18 rfl rfl ?_
  refine B_getR dX4_write_19 fl_X4_11 shC_72 rfl (rfC_72_0 _) ?_
  refine B_iload_n dX4_write_22 rfl rfl ?_
  refine B_iconst dX4_write_23 ic_1 ?_
  refine B_iadd dX4_write_24 ?_
  refine B_aload_n dX4_write_25 rfl rfl ?_
  refine B_Vt (st := [.int (v1 + 1), .ref 73]) dX4_write_26 cl_X4_43 (t_X8_seenToday h3) (Nat.le_of_ble_eq_true rfl) shC_66 rfl rfl (Nat.le_of_ble_eq_true rfl) ?_
  refine C_chk (fun q4 => ?_)
  refine L_iast dX4_write_29 shC_73 q4 rfl ?_
  refine B_lh (fun h5 => ?_)
  refine B_aload_n dX4_write_30 rfl rfl ?_
  refine B_getR dX4_write_31 fl_X4_11 shC_72 rfl (rfC_72_0 _) ?_
  refine B_iload_n dX4_write_34 rfl rfl ?_
  refine B_iconst dX4_write_35 ic_2 ?_
  refine B_iadd dX4_write_36 ?_
  refine B_aload_n dX4_write_37 rfl rfl ?_
  refine B_Vp (st := [.int (v1 + 2), .ref 73]) dX4_write_38 cl_X4_46 (t_X8_tooMuch h5) (Nat.le_of_ble_eq_true rfl) shC_66 rfl rfl (Nat.le_of_ble_eq_true rfl) (fun v6 _ => ?_)
  refine C_chk (fun q7 => ?_)
  refine L_iast dX4_write_41 shC_73 q7 rfl ?_
  exact B_return dX4_write_42 rfl rfl
def f_X4_read (x1 : Int32) (x2 : Int32) (x3 : Int32) (h : dH) : Option (Int32) :=
  if x2 < 0 then
  some (-1)
  else
  if x2 < (f_X4_lengthOn x1 h) then
  if x3 < 0 then
  some (-1)
  else
  if x3 < 3 then
  (f_X4_rowOf ((x1 - 1) - x2) h).bind fun v1 =>
  if dIn (v1 + x3) 300 then
  some (h.1 73 (dI (v1 + x3)))
  else none
  else
  some (-1)
  else
  some (-1)
set_option maxRecDepth 20000 in
set_option maxHeartbeats 4000000 in
theorem t_X4_read (x1 : Int32) (x2 : Int32) (x3 : Int32) (h : dH) : T XC 2 yX4_read cX4_read 4 (some .int) (fiP h) [.ref 72, .int x1, .int x2, .int x3] h (f_X4_read x1 x2 x3 h) := by
  refine T_of [.ref 72, .int x1, .int x2, .int x3] (by decide) (fun _ => rfl) (fun _ => Nat.le_of_ble_eq_true rfl) ?_
  show B XC 2 RX4 cX4_read 4 (some .int) (fiP h) 0 [.ref 72, .int x1, .int x2, .int x3] [] h (f_X4_read x1 x2 x3 h)
  unfold f_X4_read
  refine B_iload_n dX4_read_0 rfl rfl ?_
  refine C_if_lt (tgt := 21) dX4_read_1 (by decide) (fun q6 => ?_) (fun q6 => ?_)
  · refine B_iconst dX4_read_21 ic_m1 ?_
    exact B_ireturn dX4_read_22 rfl rfl
  · refine B_iload_n dX4_read_4 rfl rfl ?_
    refine B_iload_n dX4_read_5 rfl rfl ?_
    refine B_St (st := [.int x2]) dX4_read_6 cl_X4_49 (t_X4_lengthOn x1 h) (Nat.le_of_ble_eq_true rfl) rfl rfl (Nat.le_of_ble_eq_true rfl) ?_
    refine C_icmp_ge (tgt := 21) dX4_read_9 (by decide) (fun q5 => ?_) (fun q5 => ?_)
    · refine B_iconst dX4_read_21 ic_m1 ?_
      exact B_ireturn dX4_read_22 rfl rfl
    · refine B_iload_n dX4_read_12 rfl rfl ?_
      refine C_if_lt (tgt := 21) dX4_read_13 (by decide) (fun q4 => ?_) (fun q4 => ?_)
      · refine B_iconst dX4_read_21 ic_m1 ?_
        exact B_ireturn dX4_read_22 rfl rfl
      · refine B_iload_n dX4_read_16 rfl rfl ?_
        refine B_iconst dX4_read_17 ic_3 ?_
        refine C_icmp_lt (tgt := 23) dX4_read_18 (by decide) (fun q3 => ?_) (fun q3 => ?_)
        · refine B_aload_n dX4_read_23 rfl rfl ?_
          refine B_getR dX4_read_24 fl_X4_11 shC_72 rfl (rfC_72_0 _) ?_
          refine B_iload_n dX4_read_27 rfl rfl ?_
          refine B_iconst dX4_read_28 ic_1 ?_
          refine B_isub dX4_read_29 ?_
          refine B_iload_n dX4_read_30 rfl rfl ?_
          refine B_isub dX4_read_31 ?_
          refine B_Sp (st := [.ref 73]) dX4_read_32 cl_X4_36 (t_X4_rowOf ((x1 - 1) - x2) h) (Nat.le_of_ble_eq_true rfl) rfl rfl (Nat.le_of_ble_eq_true rfl) (fun v1 _ => ?_)
          refine B_iload_n dX4_read_35 rfl rfl ?_
          refine B_iadd dX4_read_36 ?_
          refine C_chk (fun q2 => ?_)
          refine L_iald dX4_read_37 shC_73 q2 rfl ?_
          exact B_ireturn dX4_read_38 rfl rfl
        · refine B_iconst dX4_read_21 ic_m1 ?_
          exact B_ireturn dX4_read_22 rfl rfl
def f_X5_keepDraft (h : dH) : Option (Int32 × dH) :=
  if (h.1 42 1) < 4 then
  some ((((dPut h 42 1 ((h.1 42 1) + 1)).1 42 1) - 1), (dPut h 42 1 ((h.1 42 1) + 1)))
  else
  some ((-1), h)
set_option maxRecDepth 20000 in
set_option maxHeartbeats 4000000 in
theorem t_X5_keepDraft (h : dH) : T XC 0 yX5_keepDraft cX5_keepDraft 1 (some .int) fiI [.ref 42] h (f_X5_keepDraft h) := by
  refine T_of [.ref 42] (by decide) (fun _ => rfl) (fun _ => Nat.le_of_ble_eq_true rfl) ?_
  show B XC 0 RX5 cX5_keepDraft 1 (some .int) fiI 0 [.ref 42] [] h (f_X5_keepDraft h)
  unfold f_X5_keepDraft
  refine B_aload_n dX5_keepDraft_0 rfl rfl ?_
  refine B_getI dX5_keepDraft_1 fl_X5_34 shC_42 rfl ?_
  refine B_iconst dX5_keepDraft_4 ic_4 ?_
  refine C_icmp_lt (tgt := 10) dX5_keepDraft_5 (by decide) (fun q1 => ?_) (fun q1 => ?_)
  · refine B_aload_n dX5_keepDraft_10 rfl rfl ?_
    refine B_dup dX5_keepDraft_11 rfl ?_
    refine B_getI dX5_keepDraft_12 fl_X5_34 shC_42 rfl ?_
    refine B_iconst dX5_keepDraft_15 ic_1 ?_
    refine B_iadd dX5_keepDraft_16 ?_
    refine B_putI dX5_keepDraft_17 fl_X5_34 fw_X5_1 shC_42 rfl ?_
    refine B_aload_n dX5_keepDraft_20 rfl rfl ?_
    refine B_getI dX5_keepDraft_21 fl_X5_34 shC_42 rfl ?_
    refine B_iconst dX5_keepDraft_24 ic_1 ?_
    refine B_isub dX5_keepDraft_25 ?_
    exact B_ireturn dX5_keepDraft_26 rfl rfl
  · refine B_iconst dX5_keepDraft_8 ic_m1 ?_
    exact B_ireturn dX5_keepDraft_9 rfl rfl
def f_X5_isNesting (x0 : Int32) (h : dH) : Bool :=
  if x0 = 33 then
  true
  else
  if x0 = 40 then
  true
  else
  false
set_option maxRecDepth 20000 in
set_option maxHeartbeats 4000000 in
theorem t_X5_isNesting (x0 : Int32) (h : dH) : T XC 0 yX5_isNesting cX5_isNesting 1 (some .boolean) (fiB h) [.int x0] h (some (f_X5_isNesting x0 h)) := by
  refine T_of [.int x0] (by decide) (fun _ => rfl) (fun _ => Nat.le_of_ble_eq_true rfl) ?_
  show B XC 0 RX5 cX5_isNesting 1 (some .boolean) (fiB h) 0 [.int x0] [] h (some (f_X5_isNesting x0 h))
  unfold f_X5_isNesting
  refine B_iload_n dX5_isNesting_0 rfl rfl ?_
  refine B_bipush dX5_isNesting_1 bp_33 ?_
  refine C_some ?_
  refine C_icmp_eq (tgt := 12) dX5_isNesting_3 (by decide) (fun q2 => ?_) (fun q2 => ?_)
  · refine B_iconst dX5_isNesting_12 ic_1 ?_
    refine B_goto (tgt := 17) dX5_isNesting_13 (by decide) ?_
    exact B_zreturn dX5_isNesting_17 rfl rfl rfl
  · refine B_iload_n dX5_isNesting_6 rfl rfl ?_
    refine B_bipush dX5_isNesting_7 bp_40 ?_
    refine C_some ?_
    refine C_icmp_ne (tgt := 16) dX5_isNesting_9 (by decide) (fun q1 => ?_) (fun q1 => ?_)
    · refine B_iconst dX5_isNesting_16 ic_0 ?_
      exact B_zreturn dX5_isNesting_17 rfl rfl rfl
    · refine B_iconst dX5_isNesting_12 ic_1 ?_
      refine B_goto (tgt := 17) dX5_isNesting_13 (by decide) ?_
      exact B_zreturn dX5_isNesting_17 rfl rfl rfl
def f_X5_isComparing (x0 : Int32) (h : dH) : Bool :=
  if x0 = 61 then
  true
  else
  if x0 = 60 then
  true
  else
  if x0 = 62 then
  true
  else
  false
set_option maxRecDepth 20000 in
set_option maxHeartbeats 4000000 in
theorem t_X5_isComparing (x0 : Int32) (h : dH) : T XC 0 yX5_isComparing cX5_isComparing 1 (some .boolean) (fiB h) [.int x0] h (some (f_X5_isComparing x0 h)) := by
  refine T_of [.int x0] (by decide) (fun _ => rfl) (fun _ => Nat.le_of_ble_eq_true rfl) ?_
  show B XC 0 RX5 cX5_isComparing 1 (some .boolean) (fiB h) 0 [.int x0] [] h (some (f_X5_isComparing x0 h))
  unfold f_X5_isComparing
  refine B_iload_n dX5_isComparing_0 rfl rfl ?_
  refine B_bipush dX5_isComparing_1 bp_61 ?_
  refine C_some ?_
  refine C_icmp_eq (tgt := 18) dX5_isComparing_3 (by decide) (fun q3 => ?_) (fun q3 => ?_)
  · refine B_iconst dX5_isComparing_18 ic_1 ?_
    refine B_goto (tgt := 23) dX5_isComparing_19 (by decide) ?_
    exact B_zreturn dX5_isComparing_23 rfl rfl rfl
  · refine B_iload_n dX5_isComparing_6 rfl rfl ?_
    refine B_bipush dX5_isComparing_7 bp_60 ?_
    refine C_some ?_
    refine C_icmp_eq (tgt := 18) dX5_isComparing_9 (by decide) (fun q2 => ?_) (fun q2 => ?_)
    · refine B_iconst dX5_isComparing_18 ic_1 ?_
      refine B_goto (tgt := 23) dX5_isComparing_19 (by decide) ?_
      exact B_zreturn dX5_isComparing_23 rfl rfl rfl
    · refine B_iload_n dX5_isComparing_12 rfl rfl ?_
      refine B_bipush dX5_isComparing_13 bp_62 ?_
      refine C_some ?_
      refine C_icmp_ne (tgt := 22) dX5_isComparing_15 (by decide) (fun q1 => ?_) (fun q1 => ?_)
      · refine B_iconst dX5_isComparing_22 ic_0 ?_
        exact B_zreturn dX5_isComparing_23 rfl rfl rfl
      · refine B_iconst dX5_isComparing_18 ic_1 ?_
        refine B_goto (tgt := 23) dX5_isComparing_19 (by decide) ?_
        exact B_zreturn dX5_isComparing_23 rfl rfl rfl
def f_X5_add (x1 : Int32) (h : dH) : Option (dH) :=
  if dIn (h.1 42 1) 5 then
  (some ((h.1 50 (dI (h.1 42 1))))).bind fun v2 =>
  if v2 < 240 then
  if dIn (h.1 42 1) 5 then
  if dIn v2 240 then
  (some (dPut h (45 + dI (h.1 42 1)) (dI v2) x1)).bind fun h5 =>
  if dIn (h5.1 42 1) 5 then
  some (dPut h5 50 (dI (h5.1 42 1)) (v2 + 1))
  else none
  else none
  else none
  else
  some h
  else none
set_option maxRecDepth 20000 in
set_option maxHeartbeats 4000000 in
theorem t_X5_add (x1 : Int32) (h : dH) : T XC 0 yX5_add cX5_add 3 none fiV [.ref 42, .int x1] h (f_X5_add x1 h) := by
  refine T_of [.ref 42, .int x1, .null] (by decide) (fun _ => rfl) (fun _ => Nat.le_of_ble_eq_true rfl) ?_
  show B XC 0 RX5 cX5_add 3 none fiV 0 [.ref 42, .int x1, .null] [] h (f_X5_add x1 h)
  unfold f_X5_add
  refine B_aload_n dX5_add_0 rfl rfl ?_
  refine B_getR dX5_add_1 fl_X5_24 shC_42 rfl (rfC_42_5 _) ?_
  refine B_aload_n dX5_add_4 rfl rfl ?_
  refine B_getI dX5_add_5 fl_X5_34 shC_42 rfl ?_
  refine C_chk (fun q1 => ?_)
  refine L_iald dX5_add_8 shC_50 q1 rfl ?_
  refine B_lv (fun v2 => ?_)
  refine B_istore_n (ls' := [.ref 42, .int x1, .int v2]) dX5_add_9 rfl (Nat.le_of_ble_eq_true rfl) rfl rfl ?_
  refine B_iload_n dX5_add_10 rfl rfl ?_
  refine B_sipush dX5_add_11 sp_240 ?_
  refine C_icmp_ge (tgt := 41) dX5_add_14 (by decide) (fun q7 => ?_) (fun q7 => ?_)
  · exact B_return dX5_add_41 rfl rfl
  · refine B_aload_n dX5_add_17 rfl rfl ?_
    refine B_getR dX5_add_18 fl_X5_21 shC_42 rfl (rfC_42_4 _) ?_
    refine B_aload_n dX5_add_21 rfl rfl ?_
    refine B_getI dX5_add_22 fl_X5_34 shC_42 rfl ?_
    refine C_chk (fun q3 => ?_)
    refine B_aald dX5_add_25 shC_44 q3 (rrC_44 _ q3) ?_
    refine B_iload_n dX5_add_26 rfl rfl ?_
    refine B_iload_n dX5_add_27 rfl rfl ?_
    refine C_chk (fun q4 => ?_)
    refine L_iast dX5_add_28 (rowC_44 q3) q4 rfl ?_
    refine B_lh (fun h5 => ?_)
    refine B_aload_n dX5_add_29 rfl rfl ?_
    refine B_getR dX5_add_30 fl_X5_24 shC_42 rfl (rfC_42_5 _) ?_
    refine B_aload_n dX5_add_33 rfl rfl ?_
    refine B_getI dX5_add_34 fl_X5_34 shC_42 rfl ?_
    refine B_iload_n dX5_add_37 rfl rfl ?_
    refine B_iconst dX5_add_38 ic_1 ?_
    refine B_iadd dX5_add_39 ?_
    refine C_chk (fun q6 => ?_)
    refine L_iast dX5_add_40 shC_50 q6 rfl ?_
    exact B_return dX5_add_41 rfl rfl
def f_X5_joined (x0 : Int32) (x1 : Int64) (x3 : Int64) (h : dH) : Option (Int64) :=
  if x0 = 38 then
  some (x1 &&& x3)
  else
  if x0 = 42 then
  some (x1 * x3)
  else
  if x0 = 43 then
  some (x1 + x3)
  else
  if x0 = 45 then
  some (x1 - x3)
  else
  if x0 = 47 then
  if (lg_cmp x3 0) = 0 then
  some 0
  else
  if ¬ x3 = 0 then
  some (x1 / x3)
  else none
  else
  if x0 = 60 then
  if (lg_cmp x1 x3) < 0 then
  some 1
  else
  some 0
  else
  if x0 = 61 then
  if (lg_cmp x1 x3) = 0 then
  some 1
  else
  some 0
  else
  if x0 = 62 then
  if 0 < (lg_cmp x1 x3) then
  some 1
  else
  some 0
  else
  some (x1 ||| x3)
set_option maxRecDepth 20000 in
set_option maxHeartbeats 4000000 in
theorem t_X5_joined (x0 : Int32) (x1 : Int64) (x3 : Int64) (h : dH) : T XC 0 yX5_joined cX5_joined 5 (some .long) (fiJ h) [.int x0, .long x1, .long x3] h (f_X5_joined x0 x1 x3 h) := by
  refine T_of [.int x0, .long x1, .null, .long x3, .null] (by decide) (fun _ => rfl) (fun _ => Nat.le_of_ble_eq_true rfl) ?_
  show B XC 0 RX5 cX5_joined 5 (some .long) (fiJ h) 0 [.int x0, .long x1, .null, .long x3, .null] [] h (f_X5_joined x0 x1 x3 h)
  unfold f_X5_joined
  refine B_iload_n dX5_joined_0 rfl rfl ?_
  refine C_ite (fun n1_38 => ?_) (fun n1_38 => ?_)
  · refine B_tswIn (tgt := 178) dX5_joined_1 (by rw [n1_38]; decide) (by rw [n1_38]; decide) (by rw [n1_38]; decide) (by decide) ?_
    refine B_lload_n dX5_joined_178 rfl rfl ?_
    refine B_lload_n dX5_joined_179 rfl rfl ?_
    refine B_land dX5_joined_180 ?_
    exact B_lreturn dX5_joined_181 rfl rfl
  · refine C_ite (fun n1_42 => ?_) (fun n1_42 => ?_)
    · refine B_tswIn (tgt := 124) dX5_joined_1 (by rw [n1_42]; decide) (by rw [n1_42]; decide) (by rw [n1_42]; decide) (by decide) ?_
      refine B_lload_n dX5_joined_124 rfl rfl ?_
      refine B_lload_n dX5_joined_125 rfl rfl ?_
      refine B_lmul dX5_joined_126 ?_
      exact B_lreturn dX5_joined_127 rfl rfl
    · refine C_ite (fun n1_43 => ?_) (fun n1_43 => ?_)
      · refine B_tswIn (tgt := 116) dX5_joined_1 (by rw [n1_43]; decide) (by rw [n1_43]; decide) (by rw [n1_43]; decide) (by decide) ?_
        refine B_lload_n dX5_joined_116 rfl rfl ?_
        refine B_lload_n dX5_joined_117 rfl rfl ?_
        refine B_ladd dX5_joined_118 ?_
        exact B_lreturn dX5_joined_119 rfl rfl
      · refine C_ite (fun n1_45 => ?_) (fun n1_45 => ?_)
        · refine B_tswIn (tgt := 120) dX5_joined_1 (by rw [n1_45]; decide) (by rw [n1_45]; decide) (by rw [n1_45]; decide) (by decide) ?_
          refine B_lload_n dX5_joined_120 rfl rfl ?_
          refine B_lload_n dX5_joined_121 rfl rfl ?_
          refine B_lsub dX5_joined_122 ?_
          exact B_lreturn dX5_joined_123 rfl rfl
        · refine C_ite (fun n1_47 => ?_) (fun n1_47 => ?_)
          · refine B_tswIn (tgt := 128) dX5_joined_1 (by rw [n1_47]; decide) (by rw [n1_47]; decide) (by rw [n1_47]; decide) (by decide) ?_
            refine B_lload_n dX5_joined_128 rfl rfl ?_
            refine B_lconst (v := 0) dX5_joined_129 (by decide) ?_
            refine B_lcmp dX5_joined_130 ?_
            refine C_if_ne (tgt := 138) dX5_joined_131 (by decide) (fun q3 => ?_) (fun q3 => ?_)
            · refine B_lload_n dX5_joined_138 rfl rfl ?_
              refine B_lload_n dX5_joined_139 rfl rfl ?_
              refine C_chk (fun q2 => ?_)
              refine B_ldiv dX5_joined_140 q2 ?_
              exact B_lreturn dX5_joined_141 rfl rfl
            · refine B_lconst (v := 0) dX5_joined_134 (by decide) ?_
              refine B_goto (tgt := 141) dX5_joined_135 (by decide) ?_
              exact B_lreturn dX5_joined_141 rfl rfl
          · refine C_ite (fun n1_60 => ?_) (fun n1_60 => ?_)
            · refine B_tswIn (tgt := 154) dX5_joined_1 (by rw [n1_60]; decide) (by rw [n1_60]; decide) (by rw [n1_60]; decide) (by decide) ?_
              refine B_lload_n dX5_joined_154 rfl rfl ?_
              refine B_lload_n dX5_joined_155 rfl rfl ?_
              refine B_lcmp dX5_joined_156 ?_
              refine C_if_ge (tgt := 164) dX5_joined_157 (by decide) (fun q4 => ?_) (fun q4 => ?_)
              · refine B_lconst (v := 0) dX5_joined_164 (by decide) ?_
                exact B_lreturn dX5_joined_165 rfl rfl
              · refine B_lconst (v := 1) dX5_joined_160 (by decide) ?_
                refine B_goto (tgt := 165) dX5_joined_161 (by decide) ?_
                exact B_lreturn dX5_joined_165 rfl rfl
            · refine C_ite (fun n1_61 => ?_) (fun n1_61 => ?_)
              · refine B_tswIn (tgt := 142) dX5_joined_1 (by rw [n1_61]; decide) (by rw [n1_61]; decide) (by rw [n1_61]; decide) (by decide) ?_
                refine B_lload_n dX5_joined_142 rfl rfl ?_
                refine B_lload_n dX5_joined_143 rfl rfl ?_
                refine B_lcmp dX5_joined_144 ?_
                refine C_if_ne (tgt := 152) dX5_joined_145 (by decide) (fun q5 => ?_) (fun q5 => ?_)
                · refine B_lconst (v := 0) dX5_joined_152 (by decide) ?_
                  exact B_lreturn dX5_joined_153 rfl rfl
                · refine B_lconst (v := 1) dX5_joined_148 (by decide) ?_
                  refine B_goto (tgt := 153) dX5_joined_149 (by decide) ?_
                  exact B_lreturn dX5_joined_153 rfl rfl
              · refine C_ite (fun n1_62 => ?_) (fun n1_62 => ?_)
                · refine B_tswIn (tgt := 166) dX5_joined_1 (by rw [n1_62]; decide) (by rw [n1_62]; decide) (by rw [n1_62]; decide) (by decide) ?_
                  refine B_lload_n dX5_joined_166 rfl rfl ?_
                  refine B_lload_n dX5_joined_167 rfl rfl ?_
                  refine B_lcmp dX5_joined_168 ?_
                  refine C_if_le (tgt := 176) dX5_joined_169 (by decide) (fun q6 => ?_) (fun q6 => ?_)
                  · refine B_lconst (v := 0) dX5_joined_176 (by decide) ?_
                    exact B_lreturn dX5_joined_177 rfl rfl
                  · refine B_lconst (v := 1) dX5_joined_172 (by decide) ?_
                    refine B_goto (tgt := 177) dX5_joined_173 (by decide) ?_
                    exact B_lreturn dX5_joined_177 rfl rfl
                · have kdef : B XC 0 RX5 cX5_joined 5 (some .long) (fiJ h) 182 [.int x0, .long x1, .null, .long x3, .null] [] h (some (x1 ||| x3)) := by
                    refine B_lload_n dX5_joined_182 rfl rfl ?_
                    refine B_lload_n dX5_joined_183 rfl rfl ?_
                    refine B_lor dX5_joined_184 ?_
                    exact B_lreturn dX5_joined_185 rfl rfl
                  by_cases en1_39 : x0 = 39
                  · exact B_tswIn (tgt := 182) dX5_joined_1 (by rw [en1_39]; decide) (by rw [en1_39]; decide) (by rw [en1_39]; decide) (by decide) kdef
                  by_cases en1_40 : x0 = 40
                  · exact B_tswIn (tgt := 182) dX5_joined_1 (by rw [en1_40]; decide) (by rw [en1_40]; decide) (by rw [en1_40]; decide) (by decide) kdef
                  by_cases en1_41 : x0 = 41
                  · exact B_tswIn (tgt := 182) dX5_joined_1 (by rw [en1_41]; decide) (by rw [en1_41]; decide) (by rw [en1_41]; decide) (by decide) kdef
                  by_cases en1_44 : x0 = 44
                  · exact B_tswIn (tgt := 182) dX5_joined_1 (by rw [en1_44]; decide) (by rw [en1_44]; decide) (by rw [en1_44]; decide) (by decide) kdef
                  by_cases en1_46 : x0 = 46
                  · exact B_tswIn (tgt := 182) dX5_joined_1 (by rw [en1_46]; decide) (by rw [en1_46]; decide) (by rw [en1_46]; decide) (by decide) kdef
                  by_cases en1_48 : x0 = 48
                  · exact B_tswIn (tgt := 182) dX5_joined_1 (by rw [en1_48]; decide) (by rw [en1_48]; decide) (by rw [en1_48]; decide) (by decide) kdef
                  by_cases en1_49 : x0 = 49
                  · exact B_tswIn (tgt := 182) dX5_joined_1 (by rw [en1_49]; decide) (by rw [en1_49]; decide) (by rw [en1_49]; decide) (by decide) kdef
                  by_cases en1_50 : x0 = 50
                  · exact B_tswIn (tgt := 182) dX5_joined_1 (by rw [en1_50]; decide) (by rw [en1_50]; decide) (by rw [en1_50]; decide) (by decide) kdef
                  by_cases en1_51 : x0 = 51
                  · exact B_tswIn (tgt := 182) dX5_joined_1 (by rw [en1_51]; decide) (by rw [en1_51]; decide) (by rw [en1_51]; decide) (by decide) kdef
                  by_cases en1_52 : x0 = 52
                  · exact B_tswIn (tgt := 182) dX5_joined_1 (by rw [en1_52]; decide) (by rw [en1_52]; decide) (by rw [en1_52]; decide) (by decide) kdef
                  by_cases en1_53 : x0 = 53
                  · exact B_tswIn (tgt := 182) dX5_joined_1 (by rw [en1_53]; decide) (by rw [en1_53]; decide) (by rw [en1_53]; decide) (by decide) kdef
                  by_cases en1_54 : x0 = 54
                  · exact B_tswIn (tgt := 182) dX5_joined_1 (by rw [en1_54]; decide) (by rw [en1_54]; decide) (by rw [en1_54]; decide) (by decide) kdef
                  by_cases en1_55 : x0 = 55
                  · exact B_tswIn (tgt := 182) dX5_joined_1 (by rw [en1_55]; decide) (by rw [en1_55]; decide) (by rw [en1_55]; decide) (by decide) kdef
                  by_cases en1_56 : x0 = 56
                  · exact B_tswIn (tgt := 182) dX5_joined_1 (by rw [en1_56]; decide) (by rw [en1_56]; decide) (by rw [en1_56]; decide) (by decide) kdef
                  by_cases en1_57 : x0 = 57
                  · exact B_tswIn (tgt := 182) dX5_joined_1 (by rw [en1_57]; decide) (by rw [en1_57]; decide) (by rw [en1_57]; decide) (by decide) kdef
                  by_cases en1_58 : x0 = 58
                  · exact B_tswIn (tgt := 182) dX5_joined_1 (by rw [en1_58]; decide) (by rw [en1_58]; decide) (by rw [en1_58]; decide) (by decide) kdef
                  by_cases en1_59 : x0 = 59
                  · exact B_tswIn (tgt := 182) dX5_joined_1 (by rw [en1_59]; decide) (by rw [en1_59]; decide) (by rw [en1_59]; decide) (by decide) kdef
                  refine B_tswOut (tgt := 182) dX5_joined_1 (dsw (fun c h1 h2 => ?_)) (by decide) kdef
                  rcases (show c = 38 ∨ c = 39 ∨ c = 40 ∨ c = 41 ∨ c = 42 ∨ c = 43 ∨ c = 44 ∨ c = 45 ∨ c = 46 ∨ c = 47 ∨ c = 48 ∨ c = 49 ∨ c = 50 ∨ c = 51 ∨ c = 52 ∨ c = 53 ∨ c = 54 ∨ c = 55 ∨ c = 56 ∨ c = 57 ∨ c = 58 ∨ c = 59 ∨ c = 60 ∨ c = 61 ∨ c = 62 by omega) with rfl | rfl | rfl | rfl | rfl | rfl | rfl | rfl | rfl | rfl | rfl | rfl | rfl | rfl | rfl | rfl | rfl | rfl | rfl | rfl | rfl | rfl | rfl | rfl | rfl
                  · exact n1_38
                  · exact en1_39
                  · exact en1_40
                  · exact en1_41
                  · exact n1_42
                  · exact n1_43
                  · exact en1_44
                  · exact n1_45
                  · exact en1_46
                  · exact n1_47
                  · exact en1_48
                  · exact en1_49
                  · exact en1_50
                  · exact en1_51
                  · exact en1_52
                  · exact en1_53
                  · exact en1_54
                  · exact en1_55
                  · exact en1_56
                  · exact en1_57
                  · exact en1_58
                  · exact en1_59
                  · exact n1_60
                  · exact n1_61
                  · exact n1_62
def f_X11_held (x0 : Int32) (x1 : Int32) (x2 : Int64) (h : dH) : Int32 :=
  if (lg_cmp x2 ((x0 : Int32).toInt64)) < 0 then
  x0
  else
  if 0 < (lg_cmp x2 ((x1 : Int32).toInt64)) then
  x1
  else
  (x2 : Int64).toInt32
set_option maxRecDepth 20000 in
set_option maxHeartbeats 4000000 in
theorem t_X11_held (x0 : Int32) (x1 : Int32) (x2 : Int64) (h : dH) : T XC 0 yX11_held cX11_held 4 (some .int) (fiP h) [.int x0, .int x1, .long x2] h (some (f_X11_held x0 x1 x2 h)) := by
  refine T_of [.int x0, .int x1, .long x2, .null] (by decide) (fun _ => rfl) (fun _ => Nat.le_of_ble_eq_true rfl) ?_
  show B XC 0 RX11 cX11_held 4 (some .int) (fiP h) 0 [.int x0, .int x1, .long x2, .null] [] h (some (f_X11_held x0 x1 x2 h))
  unfold f_X11_held
  refine B_lload_n dX11_held_0 rfl rfl ?_
  refine B_iload_n dX11_held_1 rfl rfl ?_
  refine B_i2l dX11_held_2 ?_
  refine B_lcmp dX11_held_3 ?_
  refine C_some ?_
  refine C_if_ge (tgt := 11) dX11_held_4 (by decide) (fun q2 => ?_) (fun q2 => ?_)
  · refine B_lload_n dX11_held_11 rfl rfl ?_
    refine B_iload_n dX11_held_12 rfl rfl ?_
    refine B_i2l dX11_held_13 ?_
    refine B_lcmp dX11_held_14 ?_
    refine C_some ?_
    refine C_if_le (tgt := 22) dX11_held_15 (by decide) (fun q1 => ?_) (fun q1 => ?_)
    · refine B_lload_n dX11_held_22 rfl rfl ?_
      refine B_l2i dX11_held_23 ?_
      exact B_ireturn dX11_held_24 rfl rfl
    · refine B_iload_n dX11_held_18 rfl rfl ?_
      refine B_goto (tgt := 24) dX11_held_19 (by decide) ?_
      exact B_ireturn dX11_held_24 rfl rfl
  · refine B_iload_n dX11_held_7 rfl rfl ?_
    refine B_goto (tgt := 24) dX11_held_8 (by decide) ?_
    exact B_ireturn dX11_held_24 rfl rfl
def f_X5_worth_J249 (kL37 : Nat → Int32 → Bool → Int32 → dH → Option (Int32 × dH)) (y1 : Nat) (y2 : Int32) (y3 : Bool) (y4 : Int32) (h : dH) : Option (Int32 × dH) :=
  kL37 y1 y2 y3 (y4 + 1) h
set_option maxRecDepth 20000 in
set_option maxHeartbeats 4000000 in
theorem b_X5_worth_J249 {kL37 : Nat → Int32 → Bool → Int32 → dH → Option (Int32 × dH)} (hkL37 : ∀ (y1 : Nat) (y2 : Int32) (y3 : Bool) (y4 : Int32) (hy1 : XC.1[y1]? = some (.inr (0, 240))) (h : dH), B XC 1 RX5 cX5_worth 6 (some .int) fiI 37 [.ref 42, .ref y1, .int y2, .int (bi y3), .int y4, .null] [] h (kL37 y1 y2 y3 y4 h)) (y1 : Nat) (y2 : Int32) (y3 : Bool) (y4 : Int32) (hy1 : XC.1[y1]? = some (.inr (0, 240))) (h : dH) : B XC 1 RX5 cX5_worth 6 (some .int) fiI 249 [.ref 42, .ref y1, .int y2, .int (bi y3), .int y4, .null] [] h (f_X5_worth_J249 kL37 y1 y2 y3 y4 h) := by
  unfold f_X5_worth_J249
  refine B_iinc (w := (y4 + 1)) (ls' := [.ref 42, .ref y1, .int y2, .int (bi y3), .int (y4 + 1), .null]) dX5_worth_249 rfl (congrArg (fun z => y4 + z) ic_1) (Nat.le_of_ble_eq_true rfl) rfl rfl ?_
  refine B_goto (tgt := 37) dX5_worth_252 (by decide) ?_
  exact hkL37 y1 y2 y3 (y4 + 1) hy1 h
def f_X5_worth_J73 (kL37 : Nat → Int32 → Bool → Int32 → dH → Option (Int32 × dH)) (y1 : Nat) (y2 : Int32) (y4 : Int32) (z0 : Bool) (h : dH) : Option (Int32 × dH) :=
  f_X5_worth_J249 kL37 y1 y2 z0 y4 h
set_option maxRecDepth 20000 in
set_option maxHeartbeats 4000000 in
theorem b_X5_worth_J73 {kL37 : Nat → Int32 → Bool → Int32 → dH → Option (Int32 × dH)} (hkL37 : ∀ (y1 : Nat) (y2 : Int32) (y3 : Bool) (y4 : Int32) (hy1 : XC.1[y1]? = some (.inr (0, 240))) (h : dH), B XC 1 RX5 cX5_worth 6 (some .int) fiI 37 [.ref 42, .ref y1, .int y2, .int (bi y3), .int y4, .null] [] h (kL37 y1 y2 y3 y4 h)) (y1 : Nat) (y2 : Int32) (y4 : Int32) (z0 : Bool) (hy1 : XC.1[y1]? = some (.inr (0, 240))) (h : dH) : B XC 1 RX5 cX5_worth 6 (some .int) fiI 73 [.ref 42, .ref y1, .int y2, .null, .int y4, .null] [.int (bi z0)] h (f_X5_worth_J73 kL37 y1 y2 y4 z0 h) := by
  unfold f_X5_worth_J73
  refine B_istore_n (ls' := [.ref 42, .ref y1, .int y2, .int (bi z0), .int y4, .null]) dX5_worth_73 rfl (Nat.le_of_ble_eq_true rfl) rfl rfl ?_
  refine B_goto (tgt := 249) dX5_worth_74 (by decide) ?_
  exact b_X5_worth_J249 hkL37 y1 y2 z0 y4 hy1 h
def f_X5_worth_J118 (kL37 : Nat → Int32 → Bool → Int32 → dH → Option (Int32 × dH)) (y1 : Nat) (y2 : Int32) (y3 : Bool) (y4 : Int32) (z1 : Int32) (z2 : Int32) (h : dH) : Option (Int32 × dH) :=
  if dIn z1 64 then
  (some (dPut h 51 (dI z1) z2)).bind fun h33 =>
  f_X5_worth_J249 kL37 y1 (y2 + 1) y3 y4 h33
  else none
set_option maxRecDepth 20000 in
set_option maxHeartbeats 4000000 in
theorem b_X5_worth_J118 {kL37 : Nat → Int32 → Bool → Int32 → dH → Option (Int32 × dH)} (hkL37 : ∀ (y1 : Nat) (y2 : Int32) (y3 : Bool) (y4 : Int32) (hy1 : XC.1[y1]? = some (.inr (0, 240))) (h : dH), B XC 1 RX5 cX5_worth 6 (some .int) fiI 37 [.ref 42, .ref y1, .int y2, .int (bi y3), .int y4, .null] [] h (kL37 y1 y2 y3 y4 h)) (y1 : Nat) (y2 : Int32) (y3 : Bool) (y4 : Int32) (z1 : Int32) (z2 : Int32) (hy1 : XC.1[y1]? = some (.inr (0, 240))) (h : dH) : B XC 1 RX5 cX5_worth 6 (some .int) fiI 118 [.ref 42, .ref y1, .int y2, .int (bi y3), .int y4, .null] [.int z2, .int z1, .ref 51] h (f_X5_worth_J118 kL37 y1 y2 y3 y4 z1 z2 h) := by
  unfold f_X5_worth_J118
  refine C_chk (fun q32 => ?_)
  refine L_iast dX5_worth_118 shC_51 q32 rfl ?_
  refine B_lh (fun h33 => ?_)
  refine B_iinc (w := (y2 + 1)) (ls' := [.ref 42, .ref y1, .int (y2 + 1), .int (bi y3), .int y4, .null]) dX5_worth_119 rfl (congrArg (fun z => y2 + z) ic_1) (Nat.le_of_ble_eq_true rfl) rfl rfl ?_
  refine B_goto (tgt := 249) dX5_worth_122 (by decide) ?_
  exact b_X5_worth_J249 hkL37 y1 (y2 + 1) y3 y4 hy1 h33
def f_X5_worth_J172 (kL37 : Nat → Int32 → Bool → Int32 → dH → Option (Int32 × dH)) (y1 : Nat) (y2 : Int32) (y4 : Int32) (z0 : Bool) (h : dH) : Option (Int32 × dH) :=
  f_X5_worth_J249 kL37 y1 y2 z0 y4 h
set_option maxRecDepth 20000 in
set_option maxHeartbeats 4000000 in
theorem b_X5_worth_J172 {kL37 : Nat → Int32 → Bool → Int32 → dH → Option (Int32 × dH)} (hkL37 : ∀ (y1 : Nat) (y2 : Int32) (y3 : Bool) (y4 : Int32) (hy1 : XC.1[y1]? = some (.inr (0, 240))) (h : dH), B XC 1 RX5 cX5_worth 6 (some .int) fiI 37 [.ref 42, .ref y1, .int y2, .int (bi y3), .int y4, .null] [] h (kL37 y1 y2 y3 y4 h)) (y1 : Nat) (y2 : Int32) (y4 : Int32) (z0 : Bool) (hy1 : XC.1[y1]? = some (.inr (0, 240))) (h : dH) : B XC 1 RX5 cX5_worth 6 (some .int) fiI 172 [.ref 42, .ref y1, .int y2, .null, .int y4, .null] [.int (bi z0)] h (f_X5_worth_J172 kL37 y1 y2 y4 z0 h) := by
  unfold f_X5_worth_J172
  refine B_istore_n (ls' := [.ref 42, .ref y1, .int y2, .int (bi z0), .int y4, .null]) dX5_worth_172 rfl (Nat.le_of_ble_eq_true rfl) rfl rfl ?_
  refine B_goto (tgt := 249) dX5_worth_173 (by decide) ?_
  exact b_X5_worth_J249 hkL37 y1 y2 z0 y4 hy1 h
def f_X5_worth_J125 (kL37 : Nat → Int32 → Bool → Int32 → dH → Option (Int32 × dH)) (y1 : Nat) (y2 : Int32) (y3 : Bool) (y4 : Int32) (y5 : Int32) (h : dH) : Option (Int32 × dH) :=
  if y2 < 1 then
  some (0, h)
  else
  if y5 = (-59) then
  if dIn (y2 - 1) 64 then
  some ((h.1 51 (dI (y2 - 1))), h)
  else none
  else
  if y5 = (-63) then
  if dIn (y2 + (-1)) 64 then
  if (h.1 51 (dI (y2 + (-1)))) = 0 then
  f_X5_worth_J172 kL37 y1 (y2 + (-1)) y4 true h
  else
  f_X5_worth_J172 kL37 y1 (y2 + (-1)) y4 false h
  else none
  else
  if y5 = (-33) then
  if dIn (y2 - 1) 64 then
  if dIn (y2 - 1) 64 then
  (some (dPut h 51 (dI (y2 - 1)) (1 - (h.1 51 (dI (y2 - 1)))))).bind fun h24 =>
  f_X5_worth_J249 kL37 y1 y2 y3 y4 h24
  else none
  else none
  else
  if 1 < y2 then
  if dIn ((y2 + (-1)) - 1) 64 then
  if dIn (y2 + (-1)) 64 then
  (f_X5_joined (-y5) (((h.1 51 (dI ((y2 + (-1)) - 1))) : Int32).toInt64) (((h.1 51 (dI (y2 + (-1)))) : Int32).toInt64) h).bind fun rv17 =>
  if dIn ((y2 + (-1)) - 1) 64 then
  (some (dPut rv17.2 51 (dI ((y2 + (-1)) - 1)) (f_X11_held (-1000000) 1000000 (bi rv17.1) rv17.2))).bind fun h20 =>
  f_X5_worth_J249 kL37 y1 (y2 + (-1)) y3 y4 h20
  else none
  else none
  else none
  else
  f_X5_worth_J249 kL37 y1 y2 y3 y4 h
set_option maxRecDepth 20000 in
set_option maxHeartbeats 4000000 in
theorem b_X5_worth_J125 {kL37 : Nat → Int32 → Bool → Int32 → dH → Option (Int32 × dH)} (hkL37 : ∀ (y1 : Nat) (y2 : Int32) (y3 : Bool) (y4 : Int32) (hy1 : XC.1[y1]? = some (.inr (0, 240))) (h : dH), B XC 1 RX5 cX5_worth 6 (some .int) fiI 37 [.ref 42, .ref y1, .int y2, .int (bi y3), .int y4, .null] [] h (kL37 y1 y2 y3 y4 h)) (y1 : Nat) (y2 : Int32) (y3 : Bool) (y4 : Int32) (y5 : Int32) (hy1 : XC.1[y1]? = some (.inr (0, 240))) (h : dH) : B XC 1 RX5 cX5_worth 6 (some .int) fiI 125 [.ref 42, .ref y1, .int y2, .int (bi y3), .int y4, .int y5] [] h (f_X5_worth_J125 kL37 y1 y2 y3 y4 y5 h) := by
  unfold f_X5_worth_J125
  refine B_iload_n dX5_worth_125 rfl rfl ?_
  refine B_iconst dX5_worth_126 ic_1 ?_
  refine C_icmp_ge (tgt := 132) dX5_worth_127 (by decide) (fun q31 => ?_) (fun q31 => ?_)
  · refine B_iload dX5_worth_132 rfl ?_
    refine B_bipush dX5_worth_134 bp_m59 ?_
    refine C_icmp_ne (tgt := 148) dX5_worth_136 (by decide) (fun q30 => ?_) (fun q30 => ?_)
    · refine B_iload dX5_worth_148 rfl ?_
      refine B_bipush dX5_worth_150 bp_m63 ?_
      refine C_icmp_ne (tgt := 176) dX5_worth_152 (by decide) (fun q28 => ?_) (fun q28 => ?_)
      · refine B_iload dX5_worth_176 rfl ?_
        refine B_bipush dX5_worth_178 bp_m33 ?_
        refine C_icmp_ne (tgt := 204) dX5_worth_180 (by decide) (fun q25 => ?_) (fun q25 => ?_)
        · refine B_iload_n dX5_worth_204 rfl rfl ?_
          refine B_iconst dX5_worth_205 ic_1 ?_
          refine C_icmp_le (tgt := 249) dX5_worth_206 (by decide) (fun q21 => ?_) (fun q21 => ?_)
          · refine B_drop 5 (ls' := [.ref 42, .ref y1, .int y2, .int (bi y3), .int y4, .null]) rfl ?_
            exact b_X5_worth_J249 hkL37 y1 y2 y3 y4 hy1 h
          · refine B_iinc (w := (y2 + (-1))) (ls' := [.ref 42, .ref y1, .int (y2 + (-1)), .int (bi y3), .int y4, .int y5]) dX5_worth_209 rfl (congrArg (fun z => y2 + z) ic_m1) (Nat.le_of_ble_eq_true rfl) rfl rfl ?_
            refine B_aload_n dX5_worth_212 rfl rfl ?_
            refine B_getR dX5_worth_213 fl_X5_27 shC_42 rfl (rfC_42_6 _) ?_
            refine B_iload_n dX5_worth_216 rfl rfl ?_
            refine B_iconst dX5_worth_217 ic_1 ?_
            refine B_isub dX5_worth_218 ?_
            refine B_ldc dX5_worth_219 kc_X5_100 ?_
            refine B_ldc dX5_worth_221 kc_X5_101 ?_
            refine B_iload dX5_worth_223 rfl ?_
            refine B_ineg dX5_worth_225 ?_
            refine B_aload_n dX5_worth_226 rfl rfl ?_
            refine B_getR dX5_worth_227 fl_X5_27 shC_42 rfl (rfC_42_6 _) ?_
            refine B_iload_n dX5_worth_230 rfl rfl ?_
            refine B_iconst dX5_worth_231 ic_1 ?_
            refine B_isub dX5_worth_232 ?_
            refine C_chk (fun q14 => ?_)
            refine L_iald dX5_worth_233 shC_51 q14 rfl ?_
            refine B_i2l dX5_worth_234 ?_
            refine B_aload_n dX5_worth_235 rfl rfl ?_
            refine B_getR dX5_worth_236 fl_X5_27 shC_42 rfl (rfC_42_6 _) ?_
            refine B_iload_n dX5_worth_239 rfl rfl ?_
            refine C_chk (fun q15 => ?_)
            refine L_iald dX5_worth_240 shC_51 q15 rfl ?_
            refine B_i2l dX5_worth_241 ?_
            refine B_SC (st := [.int 1000000, .int (-1000000), .int ((y2 + (-1)) - 1), .ref 51]) dX5_worth_242 cl_X5_102 (t_X5_joined (-y5) (((h.1 51 (dI ((y2 + (-1)) - 1))) : Int32).toInt64) (((h.1 51 (dI (y2 + (-1)))) : Int32).toInt64) h) (Nat.le_of_ble_eq_true rfl) rfl rfl (Nat.le_of_ble_eq_true rfl) (fun v17 h18 _ => ?_)
            refine B_Nt (st := [.int ((y2 + (-1)) - 1), .ref 51]) dX5_worth_245 cl_X5_106 (t_X11_held (-1000000) 1000000 (bi v17) h18) (Nat.le_of_ble_eq_true rfl) rfl rfl (Nat.le_of_ble_eq_true rfl) ?_
            refine C_chk (fun q19 => ?_)
            refine L_iast dX5_worth_248 shC_51 q19 rfl ?_
            refine B_lh (fun h20 => ?_)
            refine B_drop 5 (ls' := [.ref 42, .ref y1, .int (y2 + (-1)), .int (bi y3), .int y4, .null]) rfl ?_
            exact b_X5_worth_J249 hkL37 y1 (y2 + (-1)) y3 y4 hy1 h20
        · refine B_aload_n dX5_worth_183 rfl rfl ?_
          refine B_getR dX5_worth_184 fl_X5_27 shC_42 rfl (rfC_42_6 _) ?_
          refine B_iload_n dX5_worth_187 rfl rfl ?_
          refine B_iconst dX5_worth_188 ic_1 ?_
          refine B_isub dX5_worth_189 ?_
          refine B_iconst dX5_worth_190 ic_1 ?_
          refine B_aload_n dX5_worth_191 rfl rfl ?_
          refine B_getR dX5_worth_192 fl_X5_27 shC_42 rfl (rfC_42_6 _) ?_
          refine B_iload_n dX5_worth_195 rfl rfl ?_
          refine B_iconst dX5_worth_196 ic_1 ?_
          refine B_isub dX5_worth_197 ?_
          refine C_chk (fun q22 => ?_)
          refine L_iald dX5_worth_198 shC_51 q22 rfl ?_
          refine B_isub dX5_worth_199 ?_
          refine C_chk (fun q23 => ?_)
          refine L_iast dX5_worth_200 shC_51 q23 rfl ?_
          refine B_lh (fun h24 => ?_)
          refine B_goto (tgt := 249) dX5_worth_201 (by decide) ?_
          refine B_drop 5 (ls' := [.ref 42, .ref y1, .int y2, .int (bi y3), .int y4, .null]) rfl ?_
          exact b_X5_worth_J249 hkL37 y1 y2 y3 y4 hy1 h24
      · refine B_iinc (w := (y2 + (-1))) (ls' := [.ref 42, .ref y1, .int (y2 + (-1)), .int (bi y3), .int y4, .int y5]) dX5_worth_155 rfl (congrArg (fun z => y2 + z) ic_m1) (Nat.le_of_ble_eq_true rfl) rfl rfl ?_
        refine B_aload_n dX5_worth_158 rfl rfl ?_
        refine B_getR dX5_worth_159 fl_X5_27 shC_42 rfl (rfC_42_6 _) ?_
        refine B_iload_n dX5_worth_162 rfl rfl ?_
        refine C_chk (fun q26 => ?_)
        refine L_iald dX5_worth_163 shC_51 q26 rfl ?_
        refine C_if_ne (tgt := 171) dX5_worth_164 (by decide) (fun q27 => ?_) (fun q27 => ?_)
        · refine B_iconst dX5_worth_171 ic_0 ?_
          refine B_drop 3 (ls' := [.ref 42, .ref y1, .int (y2 + (-1)), .null, .int y4, .int y5]) rfl ?_
          refine B_drop 5 (ls' := [.ref 42, .ref y1, .int (y2 + (-1)), .null, .int y4, .null]) rfl ?_
          exact b_X5_worth_J172 hkL37 y1 (y2 + (-1)) y4 false hy1 h
        · refine B_iconst dX5_worth_167 ic_1 ?_
          refine B_goto (tgt := 172) dX5_worth_168 (by decide) ?_
          refine B_drop 3 (ls' := [.ref 42, .ref y1, .int (y2 + (-1)), .null, .int y4, .int y5]) rfl ?_
          refine B_drop 5 (ls' := [.ref 42, .ref y1, .int (y2 + (-1)), .null, .int y4, .null]) rfl ?_
          exact b_X5_worth_J172 hkL37 y1 (y2 + (-1)) y4 true hy1 h
    · refine B_aload_n dX5_worth_139 rfl rfl ?_
      refine B_getR dX5_worth_140 fl_X5_27 shC_42 rfl (rfC_42_6 _) ?_
      refine B_iload_n dX5_worth_143 rfl rfl ?_
      refine B_iconst dX5_worth_144 ic_1 ?_
      refine B_isub dX5_worth_145 ?_
      refine C_chk (fun q29 => ?_)
      refine L_iald dX5_worth_146 shC_51 q29 rfl ?_
      exact B_ireturn dX5_worth_147 rfl rfl
  · refine B_iconst dX5_worth_130 ic_0 ?_
    exact B_ireturn dX5_worth_131 rfl rfl
def f_X5_worth_L37 : Nat → Nat → Int32 → Bool → Int32 → dH → Option (Int32 × dH)
  | 0, _, _, _, _, _ => none
  | n + 1, y1, y2, y3, y4, h =>
    if dIn (h.1 42 2) 5 then
    if y4 < (h.1 50 (dI (h.1 42 2))) then
    if dIn y4 240 then
    (some ((h.1 y1 (dI y4)))).bind fun v6 =>
    if y3 then
    if v6 = (-59) then
    f_X5_worth_J73 (f_X5_worth_L37 n) y1 y2 y4 false h
    else
    f_X5_worth_J73 (f_X5_worth_L37 n) y1 y2 y4 true h
    else
    if v6 < (-6) then
    f_X5_worth_J125 (f_X5_worth_L37 n) y1 y2 y3 y4 v6 h
    else
    if y2 < 64 then
    if v6 < 0 then
    if dIn ((-1) - v6) 6 then
    f_X5_worth_J118 (f_X5_worth_L37 n) y1 y2 y3 y4 y2 (h.1 43 (dI ((-1) - v6))) h
    else none
    else
    f_X5_worth_J118 (f_X5_worth_L37 n) y1 y2 y3 y4 y2 v6 h
    else
    f_X5_worth_J125 (f_X5_worth_L37 n) y1 y2 y3 y4 v6 h
    else none
    else
    some (0, h)
    else none
set_option maxRecDepth 20000 in
set_option maxHeartbeats 4000000 in
theorem b_X5_worth_L37 : ∀ (n : Nat) (y1 : Nat) (y2 : Int32) (y3 : Bool) (y4 : Int32) (hy1 : XC.1[y1]? = some (.inr (0, 240))) (h : dH), B XC 1 RX5 cX5_worth 6 (some .int) fiI 37 [.ref 42, .ref y1, .int y2, .int (bi y3), .int y4, .null] [] h (f_X5_worth_L37 n y1 y2 y3 y4 h) := by
  intro n
  induction n with
  | zero =>
    intro y1 y2 y3 y4 hy1 h
    exact B_none
  | succ n ih =>
    intro y1 y2 y3 y4 hy1 h
    rw [f_X5_worth_L37]
    refine B_iload dX5_worth_37 rfl ?_
    refine B_aload_n dX5_worth_39 rfl rfl ?_
    refine B_getR dX5_worth_40 fl_X5_24 shC_42 rfl (rfC_42_5 _) ?_
    refine B_aload_n dX5_worth_43 rfl rfl ?_
    refine B_getI dX5_worth_44 fl_X5_15 shC_42 rfl ?_
    refine C_chk (fun q4 => ?_)
    refine L_iald dX5_worth_47 shC_50 q4 rfl ?_
    refine C_icmp_ge (tgt := 255) dX5_worth_48 (by decide) (fun q13 => ?_) (fun q13 => ?_)
    · refine B_iconst dX5_worth_255 ic_0 ?_
      exact B_ireturn dX5_worth_256 rfl rfl
    · refine B_aload_n dX5_worth_51 rfl rfl ?_
      refine B_iload dX5_worth_52 rfl ?_
      refine C_chk (fun q5 => ?_)
      refine L_iald dX5_worth_54 hy1 q5 rfl ?_
      refine B_lv (fun v6 => ?_)
      refine B_istore (ls' := [.ref 42, .ref y1, .int y2, .int (bi y3), .int y4, .int v6]) dX5_worth_55 (Nat.le_of_ble_eq_true rfl) rfl rfl ?_
      refine B_iload_n dX5_worth_57 rfl rfl ?_
      refine C_ifb_eq (tgt := 77) dX5_worth_58 (by decide) (fun q12 => ?_) (fun q12 => ?_)
      · refine B_iload dX5_worth_77 rfl ?_
        refine B_aload_n dX5_worth_79 rfl rfl ?_
        refine B_getR dX5_worth_80 fl_X5_9 shC_42 rfl (rfC_42_0 _) ?_
        refine B_alen (v := 6) dX5_worth_83 shC_43 (by decide) ?_
        refine B_ineg dX5_worth_84 ?_
        refine C_icmp_lt (tgt := 125) dX5_worth_85 (by decide) (fun q10 => ?_) (fun q10 => ?_)
        · exact b_X5_worth_J125 (fun qy1 qy2 qy3 qy4 qhy1 qh => ih qy1 qy2 qy3 qy4 qhy1 qh) y1 y2 y3 y4 v6 hy1 h
        · refine B_iload_n dX5_worth_88 rfl rfl ?_
          refine B_bipush dX5_worth_89 bp_64 ?_
          refine C_icmp_ge (tgt := 125) dX5_worth_91 (by decide) (fun q9 => ?_) (fun q9 => ?_)
          · exact b_X5_worth_J125 (fun qy1 qy2 qy3 qy4 qhy1 qh => ih qy1 qy2 qy3 qy4 qhy1 qh) y1 y2 y3 y4 v6 hy1 h
          · refine B_aload_n dX5_worth_94 rfl rfl ?_
            refine B_getR dX5_worth_95 fl_X5_27 shC_42 rfl (rfC_42_6 _) ?_
            refine B_iload_n dX5_worth_98 rfl rfl ?_
            refine B_iload dX5_worth_99 rfl ?_
            refine C_if_lt (tgt := 109) dX5_worth_101 (by decide) (fun q8 => ?_) (fun q8 => ?_)
            · refine B_aload_n dX5_worth_109 rfl rfl ?_
              refine B_getR dX5_worth_110 fl_X5_9 shC_42 rfl (rfC_42_0 _) ?_
              refine B_iconst dX5_worth_113 ic_m1 ?_
              refine B_iload dX5_worth_114 rfl ?_
              refine B_isub dX5_worth_116 ?_
              refine C_chk (fun q7 => ?_)
              refine L_iald dX5_worth_117 shC_43 q7 rfl ?_
              refine B_drop 5 (ls' := [.ref 42, .ref y1, .int y2, .int (bi y3), .int y4, .null]) rfl ?_
              exact b_X5_worth_J118 (fun qy1 qy2 qy3 qy4 qhy1 qh => ih qy1 qy2 qy3 qy4 qhy1 qh) y1 y2 y3 y4 y2 (h.1 43 (dI ((-1) - v6))) hy1 h
            · refine B_iload dX5_worth_104 rfl ?_
              refine B_goto (tgt := 118) dX5_worth_106 (by decide) ?_
              refine B_drop 5 (ls' := [.ref 42, .ref y1, .int y2, .int (bi y3), .int y4, .null]) rfl ?_
              exact b_X5_worth_J118 (fun qy1 qy2 qy3 qy4 qhy1 qh => ih qy1 qy2 qy3 qy4 qhy1 qh) y1 y2 y3 y4 y2 v6 hy1 h
      · refine B_iload dX5_worth_61 rfl ?_
        refine B_bipush dX5_worth_63 bp_m59 ?_
        refine C_icmp_eq (tgt := 72) dX5_worth_65 (by decide) (fun q11 => ?_) (fun q11 => ?_)
        · refine B_iconst dX5_worth_72 ic_0 ?_
          refine B_drop 3 (ls' := [.ref 42, .ref y1, .int y2, .null, .int y4, .int v6]) rfl ?_
          refine B_drop 5 (ls' := [.ref 42, .ref y1, .int y2, .null, .int y4, .null]) rfl ?_
          exact b_X5_worth_J73 (fun qy1 qy2 qy3 qy4 qhy1 qh => ih qy1 qy2 qy3 qy4 qhy1 qh) y1 y2 y4 false hy1 h
        · refine B_iconst dX5_worth_68 ic_1 ?_
          refine B_goto (tgt := 73) dX5_worth_69 (by decide) ?_
          refine B_drop 3 (ls' := [.ref 42, .ref y1, .int y2, .null, .int y4, .int v6]) rfl ?_
          refine B_drop 5 (ls' := [.ref 42, .ref y1, .int y2, .null, .int y4, .null]) rfl ?_
          exact b_X5_worth_J73 (fun qy1 qy2 qy3 qy4 qhy1 qh => ih qy1 qy2 qy3 qy4 qhy1 qh) y1 y2 y4 true hy1 h
def f_X5_worth (h : dH) : Option (Int32 × dH) :=
  if (h.1 42 2) < 0 then
  some (0, h)
  else
  if (h.1 42 2) < (h.1 42 1) then
  if dIn (h.1 42 2) 5 then
  f_X5_worth_L37 dFu (45 + dI (h.1 42 2)) 0 false 0 h
  else none
  else
  some (0, h)
set_option maxRecDepth 20000 in
set_option maxHeartbeats 4000000 in
theorem t_X5_worth (h : dH) : T XC 1 yX5_worth cX5_worth 6 (some .int) fiI [.ref 42] h (f_X5_worth h) := by
  refine T_of [.ref 42, .null, .null, .null, .null, .null] (by decide) (fun _ => rfl) (fun _ => Nat.le_of_ble_eq_true rfl) ?_
  show B XC 1 RX5 cX5_worth 6 (some .int) fiI 0 [.ref 42, .null, .null, .null, .null, .null] [] h (f_X5_worth h)
  unfold f_X5_worth
  refine B_aload_n dX5_worth_0 rfl rfl ?_
  refine B_getI dX5_worth_1 fl_X5_15 shC_42 rfl ?_
  refine C_if_lt (tgt := 18) dX5_worth_4 (by decide) (fun q3 => ?_) (fun q3 => ?_)
  · refine B_iconst dX5_worth_18 ic_0 ?_
    exact B_ireturn dX5_worth_19 rfl rfl
  · refine B_aload_n dX5_worth_7 rfl rfl ?_
    refine B_getI dX5_worth_8 fl_X5_15 shC_42 rfl ?_
    refine B_aload_n dX5_worth_11 rfl rfl ?_
    refine B_getI dX5_worth_12 fl_X5_34 shC_42 rfl ?_
    refine C_icmp_lt (tgt := 20) dX5_worth_15 (by decide) (fun q2 => ?_) (fun q2 => ?_)
    · refine B_aload_n dX5_worth_20 rfl rfl ?_
      refine B_getR dX5_worth_21 fl_X5_21 shC_42 rfl (rfC_42_4 _) ?_
      refine B_aload_n dX5_worth_24 rfl rfl ?_
      refine B_getI dX5_worth_25 fl_X5_15 shC_42 rfl ?_
      refine C_chk (fun q1 => ?_)
      refine B_aald dX5_worth_28 shC_44 q1 (rrC_44 _ q1) ?_
      refine B_astore_n (ls' := [.ref 42, .ref (45 + dI (h.1 42 2)), .null, .null, .null, .null]) dX5_worth_29 rfl (Nat.le_of_ble_eq_true rfl) rfl rfl ?_
      refine B_iconst dX5_worth_30 ic_0 ?_
      refine B_istore_n (ls' := [.ref 42, .ref (45 + dI (h.1 42 2)), .int 0, .null, .null, .null]) dX5_worth_31 rfl (Nat.le_of_ble_eq_true rfl) rfl rfl ?_
      refine B_iconst dX5_worth_32 ic_0 ?_
      refine B_istore_n (ls' := [.ref 42, .ref (45 + dI (h.1 42 2)), .int 0, .int 0, .null, .null]) dX5_worth_33 rfl (Nat.le_of_ble_eq_true rfl) rfl rfl ?_
      refine B_iconst dX5_worth_34 ic_0 ?_
      refine B_istore (ls' := [.ref 42, .ref (45 + dI (h.1 42 2)), .int 0, .int 0, .int 0, .null]) dX5_worth_35 (Nat.le_of_ble_eq_true rfl) rfl rfl ?_
      exact b_X5_worth_L37 dFu (45 + dI (h.1 42 2)) 0 false 0 (rowC_44 q1) h
    · refine B_iconst dX5_worth_18 ic_0 ?_
      exact B_ireturn dX5_worth_19 rfl rfl
def f_X6_read_L27 : Nat → Int32 → Int32 → Int32 → Int32 → dH → Option (Bool × dH)
  | 0, _, _, _, _, _ => none
  | n + 1, y2, y3, y4, y5, h =>
    if y5 < 0 then
    (some (dPut h 84 3 y2)).bind fun h4 =>
    if y3 = 0 then
    some (true, h4)
    else
    some (false, h4)
    else
    (some ((y3 - y3 / 10 * 10))).bind fun v6 =>
    if (f_X1_isPlace 3 v6 h) then
    if (f_X11_isIn y4 v6 h) then
    some (false, h)
    else
    if dIn y5 7 then
    (some (dPut h 85 (dI y5) v6)).bind fun h8 =>
    (some ((y4 ||| (1 <<< (v6 &&& 31))))).bind fun v9 =>
    (f_X6_read_L27 n) y2 (y3 / 10) v9 (y5 + (-1)) h8
    else none
    else
    some (false, h)
set_option maxRecDepth 20000 in
set_option maxHeartbeats 4000000 in
theorem b_X6_read_L27 : ∀ (n : Nat) (y2 : Int32) (y3 : Int32) (y4 : Int32) (y5 : Int32) (h : dH), B XC 1 RX6 cX6_read 7 (some .boolean) fiC 27 [.ref 84, .null, .int y2, .int y3, .int y4, .int y5, .null] [] h (f_X6_read_L27 n y2 y3 y4 y5 h) := by
  intro n
  induction n with
  | zero =>
    intro y2 y3 y4 y5 h
    exact B_none
  | succ n ih =>
    intro y2 y3 y4 y5 h
    rw [f_X6_read_L27]
    refine B_iload dX6_read_27 rfl ?_
    refine C_if_lt (tgt := 91) dX6_read_29 (by decide) (fun q12 => ?_) (fun q12 => ?_)
    · refine B_aload_n dX6_read_91 rfl rfl ?_
      refine B_iload_n dX6_read_92 rfl rfl ?_
      refine B_putI dX6_read_93 fl_X6_33 fw_X6_3 shC_84 rfl ?_
      refine B_lh (fun h4 => ?_)
      refine B_iload_n dX6_read_96 rfl rfl ?_
      refine C_if_ne (tgt := 104) dX6_read_97 (by decide) (fun q5 => ?_) (fun q5 => ?_)
      · refine B_iconst dX6_read_104 ic_0 ?_
        exact B_zreturn dX6_read_105 rfl rfl rfl
      · refine B_iconst dX6_read_100 ic_1 ?_
        refine B_goto (tgt := 105) dX6_read_101 (by decide) ?_
        exact B_zreturn dX6_read_105 rfl rfl rfl
    · refine B_iload_n dX6_read_32 rfl rfl ?_
      refine B_bipush dX6_read_33 bp_10 ?_
      refine B_irem dX6_read_35 (by decide) ?_
      refine B_lv (fun v6 => ?_)
      refine B_istore (ls' := [.ref 84, .null, .int y2, .int y3, .int y4, .int y5, .int v6]) dX6_read_36 (Nat.le_of_ble_eq_true rfl) rfl rfl ?_
      refine B_aload_n dX6_read_38 rfl rfl ?_
      refine B_getR dX6_read_39 fl_X6_15 shC_84 rfl (rfC_84_0 _) ?_
      refine B_iload dX6_read_42 rfl ?_
      refine B_VTb (st := []) dX6_read_44 cl_X6_23 (t_X1_isPlace 3 shC_3 v6 h) (Nat.le_of_ble_eq_true rfl) shC_3 rfl rfl (Nat.le_of_ble_eq_true rfl) ?_
      refine C_ifb_eq (tgt := 60) dX6_read_47 (by decide) (fun q11 => ?_) (fun q11 => ?_)
      · refine B_iconst dX6_read_60 ic_0 ?_
        exact B_zreturn dX6_read_61 rfl rfl rfl
      · refine B_iload dX6_read_50 rfl ?_
        refine B_iload dX6_read_52 rfl ?_
        refine B_NTb (st := []) dX6_read_54 cl_X6_29 (t_X11_isIn y4 v6 h) (Nat.le_of_ble_eq_true rfl) rfl rfl (Nat.le_of_ble_eq_true rfl) ?_
        refine C_ifb_eq (tgt := 62) dX6_read_57 (by decide) (fun q10 => ?_) (fun q10 => ?_)
        · refine B_aload_n dX6_read_62 rfl rfl ?_
          refine B_getR dX6_read_63 fl_X6_9 shC_84 rfl (rfC_84_2 _) ?_
          refine B_iload dX6_read_66 rfl ?_
          refine B_iload dX6_read_68 rfl ?_
          refine C_chk (fun q7 => ?_)
          refine L_iast dX6_read_70 shC_85 q7 rfl ?_
          refine B_lh (fun h8 => ?_)
          refine B_iload dX6_read_71 rfl ?_
          refine B_iconst dX6_read_73 ic_1 ?_
          refine B_iload dX6_read_74 rfl ?_
          refine B_ishl dX6_read_76 ?_
          refine B_ior dX6_read_77 ?_
          refine B_lv (fun v9 => ?_)
          refine B_istore (ls' := [.ref 84, .null, .int y2, .int y3, .int v9, .int y5, .int v6]) dX6_read_78 (Nat.le_of_ble_eq_true rfl) rfl rfl ?_
          refine B_iload_n dX6_read_80 rfl rfl ?_
          refine B_bipush dX6_read_81 bp_10 ?_
          refine B_idiv dX6_read_83 (by decide) ?_
          refine B_istore_n (ls' := [.ref 84, .null, .int y2, .int (y3 / 10), .int v9, .int y5, .int v6]) dX6_read_84 rfl (Nat.le_of_ble_eq_true rfl) rfl rfl ?_
          refine B_iinc (w := (y5 + (-1))) (ls' := [.ref 84, .null, .int y2, .int (y3 / 10), .int v9, .int (y5 + (-1)), .int v6]) dX6_read_85 rfl (congrArg (fun z => y5 + z) ic_m1) (Nat.le_of_ble_eq_true rfl) rfl rfl ?_
          refine B_goto (tgt := 27) dX6_read_88 (by decide) ?_
          refine B_drop 6 (ls' := [.ref 84, .null, .int y2, .int (y3 / 10), .int v9, .int (y5 + (-1)), .null]) rfl ?_
          exact ih y2 (y3 / 10) v9 (y5 + (-1))  h8
        · refine B_iconst dX6_read_60 ic_0 ?_
          exact B_zreturn dX6_read_61 rfl rfl rfl
def f_X6_read (x1 : Int32) (x2 : Int32) (h : dH) : Option (Bool × dH) :=
  if x1 < 0 then
  some (false, h)
  else
  if x2 < 1 then
  some (false, h)
  else
  if 7 < x2 then
  some (false, h)
  else
  f_X6_read_L27 dFu x2 x1 0 (x2 - 1) h
set_option maxRecDepth 20000 in
set_option maxHeartbeats 4000000 in
theorem t_X6_read (x1 : Int32) (x2 : Int32) (h : dH) : T XC 1 yX6_read cX6_read 7 (some .boolean) fiC [.ref 84, .int x1, .int x2] h (f_X6_read x1 x2 h) := by
  refine T_of [.ref 84, .int x1, .int x2, .null, .null, .null, .null] (by decide) (fun _ => rfl) (fun _ => Nat.le_of_ble_eq_true rfl) ?_
  show B XC 1 RX6 cX6_read 7 (some .boolean) fiC 0 [.ref 84, .int x1, .int x2, .null, .null, .null, .null] [] h (f_X6_read x1 x2 h)
  unfold f_X6_read
  refine B_iload_n dX6_read_0 rfl rfl ?_
  refine C_if_lt (tgt := 15) dX6_read_1 (by decide) (fun q3 => ?_) (fun q3 => ?_)
  · refine B_iconst dX6_read_15 ic_0 ?_
    exact B_zreturn dX6_read_16 rfl rfl rfl
  · refine B_iload_n dX6_read_4 rfl rfl ?_
    refine B_iconst dX6_read_5 ic_1 ?_
    refine C_icmp_lt (tgt := 15) dX6_read_6 (by decide) (fun q2 => ?_) (fun q2 => ?_)
    · refine B_iconst dX6_read_15 ic_0 ?_
      exact B_zreturn dX6_read_16 rfl rfl rfl
    · refine B_iload_n dX6_read_9 rfl rfl ?_
      refine B_bipush dX6_read_10 bp_7 ?_
      refine C_icmp_le (tgt := 17) dX6_read_12 (by decide) (fun q1 => ?_) (fun q1 => ?_)
      · refine B_iload_n dX6_read_17 rfl rfl ?_
        refine B_istore_n (ls' := [.ref 84, .int x1, .int x2, .int x1, .null, .null, .null]) dX6_read_18 rfl (Nat.le_of_ble_eq_true rfl) rfl rfl ?_
        refine B_iconst dX6_read_19 ic_0 ?_
        refine B_istore (ls' := [.ref 84, .int x1, .int x2, .int x1, .int 0, .null, .null]) dX6_read_20 (Nat.le_of_ble_eq_true rfl) rfl rfl ?_
        refine B_iload_n dX6_read_22 rfl rfl ?_
        refine B_iconst dX6_read_23 ic_1 ?_
        refine B_isub dX6_read_24 ?_
        refine B_istore (ls' := [.ref 84, .int x1, .int x2, .int x1, .int 0, .int (x2 - 1), .null]) dX6_read_25 (Nat.le_of_ble_eq_true rfl) rfl rfl ?_
        refine B_drop 1 (ls' := [.ref 84, .null, .int x2, .int x1, .int 0, .int (x2 - 1), .null]) rfl ?_
        exact b_X6_read_L27 dFu x2 x1 0 (x2 - 1) h
      · refine B_iconst dX6_read_15 ic_0 ?_
        exact B_zreturn dX6_read_16 rfl rfl rfl
def f_X8_tired (h : dH) : Int32 :=
  (h.1 67 2)
set_option maxRecDepth 20000 in
set_option maxHeartbeats 4000000 in
theorem t_X8_tired (h : dH) : T XC 0 yX8_tired cX8_tired 1 (some .int) (fiP h) [.ref 66] h (some (f_X8_tired h)) := by
  refine T_of [.ref 66] (by decide) (fun _ => rfl) (fun _ => Nat.le_of_ble_eq_true rfl) ?_
  show B XC 0 RX8 cX8_tired 1 (some .int) (fiP h) 0 [.ref 66] [] h (some (f_X8_tired h))
  unfold f_X8_tired
  refine B_aload_n dX8_tired_0 rfl rfl ?_
  refine B_getR dX8_tired_1 fl_X8_11 shC_66 rfl (rfC_66_2 _) ?_
  refine B_iconst dX8_tired_4 ic_2 ?_
  refine L_iald dX8_tired_5 shC_67 (by decide) di_2 ?_
  exact B_ireturn dX8_tired_6 rfl rfl
def f_X8_place (h : dH) : Int32 :=
  (h.1 67 0)
set_option maxRecDepth 20000 in
set_option maxHeartbeats 4000000 in
theorem t_X8_place (h : dH) : T XC 0 yX8_place cX8_place 1 (some .int) (fiP h) [.ref 66] h (some (f_X8_place h)) := by
  refine T_of [.ref 66] (by decide) (fun _ => rfl) (fun _ => Nat.le_of_ble_eq_true rfl) ?_
  show B XC 0 RX8 cX8_place 1 (some .int) (fiP h) 0 [.ref 66] [] h (some (f_X8_place h))
  unfold f_X8_place
  refine B_aload_n dX8_place_0 rfl rfl ?_
  refine B_getR dX8_place_1 fl_X8_11 shC_66 rfl (rfC_66_2 _) ?_
  refine B_iconst dX8_place_4 ic_0 ?_
  refine L_iald dX8_place_5 shC_67 (by decide) di_0 ?_
  exact B_ireturn dX8_place_6 rfl rfl
def f_X8_couldWalk (t : Nat) (x1 : Int32) (x2 : Int32) (x3 : Int32) (x4 : Int32) (h : dH) : Option (Bool) :=
  if (f_X1_isPlace 3 x4 h) then
  if x4 = x1 then
  some false
  else
  (f_X1_apart 3 x1 x4 h).bind fun v1 =>
  if (h.1 4 0) < (x3 + v1) then
  some false
  else
  if (h.1 4 1) < ((x2 + v1) + 1) then
  some false
  else
  some true
  else
  some false
set_option maxRecDepth 20000 in
set_option maxHeartbeats 4000000 in
theorem t_X8_couldWalk (t : Nat) (ht : XC.1[t]? = some (.inl 8)) (x1 : Int32) (x2 : Int32) (x3 : Int32) (x4 : Int32) (h : dH) : T XC 1 yX8_couldWalk cX8_couldWalk 6 (some .boolean) (fiB h) [.ref t, .int x1, .int x2, .int x3, .int x4] h (f_X8_couldWalk t x1 x2 x3 x4 h) := by
  refine T_of [.ref t, .int x1, .int x2, .int x3, .int x4, .null] (by decide) (fun _ => rfl) (fun _ => Nat.le_of_ble_eq_true rfl) ?_
  show B XC 1 RX8 cX8_couldWalk 6 (some .boolean) (fiB h) 0 [.ref t, .int x1, .int x2, .int x3, .int x4, .null] [] h (f_X8_couldWalk t x1 x2 x3 x4 h)
  unfold f_X8_couldWalk
  refine B_aload_n dX8_couldWalk_0 rfl rfl ?_
  refine B_getR dX8_couldWalk_1 fl_X8_15 ht rfl (rfX8_0 _ ht) ?_
  refine B_iload dX8_couldWalk_4 rfl ?_
  refine B_VTb (st := []) dX8_couldWalk_6 cl_X8_35 (t_X1_isPlace 3 shC_3 x4 h) (Nat.le_of_ble_eq_true rfl) shC_3 rfl rfl (Nat.le_of_ble_eq_true rfl) ?_
  refine C_ifb_eq (tgt := 18) dX8_couldWalk_9 (by decide) (fun q5 => ?_) (fun q5 => ?_)
  · refine B_iconst dX8_couldWalk_18 ic_0 ?_
    exact B_zreturn dX8_couldWalk_19 rfl rfl rfl
  · refine B_iload dX8_couldWalk_12 rfl ?_
    refine B_iload_n dX8_couldWalk_14 rfl rfl ?_
    refine C_icmp_ne (tgt := 20) dX8_couldWalk_15 (by decide) (fun q4 => ?_) (fun q4 => ?_)
    · refine B_aload_n dX8_couldWalk_20 rfl rfl ?_
      refine B_getR dX8_couldWalk_21 fl_X8_15 ht rfl (rfX8_0 _ ht) ?_
      refine B_iload_n dX8_couldWalk_24 rfl rfl ?_
      refine B_iload dX8_couldWalk_25 rfl ?_
      refine B_Vp (st := []) dX8_couldWalk_27 cl_X8_57 (t_X1_apart 3 shC_3 x1 x4 h) (Nat.le_of_ble_eq_true rfl) shC_3 rfl rfl (Nat.le_of_ble_eq_true rfl) (fun v1 _ => ?_)
      refine B_istore (ls' := [.ref t, .int x1, .int x2, .int x3, .int x4, .int v1]) dX8_couldWalk_30 (Nat.le_of_ble_eq_true rfl) rfl rfl ?_
      refine B_iload_n dX8_couldWalk_32 rfl rfl ?_
      refine B_iload dX8_couldWalk_33 rfl ?_
      refine B_iadd dX8_couldWalk_35 ?_
      refine B_aload_n dX8_couldWalk_36 rfl rfl ?_
      refine B_getR dX8_couldWalk_37 fl_X8_15 ht rfl (rfX8_0 _ ht) ?_
      refine B_getR dX8_couldWalk_40 fl_X8_60 shC_3 rfl (rfC_3_0 _) ?_
      refine B_iconst dX8_couldWalk_43 ic_0 ?_
      refine L_iald dX8_couldWalk_44 shC_4 (by decide) di_0 ?_
      refine C_icmp_gt (tgt := 70) dX8_couldWalk_45 (by decide) (fun q3 => ?_) (fun q3 => ?_)
      · refine B_iconst dX8_couldWalk_70 ic_0 ?_
        exact B_zreturn dX8_couldWalk_71 rfl rfl rfl
      · refine B_iload_n dX8_couldWalk_48 rfl rfl ?_
        refine B_iload dX8_couldWalk_49 rfl ?_
        refine B_iadd dX8_couldWalk_51 ?_
        refine B_iconst dX8_couldWalk_52 ic_1 ?_
        refine B_iadd dX8_couldWalk_53 ?_
        refine B_aload_n dX8_couldWalk_54 rfl rfl ?_
        refine B_getR dX8_couldWalk_55 fl_X8_15 ht rfl (rfX8_0 _ ht) ?_
        refine B_getR dX8_couldWalk_58 fl_X8_60 shC_3 rfl (rfC_3_0 _) ?_
        refine B_iconst dX8_couldWalk_61 ic_1 ?_
        refine L_iald dX8_couldWalk_62 shC_4 (by decide) di_1 ?_
        refine C_icmp_gt (tgt := 70) dX8_couldWalk_63 (by decide) (fun q2 => ?_) (fun q2 => ?_)
        · refine B_iconst dX8_couldWalk_70 ic_0 ?_
          exact B_zreturn dX8_couldWalk_71 rfl rfl rfl
        · refine B_iconst dX8_couldWalk_66 ic_1 ?_
          refine B_goto (tgt := 71) dX8_couldWalk_67 (by decide) ?_
          exact B_zreturn dX8_couldWalk_71 rfl rfl rfl
    · refine B_iconst dX8_couldWalk_18 ic_0 ?_
      exact B_zreturn dX8_couldWalk_19 rfl rfl rfl
def f_X6_meetingPlace_L27 (h : dH) : Nat → Int32 → Int32 → Int32 → Int32 → Option (Int32)
  | 0, _, _, _, _ => none
  | n + 1, y1, y2, y3, y4 =>
    if y4 < (h.1 84 3) then
    if dIn y4 7 then
    (some ((h.1 85 (dI y4)))).bind fun v5 =>
    (f_X8_couldWalk 66 y1 y2 y3 v5 h).bind fun v6 =>
    if v6 then
    (f_X1_apart 3 y1 v5 h).bind fun v7 =>
    (f_X1_roundComes v5 h).bind fun v8 =>
    (some (((y2 + v7) - v8))).bind fun v9 =>
    if v9 = 0 then
    some v5
    else
    if v9 = 1 then
    some v5
    else
    (some ((y2 + (v7 + 1)))).bind fun v10 =>
    (f_X6_meetingPlace_L27 h n) v5 v10 (y3 + v7) (y4 + 1)
    else
    some (-1)
    else none
    else
    some (-1)
set_option maxRecDepth 20000 in
set_option maxHeartbeats 4000000 in
theorem b_X6_meetingPlace_L27 (h : dH) : ∀ (n : Nat) (y1 : Int32) (y2 : Int32) (y3 : Int32) (y4 : Int32), B XC 3 RX6 cX6_meetingPlace 8 (some .int) (fiP h) 27 [.ref 84, .int y1, .int y2, .int y3, .int y4, .null, .null, .null] [] h (f_X6_meetingPlace_L27 h n y1 y2 y3 y4) := by
  intro n
  induction n with
  | zero =>
    intro y1 y2 y3 y4
    exact B_none
  | succ n ih =>
    intro y1 y2 y3 y4
    rw [f_X6_meetingPlace_L27]
    refine B_iload dX6_meetingPlace_27 rfl ?_
    refine B_aload_n dX6_meetingPlace_29 rfl rfl ?_
    refine B_getI dX6_meetingPlace_30 fl_X6_33 shC_84 rfl ?_
    refine C_icmp_ge (tgt := 125) dX6_meetingPlace_33 (by decide) (fun q14 => ?_) (fun q14 => ?_)
    · refine B_iconst dX6_meetingPlace_125 ic_m1 ?_
      exact B_ireturn dX6_meetingPlace_126 rfl rfl
    · refine B_aload_n dX6_meetingPlace_36 rfl rfl ?_
      refine B_getR dX6_meetingPlace_37 fl_X6_9 shC_84 rfl (rfC_84_2 _) ?_
      refine B_iload dX6_meetingPlace_40 rfl ?_
      refine C_chk (fun q4 => ?_)
      refine L_iald dX6_meetingPlace_42 shC_85 q4 rfl ?_
      refine B_lv (fun v5 => ?_)
      refine B_istore (ls' := [.ref 84, .int y1, .int y2, .int y3, .int y4, .int v5, .null, .null]) dX6_meetingPlace_43 (Nat.le_of_ble_eq_true rfl) rfl rfl ?_
      refine B_aload_n dX6_meetingPlace_45 rfl rfl ?_
      refine B_getR dX6_meetingPlace_46 fl_X6_19 shC_84 rfl (rfC_84_1 _) ?_
      refine B_iload_n dX6_meetingPlace_49 rfl rfl ?_
      refine B_iload_n dX6_meetingPlace_50 rfl rfl ?_
      refine B_iload_n dX6_meetingPlace_51 rfl rfl ?_
      refine B_iload dX6_meetingPlace_52 rfl ?_
      refine B_Vpb (st := []) dX6_meetingPlace_54 cl_X6_49 (t_X8_couldWalk 66 shC_66 y1 y2 y3 v5 h) (Nat.le_of_ble_eq_true rfl) shC_66 rfl rfl (Nat.le_of_ble_eq_true rfl) (fun v6 _ => ?_)
      refine C_ifb_ne (tgt := 62) dX6_meetingPlace_57 (by decide) (fun q13 => ?_) (fun q13 => ?_)
      · refine B_aload_n dX6_meetingPlace_62 rfl rfl ?_
        refine B_getR dX6_meetingPlace_63 fl_X6_15 shC_84 rfl (rfC_84_0 _) ?_
        refine B_iload_n dX6_meetingPlace_66 rfl rfl ?_
        refine B_iload dX6_meetingPlace_67 rfl ?_
        refine B_Vp (st := []) dX6_meetingPlace_69 cl_X6_53 (t_X1_apart 3 shC_3 y1 v5 h) (Nat.le_of_ble_eq_true rfl) shC_3 rfl rfl (Nat.le_of_ble_eq_true rfl) (fun v7 _ => ?_)
        refine B_istore (ls' := [.ref 84, .int y1, .int y2, .int y3, .int y4, .int v5, .int v7, .null]) dX6_meetingPlace_72 (Nat.le_of_ble_eq_true rfl) rfl rfl ?_
        refine B_iload_n dX6_meetingPlace_74 rfl rfl ?_
        refine B_iload dX6_meetingPlace_75 rfl ?_
        refine B_iadd dX6_meetingPlace_77 ?_
        refine B_aload_n dX6_meetingPlace_78 rfl rfl ?_
        refine B_getR dX6_meetingPlace_79 fl_X6_15 shC_84 rfl (rfC_84_0 _) ?_
        refine B_iload dX6_meetingPlace_82 rfl ?_
        refine B_Vp (st := [.int (y2 + v7)]) dX6_meetingPlace_84 cl_X6_57 (t_X1_roundComes v5 h) (Nat.le_of_ble_eq_true rfl) shC_3 rfl rfl (Nat.le_of_ble_eq_true rfl) (fun v8 _ => ?_)
        refine B_isub dX6_meetingPlace_87 ?_
        refine B_lv (fun v9 => ?_)
        refine B_istore (ls' := [.ref 84, .int y1, .int y2, .int y3, .int y4, .int v5, .int v7, .int v9]) dX6_meetingPlace_88 (Nat.le_of_ble_eq_true rfl) rfl rfl ?_
        refine B_iload dX6_meetingPlace_90 rfl ?_
        refine C_if_eq (tgt := 101) dX6_meetingPlace_92 (by decide) (fun q12 => ?_) (fun q12 => ?_)
        · refine B_iload dX6_meetingPlace_101 rfl ?_
          exact B_ireturn dX6_meetingPlace_103 rfl rfl
        · refine B_iload dX6_meetingPlace_95 rfl ?_
          refine B_iconst dX6_meetingPlace_97 ic_1 ?_
          refine C_icmp_ne (tgt := 104) dX6_meetingPlace_98 (by decide) (fun q11 => ?_) (fun q11 => ?_)
          · refine B_iload dX6_meetingPlace_104 rfl ?_
            refine B_istore_n (ls' := [.ref 84, .int v5, .int y2, .int y3, .int y4, .int v5, .int v7, .int v9]) dX6_meetingPlace_106 rfl (Nat.le_of_ble_eq_true rfl) rfl rfl ?_
            refine B_iload_n dX6_meetingPlace_107 rfl rfl ?_
            refine B_iload dX6_meetingPlace_108 rfl ?_
            refine B_iconst dX6_meetingPlace_110 ic_1 ?_
            refine B_iadd dX6_meetingPlace_111 ?_
            refine B_iadd dX6_meetingPlace_112 ?_
            refine B_lv (fun v10 => ?_)
            refine B_istore_n (ls' := [.ref 84, .int v5, .int v10, .int y3, .int y4, .int v5, .int v7, .int v9]) dX6_meetingPlace_113 rfl (Nat.le_of_ble_eq_true rfl) rfl rfl ?_
            refine B_iload_n dX6_meetingPlace_114 rfl rfl ?_
            refine B_iload dX6_meetingPlace_115 rfl ?_
            refine B_iadd dX6_meetingPlace_117 ?_
            refine B_istore_n (ls' := [.ref 84, .int v5, .int v10, .int (y3 + v7), .int y4, .int v5, .int v7, .int v9]) dX6_meetingPlace_118 rfl (Nat.le_of_ble_eq_true rfl) rfl rfl ?_
            refine B_iinc (w := (y4 + 1)) (ls' := [.ref 84, .int v5, .int v10, .int (y3 + v7), .int (y4 + 1), .int v5, .int v7, .int v9]) dX6_meetingPlace_119 rfl (congrArg (fun z => y4 + z) ic_1) (Nat.le_of_ble_eq_true rfl) rfl rfl ?_
            refine B_goto (tgt := 27) dX6_meetingPlace_122 (by decide) ?_
            refine B_drop 5 (ls' := [.ref 84, .int v5, .int v10, .int (y3 + v7), .int (y4 + 1), .null, .int v7, .int v9]) rfl ?_
            refine B_drop 6 (ls' := [.ref 84, .int v5, .int v10, .int (y3 + v7), .int (y4 + 1), .null, .null, .int v9]) rfl ?_
            refine B_drop 7 (ls' := [.ref 84, .int v5, .int v10, .int (y3 + v7), .int (y4 + 1), .null, .null, .null]) rfl ?_
            exact ih v5 v10 (y3 + v7) (y4 + 1)  
          · refine B_iload dX6_meetingPlace_101 rfl ?_
            exact B_ireturn dX6_meetingPlace_103 rfl rfl
      · refine B_iconst dX6_meetingPlace_60 ic_m1 ?_
        exact B_ireturn dX6_meetingPlace_61 rfl rfl
def f_X6_meetingPlace (h : dH) : Option (Int32) :=
  (some ((f_X8_place h))).bind fun v1 =>
  (some ((f_X8_hour h))).bind fun v2 =>
  (some ((f_X8_tired h))).bind fun v3 =>
  f_X6_meetingPlace_L27 h dFu v1 v2 v3 0
set_option maxRecDepth 20000 in
set_option maxHeartbeats 4000000 in
theorem t_X6_meetingPlace (h : dH) : T XC 3 yX6_meetingPlace cX6_meetingPlace 8 (some .int) (fiP h) [.ref 84] h (f_X6_meetingPlace h) := by
  refine T_of [.ref 84, .null, .null, .null, .null, .null, .null, .null] (by decide) (fun _ => rfl) (fun _ => Nat.le_of_ble_eq_true rfl) ?_
  show B XC 3 RX6 cX6_meetingPlace 8 (some .int) (fiP h) 0 [.ref 84, .null, .null, .null, .null, .null, .null, .null] [] h (f_X6_meetingPlace h)
  unfold f_X6_meetingPlace
  refine B_aload_n dX6_meetingPlace_0 rfl rfl ?_
  refine B_getR dX6_meetingPlace_1 fl_X6_19 shC_84 rfl (rfC_84_1 _) ?_
  refine B_Vt (st := []) dX6_meetingPlace_4 cl_X6_37 (t_X8_place h) (Nat.le_of_ble_eq_true rfl) shC_66 rfl rfl (Nat.le_of_ble_eq_true rfl) ?_
  refine B_lv (fun v1 => ?_)
  refine B_istore_n (ls' := [.ref 84, .int v1, .null, .null, .null, .null, .null, .null]) dX6_meetingPlace_7 rfl (Nat.le_of_ble_eq_true rfl) rfl rfl ?_
  refine B_aload_n dX6_meetingPlace_8 rfl rfl ?_
  refine B_getR dX6_meetingPlace_9 fl_X6_19 shC_84 rfl (rfC_84_1 _) ?_
  refine B_Vt (st := []) dX6_meetingPlace_12 cl_X6_43 (t_X8_hour h) (Nat.le_of_ble_eq_true rfl) shC_66 rfl rfl (Nat.le_of_ble_eq_true rfl) ?_
  refine B_lv (fun v2 => ?_)
  refine B_istore_n (ls' := [.ref 84, .int v1, .int v2, .null, .null, .null, .null, .null]) dX6_meetingPlace_15 rfl (Nat.le_of_ble_eq_true rfl) rfl rfl ?_
  refine B_aload_n dX6_meetingPlace_16 rfl rfl ?_
  refine B_getR dX6_meetingPlace_17 fl_X6_19 shC_84 rfl (rfC_84_1 _) ?_
  refine B_Vt (st := []) dX6_meetingPlace_20 cl_X6_46 (t_X8_tired h) (Nat.le_of_ble_eq_true rfl) shC_66 rfl rfl (Nat.le_of_ble_eq_true rfl) ?_
  refine B_lv (fun v3 => ?_)
  refine B_istore_n (ls' := [.ref 84, .int v1, .int v2, .int v3, .null, .null, .null, .null]) dX6_meetingPlace_23 rfl (Nat.le_of_ble_eq_true rfl) rfl rfl ?_
  refine B_iconst dX6_meetingPlace_24 ic_0 ?_
  refine B_istore (ls' := [.ref 84, .int v1, .int v2, .int v3, .int 0, .null, .null, .null]) dX6_meetingPlace_25 (Nat.le_of_ble_eq_true rfl) rfl rfl ?_
  exact b_X6_meetingPlace_L27 h dFu v1 v2 v3 0
def f_X8_visitsOf (t : Nat) (x1 : Int32) (h : dH) : Option (Int32) :=
  if (f_X1_isPlace 3 x1 h) then
  if dIn (7 + x1) 28 then
  some (h.1 (t + 1) (dI (7 + x1)))
  else none
  else
  some 0
set_option maxRecDepth 20000 in
set_option maxHeartbeats 4000000 in
theorem t_X8_visitsOf (t : Nat) (ht : XC.1[t]? = some (.inl 8)) (x1 : Int32) (h : dH) : T XC 1 yX8_visitsOf cX8_visitsOf 2 (some .int) (fiP h) [.ref t, .int x1] h (f_X8_visitsOf t x1 h) := by
  refine T_of [.ref t, .int x1] (by decide) (fun _ => rfl) (fun _ => Nat.le_of_ble_eq_true rfl) ?_
  show B XC 1 RX8 cX8_visitsOf 2 (some .int) (fiP h) 0 [.ref t, .int x1] [] h (f_X8_visitsOf t x1 h)
  unfold f_X8_visitsOf
  refine B_aload_n dX8_visitsOf_0 rfl rfl ?_
  refine B_getR dX8_visitsOf_1 fl_X8_15 ht rfl (rfX8_0 _ ht) ?_
  refine B_iload_n dX8_visitsOf_4 rfl rfl ?_
  refine B_VTb (st := []) dX8_visitsOf_5 cl_X8_35 (t_X1_isPlace 3 shC_3 x1 h) (Nat.le_of_ble_eq_true rfl) shC_3 rfl rfl (Nat.le_of_ble_eq_true rfl) ?_
  refine C_ifb_eq (tgt := 23) dX8_visitsOf_8 (by decide) (fun q2 => ?_) (fun q2 => ?_)
  · refine B_iconst dX8_visitsOf_23 ic_0 ?_
    exact B_ireturn dX8_visitsOf_24 rfl rfl
  · refine B_aload_n dX8_visitsOf_11 rfl rfl ?_
    refine B_getR dX8_visitsOf_12 fl_X8_11 ht rfl (rfX8_2 _ ht) ?_
    refine B_bipush dX8_visitsOf_15 bp_7 ?_
    refine B_iload_n dX8_visitsOf_17 rfl rfl ?_
    refine B_iadd dX8_visitsOf_18 ?_
    refine C_chk (fun q1 => ?_)
    refine L_iald dX8_visitsOf_19 (shX8_2 ht) q1 rfl ?_
    refine B_goto (tgt := 24) dX8_visitsOf_20 (by decide) ?_
    exact B_ireturn dX8_visitsOf_24 rfl rfl
def f_X7_newAt (x1 : Int32) (h : dH) : Option (Int32) :=
  (f_X8_visitsOf 66 x1 h).bind fun v1 =>
  if v1 = 0 then
  (f_X1_toldOf 3 x1 3 h).bind fun v2 =>
  some v2
  else
  some 0
set_option maxRecDepth 20000 in
set_option maxHeartbeats 4000000 in
theorem t_X7_newAt (x1 : Int32) (h : dH) : T XC 2 yX7_newAt cX7_newAt 2 (some .int) (fiP h) [.ref 83, .int x1] h (f_X7_newAt x1 h) := by
  refine T_of [.ref 83, .int x1] (by decide) (fun _ => rfl) (fun _ => Nat.le_of_ble_eq_true rfl) ?_
  show B XC 2 RX7 cX7_newAt 2 (some .int) (fiP h) 0 [.ref 83, .int x1] [] h (f_X7_newAt x1 h)
  unfold f_X7_newAt
  refine B_aload_n dX7_newAt_0 rfl rfl ?_
  refine B_getR dX7_newAt_1 fl_X7_15 shC_83 rfl (rfC_83_4 _) ?_
  refine B_iload_n dX7_newAt_4 rfl rfl ?_
  refine B_Vp (st := []) dX7_newAt_5 cl_X7_90 (t_X8_visitsOf 66 shC_66 x1 h) (Nat.le_of_ble_eq_true rfl) shC_66 rfl rfl (Nat.le_of_ble_eq_true rfl) (fun v1 _ => ?_)
  refine C_if_ne (tgt := 23) dX7_newAt_8 (by decide) (fun q3 => ?_) (fun q3 => ?_)
  · refine B_iconst dX7_newAt_23 ic_0 ?_
    exact B_ireturn dX7_newAt_24 rfl rfl
  · refine B_aload_n dX7_newAt_11 rfl rfl ?_
    refine B_getR dX7_newAt_12 fl_X7_9 shC_83 rfl (rfC_83_3 _) ?_
    refine B_iload_n dX7_newAt_15 rfl rfl ?_
    refine B_iconst dX7_newAt_16 ic_3 ?_
    refine B_Vp (st := []) dX7_newAt_17 cl_X7_93 (t_X1_toldOf 3 shC_3 x1 3 h) (Nat.le_of_ble_eq_true rfl) shC_3 rfl rfl (Nat.le_of_ble_eq_true rfl) (fun v2 _ => ?_)
    refine B_goto (tgt := 24) dX7_newAt_20 (by decide) ?_
    exact B_ireturn dX7_newAt_24 rfl rfl
def f_X7_leftToSee_J33 (kL4 : Int32 → Int32 → Int32 → Option (Int32)) (y1 : Int32) (y3 : Int32) (z0 : Int32) (z1 : Int32) (h : dH) : Option (Int32) :=
  kL4 y1 (z0 + z1) (y3 + 1)
set_option maxRecDepth 20000 in
set_option maxHeartbeats 4000000 in
theorem b_X7_leftToSee_J33 {kL4 : Int32 → Int32 → Int32 → Option (Int32)} (h : dH) (hkL4 : ∀ (y1 : Int32) (y2 : Int32) (y3 : Int32), B XC 3 RX7 cX7_leftToSee 4 (some .int) (fiP h) 4 [.ref 83, .int y1, .int y2, .int y3] [] h (kL4 y1 y2 y3)) (y1 : Int32) (y3 : Int32) (z0 : Int32) (z1 : Int32) : B XC 3 RX7 cX7_leftToSee 4 (some .int) (fiP h) 33 [.ref 83, .int y1, .null, .int y3] [.int z1, .int z0] h (f_X7_leftToSee_J33 kL4 y1 y3 z0 z1 h) := by
  unfold f_X7_leftToSee_J33
  refine B_iadd dX7_leftToSee_33 ?_
  refine B_istore_n (ls' := [.ref 83, .int y1, .int (z0 + z1), .int y3]) dX7_leftToSee_34 rfl (Nat.le_of_ble_eq_true rfl) rfl rfl ?_
  refine B_iinc (w := (y3 + 1)) (ls' := [.ref 83, .int y1, .int (z0 + z1), .int (y3 + 1)]) dX7_leftToSee_35 rfl (congrArg (fun z => y3 + z) ic_1) (Nat.le_of_ble_eq_true rfl) rfl rfl ?_
  refine B_goto (tgt := 4) dX7_leftToSee_38 (by decide) ?_
  exact hkL4 y1 (z0 + z1) (y3 + 1)  
def f_X7_leftToSee_L4 (h : dH) : Nat → Int32 → Int32 → Int32 → Option (Int32)
  | 0, _, _, _ => none
  | n + 1, y1, y2, y3 =>
    if y3 < (h.1 3 2) then
    if (f_X11_isIn y1 y3 h) then
    f_X7_leftToSee_J33 (f_X7_leftToSee_L4 h n) y1 y3 y2 0 h
    else
    (f_X7_newAt y3 h).bind fun v1 =>
    f_X7_leftToSee_J33 (f_X7_leftToSee_L4 h n) y1 y3 y2 v1 h
    else
    some y2
set_option maxRecDepth 20000 in
set_option maxHeartbeats 4000000 in
theorem b_X7_leftToSee_L4 (h : dH) : ∀ (n : Nat) (y1 : Int32) (y2 : Int32) (y3 : Int32), B XC 3 RX7 cX7_leftToSee 4 (some .int) (fiP h) 4 [.ref 83, .int y1, .int y2, .int y3] [] h (f_X7_leftToSee_L4 h n y1 y2 y3) := by
  intro n
  induction n with
  | zero =>
    intro y1 y2 y3
    exact B_none
  | succ n ih =>
    intro y1 y2 y3
    rw [f_X7_leftToSee_L4]
    refine B_iload_n dX7_leftToSee_4 rfl rfl ?_
    refine B_aload_n dX7_leftToSee_5 rfl rfl ?_
    refine B_getR dX7_leftToSee_6 fl_X7_9 shC_83 rfl (rfC_83_3 _) ?_
    refine B_getI dX7_leftToSee_9 fl_X7_64 shC_3 rfl ?_
    refine C_icmp_ge (tgt := 41) dX7_leftToSee_12 (by decide) (fun q3 => ?_) (fun q3 => ?_)
    · refine B_iload_n dX7_leftToSee_41 rfl rfl ?_
      exact B_ireturn dX7_leftToSee_42 rfl rfl
    · refine B_iload_n dX7_leftToSee_15 rfl rfl ?_
      refine B_iload_n dX7_leftToSee_16 rfl rfl ?_
      refine B_iload_n dX7_leftToSee_17 rfl rfl ?_
      refine B_NTb (st := [.int y2]) dX7_leftToSee_18 cl_X7_69 (t_X11_isIn y1 y3 h) (Nat.le_of_ble_eq_true rfl) rfl rfl (Nat.le_of_ble_eq_true rfl) ?_
      refine C_ifb_eq (tgt := 28) dX7_leftToSee_21 (by decide) (fun q2 => ?_) (fun q2 => ?_)
      · refine B_aload_n dX7_leftToSee_28 rfl rfl ?_
        refine B_iload_n dX7_leftToSee_29 rfl rfl ?_
        refine B_Vp (st := [.int y2]) dX7_leftToSee_30 cl_X7_87 (t_X7_newAt y3 h) (Nat.le_of_ble_eq_true rfl) shC_83 rfl rfl (Nat.le_of_ble_eq_true rfl) (fun v1 _ => ?_)
        refine B_drop 2 (ls' := [.ref 83, .int y1, .null, .int y3]) rfl ?_
        exact b_X7_leftToSee_J33 h (fun qy1 qy2 qy3 => ih qy1 qy2 qy3) y1 y3 y2 v1
      · refine B_iconst dX7_leftToSee_24 ic_0 ?_
        refine B_goto (tgt := 33) dX7_leftToSee_25 (by decide) ?_
        refine B_drop 2 (ls' := [.ref 83, .int y1, .null, .int y3]) rfl ?_
        exact b_X7_leftToSee_J33 h (fun qy1 qy2 qy3 => ih qy1 qy2 qy3) y1 y3 y2 0
def f_X7_leftToSee (x1 : Int32) (h : dH) : Option (Int32) :=
  f_X7_leftToSee_L4 h dFu x1 0 0
set_option maxRecDepth 20000 in
set_option maxHeartbeats 4000000 in
theorem t_X7_leftToSee (x1 : Int32) (h : dH) : T XC 3 yX7_leftToSee cX7_leftToSee 4 (some .int) (fiP h) [.ref 83, .int x1] h (f_X7_leftToSee x1 h) := by
  refine T_of [.ref 83, .int x1, .null, .null] (by decide) (fun _ => rfl) (fun _ => Nat.le_of_ble_eq_true rfl) ?_
  show B XC 3 RX7 cX7_leftToSee 4 (some .int) (fiP h) 0 [.ref 83, .int x1, .null, .null] [] h (f_X7_leftToSee x1 h)
  unfold f_X7_leftToSee
  refine B_iconst dX7_leftToSee_0 ic_0 ?_
  refine B_istore_n (ls' := [.ref 83, .int x1, .int 0, .null]) dX7_leftToSee_1 rfl (Nat.le_of_ble_eq_true rfl) rfl rfl ?_
  refine B_iconst dX7_leftToSee_2 ic_0 ?_
  refine B_istore_n (ls' := [.ref 83, .int x1, .int 0, .int 0]) dX7_leftToSee_3 rfl (Nat.le_of_ble_eq_true rfl) rfl rfl ?_
  exact b_X7_leftToSee_L4 h dFu x1 0 0
def f_J6_bitCount_0f7a4 (x0 : Int32) (h : dH) : Int32 :=
  ((((((((x0 - (((x0).toUInt32 >>> ((1 : Int32).toUInt32 &&& Int32.toUInt32 31)).toInt32 &&& 1431655765)) &&& 858993459) + ((((x0 - (((x0).toUInt32 >>> ((1 : Int32).toUInt32 &&& Int32.toUInt32 31)).toInt32 &&& 1431655765))).toUInt32 >>> ((2 : Int32).toUInt32 &&& Int32.toUInt32 31)).toInt32 &&& 858993459)) + (((((x0 - (((x0).toUInt32 >>> ((1 : Int32).toUInt32 &&& Int32.toUInt32 31)).toInt32 &&& 1431655765)) &&& 858993459) + ((((x0 - (((x0).toUInt32 >>> ((1 : Int32).toUInt32 &&& Int32.toUInt32 31)).toInt32 &&& 1431655765))).toUInt32 >>> ((2 : Int32).toUInt32 &&& Int32.toUInt32 31)).toInt32 &&& 858993459))).toUInt32 >>> ((4 : Int32).toUInt32 &&& Int32.toUInt32 31)).toInt32) &&& 252645135) + (((((((x0 - (((x0).toUInt32 >>> ((1 : Int32).toUInt32 &&& Int32.toUInt32 31)).toInt32 &&& 1431655765)) &&& 858993459) + ((((x0 - (((x0).toUInt32 >>> ((1 : Int32).toUInt32 &&& Int32.toUInt32 31)).toInt32 &&& 1431655765))).toUInt32 >>> ((2 : Int32).toUInt32 &&& Int32.toUInt32 31)).toInt32 &&& 858993459)) + (((((x0 - (((x0).toUInt32 >>> ((1 : Int32).toUInt32 &&& Int32.toUInt32 31)).toInt32 &&& 1431655765)) &&& 858993459) + ((((x0 - (((x0).toUInt32 >>> ((1 : Int32).toUInt32 &&& Int32.toUInt32 31)).toInt32 &&& 1431655765))).toUInt32 >>> ((2 : Int32).toUInt32 &&& Int32.toUInt32 31)).toInt32 &&& 858993459))).toUInt32 >>> ((4 : Int32).toUInt32 &&& Int32.toUInt32 31)).toInt32) &&& 252645135)).toUInt32 >>> ((8 : Int32).toUInt32 &&& Int32.toUInt32 31)).toInt32) + ((((((((x0 - (((x0).toUInt32 >>> ((1 : Int32).toUInt32 &&& Int32.toUInt32 31)).toInt32 &&& 1431655765)) &&& 858993459) + ((((x0 - (((x0).toUInt32 >>> ((1 : Int32).toUInt32 &&& Int32.toUInt32 31)).toInt32 &&& 1431655765))).toUInt32 >>> ((2 : Int32).toUInt32 &&& Int32.toUInt32 31)).toInt32 &&& 858993459)) + (((((x0 - (((x0).toUInt32 >>> ((1 : Int32).toUInt32 &&& Int32.toUInt32 31)).toInt32 &&& 1431655765)) &&& 858993459) + ((((x0 - (((x0).toUInt32 >>> ((1 : Int32).toUInt32 &&& Int32.toUInt32 31)).toInt32 &&& 1431655765))).toUInt32 >>> ((2 : Int32).toUInt32 &&& Int32.toUInt32 31)).toInt32 &&& 858993459))).toUInt32 >>> ((4 : Int32).toUInt32 &&& Int32.toUInt32 31)).toInt32) &&& 252645135) + (((((((x0 - (((x0).toUInt32 >>> ((1 : Int32).toUInt32 &&& Int32.toUInt32 31)).toInt32 &&& 1431655765)) &&& 858993459) + ((((x0 - (((x0).toUInt32 >>> ((1 : Int32).toUInt32 &&& Int32.toUInt32 31)).toInt32 &&& 1431655765))).toUInt32 >>> ((2 : Int32).toUInt32 &&& Int32.toUInt32 31)).toInt32 &&& 858993459)) + (((((x0 - (((x0).toUInt32 >>> ((1 : Int32).toUInt32 &&& Int32.toUInt32 31)).toInt32 &&& 1431655765)) &&& 858993459) + ((((x0 - (((x0).toUInt32 >>> ((1 : Int32).toUInt32 &&& Int32.toUInt32 31)).toInt32 &&& 1431655765))).toUInt32 >>> ((2 : Int32).toUInt32 &&& Int32.toUInt32 31)).toInt32 &&& 858993459))).toUInt32 >>> ((4 : Int32).toUInt32 &&& Int32.toUInt32 31)).toInt32) &&& 252645135)).toUInt32 >>> ((8 : Int32).toUInt32 &&& Int32.toUInt32 31)).toInt32)).toUInt32 >>> ((16 : Int32).toUInt32 &&& Int32.toUInt32 31)).toInt32) &&& 63)
set_option maxRecDepth 20000 in
set_option maxHeartbeats 4000000 in
theorem t_J6_bitCount_0f7a4 (x0 : Int32) (h : dH) : T XC 0 yJ6_bitCount_0f7a4 cJ6_bitCount_0f7a4 1 (some .int) (fiP h) [.int x0] h (some (f_J6_bitCount_0f7a4 x0 h)) := by
  refine T_of [.int x0] (by decide) (fun _ => rfl) (fun _ => Nat.le_of_ble_eq_true rfl) ?_
  show B XC 0 RJ6 cJ6_bitCount_0f7a4 1 (some .int) (fiP h) 0 [.int x0] [] h (some (f_J6_bitCount_0f7a4 x0 h))
  unfold f_J6_bitCount_0f7a4
  refine B_iload_n dJ6_bitCount_0f7a4_0 rfl rfl ?_
  refine B_iload_n dJ6_bitCount_0f7a4_1 rfl rfl ?_
  refine B_iconst dJ6_bitCount_0f7a4_2 ic_1 ?_
  refine B_iushr dJ6_bitCount_0f7a4_3 ?_
  refine B_ldcw dJ6_bitCount_0f7a4_4 kc_J6_265 ?_
  refine B_iand dJ6_bitCount_0f7a4_7 ?_
  refine B_isub dJ6_bitCount_0f7a4_8 ?_
  refine B_istore_n (ls' := [.int (x0 - (((x0).toUInt32 >>> ((1 : Int32).toUInt32 &&& Int32.toUInt32 31)).toInt32 &&& 1431655765))]) dJ6_bitCount_0f7a4_9 rfl (Nat.le_of_ble_eq_true rfl) rfl rfl ?_
  refine B_iload_n dJ6_bitCount_0f7a4_10 rfl rfl ?_
  refine B_ldcw dJ6_bitCount_0f7a4_11 kc_J6_266 ?_
  refine B_iand dJ6_bitCount_0f7a4_14 ?_
  refine B_iload_n dJ6_bitCount_0f7a4_15 rfl rfl ?_
  refine B_iconst dJ6_bitCount_0f7a4_16 ic_2 ?_
  refine B_iushr dJ6_bitCount_0f7a4_17 ?_
  refine B_ldcw dJ6_bitCount_0f7a4_18 kc_J6_266 ?_
  refine B_iand dJ6_bitCount_0f7a4_21 ?_
  refine B_iadd dJ6_bitCount_0f7a4_22 ?_
  refine B_istore_n (ls' := [.int (((x0 - (((x0).toUInt32 >>> ((1 : Int32).toUInt32 &&& Int32.toUInt32 31)).toInt32 &&& 1431655765)) &&& 858993459) + ((((x0 - (((x0).toUInt32 >>> ((1 : Int32).toUInt32 &&& Int32.toUInt32 31)).toInt32 &&& 1431655765))).toUInt32 >>> ((2 : Int32).toUInt32 &&& Int32.toUInt32 31)).toInt32 &&& 858993459))]) dJ6_bitCount_0f7a4_23 rfl (Nat.le_of_ble_eq_true rfl) rfl rfl ?_
  refine B_iload_n dJ6_bitCount_0f7a4_24 rfl rfl ?_
  refine B_iload_n dJ6_bitCount_0f7a4_25 rfl rfl ?_
  refine B_iconst dJ6_bitCount_0f7a4_26 ic_4 ?_
  refine B_iushr dJ6_bitCount_0f7a4_27 ?_
  refine B_iadd dJ6_bitCount_0f7a4_28 ?_
  refine B_ldcw dJ6_bitCount_0f7a4_29 kc_J6_267 ?_
  refine B_iand dJ6_bitCount_0f7a4_32 ?_
  refine B_istore_n (ls' := [.int (((((x0 - (((x0).toUInt32 >>> ((1 : Int32).toUInt32 &&& Int32.toUInt32 31)).toInt32 &&& 1431655765)) &&& 858993459) + ((((x0 - (((x0).toUInt32 >>> ((1 : Int32).toUInt32 &&& Int32.toUInt32 31)).toInt32 &&& 1431655765))).toUInt32 >>> ((2 : Int32).toUInt32 &&& Int32.toUInt32 31)).toInt32 &&& 858993459)) + (((((x0 - (((x0).toUInt32 >>> ((1 : Int32).toUInt32 &&& Int32.toUInt32 31)).toInt32 &&& 1431655765)) &&& 858993459) + ((((x0 - (((x0).toUInt32 >>> ((1 : Int32).toUInt32 &&& Int32.toUInt32 31)).toInt32 &&& 1431655765))).toUInt32 >>> ((2 : Int32).toUInt32 &&& Int32.toUInt32 31)).toInt32 &&& 858993459))).toUInt32 >>> ((4 : Int32).toUInt32 &&& Int32.toUInt32 31)).toInt32) &&& 252645135)]) dJ6_bitCount_0f7a4_33 rfl (Nat.le_of_ble_eq_true rfl) rfl rfl ?_
  refine B_iload_n dJ6_bitCount_0f7a4_34 rfl rfl ?_
  refine B_iload_n dJ6_bitCount_0f7a4_35 rfl rfl ?_
  refine B_bipush dJ6_bitCount_0f7a4_36 bp_8 ?_
  refine B_iushr dJ6_bitCount_0f7a4_38 ?_
  refine B_iadd dJ6_bitCount_0f7a4_39 ?_
  refine B_istore_n (ls' := [.int ((((((x0 - (((x0).toUInt32 >>> ((1 : Int32).toUInt32 &&& Int32.toUInt32 31)).toInt32 &&& 1431655765)) &&& 858993459) + ((((x0 - (((x0).toUInt32 >>> ((1 : Int32).toUInt32 &&& Int32.toUInt32 31)).toInt32 &&& 1431655765))).toUInt32 >>> ((2 : Int32).toUInt32 &&& Int32.toUInt32 31)).toInt32 &&& 858993459)) + (((((x0 - (((x0).toUInt32 >>> ((1 : Int32).toUInt32 &&& Int32.toUInt32 31)).toInt32 &&& 1431655765)) &&& 858993459) + ((((x0 - (((x0).toUInt32 >>> ((1 : Int32).toUInt32 &&& Int32.toUInt32 31)).toInt32 &&& 1431655765))).toUInt32 >>> ((2 : Int32).toUInt32 &&& Int32.toUInt32 31)).toInt32 &&& 858993459))).toUInt32 >>> ((4 : Int32).toUInt32 &&& Int32.toUInt32 31)).toInt32) &&& 252645135) + (((((((x0 - (((x0).toUInt32 >>> ((1 : Int32).toUInt32 &&& Int32.toUInt32 31)).toInt32 &&& 1431655765)) &&& 858993459) + ((((x0 - (((x0).toUInt32 >>> ((1 : Int32).toUInt32 &&& Int32.toUInt32 31)).toInt32 &&& 1431655765))).toUInt32 >>> ((2 : Int32).toUInt32 &&& Int32.toUInt32 31)).toInt32 &&& 858993459)) + (((((x0 - (((x0).toUInt32 >>> ((1 : Int32).toUInt32 &&& Int32.toUInt32 31)).toInt32 &&& 1431655765)) &&& 858993459) + ((((x0 - (((x0).toUInt32 >>> ((1 : Int32).toUInt32 &&& Int32.toUInt32 31)).toInt32 &&& 1431655765))).toUInt32 >>> ((2 : Int32).toUInt32 &&& Int32.toUInt32 31)).toInt32 &&& 858993459))).toUInt32 >>> ((4 : Int32).toUInt32 &&& Int32.toUInt32 31)).toInt32) &&& 252645135)).toUInt32 >>> ((8 : Int32).toUInt32 &&& Int32.toUInt32 31)).toInt32)]) dJ6_bitCount_0f7a4_40 rfl (Nat.le_of_ble_eq_true rfl) rfl rfl ?_
  refine B_iload_n dJ6_bitCount_0f7a4_41 rfl rfl ?_
  refine B_iload_n dJ6_bitCount_0f7a4_42 rfl rfl ?_
  refine B_bipush dJ6_bitCount_0f7a4_43 bp_16 ?_
  refine B_iushr dJ6_bitCount_0f7a4_45 ?_
  refine B_iadd dJ6_bitCount_0f7a4_46 ?_
  refine B_istore_n (ls' := [.int (((((((x0 - (((x0).toUInt32 >>> ((1 : Int32).toUInt32 &&& Int32.toUInt32 31)).toInt32 &&& 1431655765)) &&& 858993459) + ((((x0 - (((x0).toUInt32 >>> ((1 : Int32).toUInt32 &&& Int32.toUInt32 31)).toInt32 &&& 1431655765))).toUInt32 >>> ((2 : Int32).toUInt32 &&& Int32.toUInt32 31)).toInt32 &&& 858993459)) + (((((x0 - (((x0).toUInt32 >>> ((1 : Int32).toUInt32 &&& Int32.toUInt32 31)).toInt32 &&& 1431655765)) &&& 858993459) + ((((x0 - (((x0).toUInt32 >>> ((1 : Int32).toUInt32 &&& Int32.toUInt32 31)).toInt32 &&& 1431655765))).toUInt32 >>> ((2 : Int32).toUInt32 &&& Int32.toUInt32 31)).toInt32 &&& 858993459))).toUInt32 >>> ((4 : Int32).toUInt32 &&& Int32.toUInt32 31)).toInt32) &&& 252645135) + (((((((x0 - (((x0).toUInt32 >>> ((1 : Int32).toUInt32 &&& Int32.toUInt32 31)).toInt32 &&& 1431655765)) &&& 858993459) + ((((x0 - (((x0).toUInt32 >>> ((1 : Int32).toUInt32 &&& Int32.toUInt32 31)).toInt32 &&& 1431655765))).toUInt32 >>> ((2 : Int32).toUInt32 &&& Int32.toUInt32 31)).toInt32 &&& 858993459)) + (((((x0 - (((x0).toUInt32 >>> ((1 : Int32).toUInt32 &&& Int32.toUInt32 31)).toInt32 &&& 1431655765)) &&& 858993459) + ((((x0 - (((x0).toUInt32 >>> ((1 : Int32).toUInt32 &&& Int32.toUInt32 31)).toInt32 &&& 1431655765))).toUInt32 >>> ((2 : Int32).toUInt32 &&& Int32.toUInt32 31)).toInt32 &&& 858993459))).toUInt32 >>> ((4 : Int32).toUInt32 &&& Int32.toUInt32 31)).toInt32) &&& 252645135)).toUInt32 >>> ((8 : Int32).toUInt32 &&& Int32.toUInt32 31)).toInt32) + ((((((((x0 - (((x0).toUInt32 >>> ((1 : Int32).toUInt32 &&& Int32.toUInt32 31)).toInt32 &&& 1431655765)) &&& 858993459) + ((((x0 - (((x0).toUInt32 >>> ((1 : Int32).toUInt32 &&& Int32.toUInt32 31)).toInt32 &&& 1431655765))).toUInt32 >>> ((2 : Int32).toUInt32 &&& Int32.toUInt32 31)).toInt32 &&& 858993459)) + (((((x0 - (((x0).toUInt32 >>> ((1 : Int32).toUInt32 &&& Int32.toUInt32 31)).toInt32 &&& 1431655765)) &&& 858993459) + ((((x0 - (((x0).toUInt32 >>> ((1 : Int32).toUInt32 &&& Int32.toUInt32 31)).toInt32 &&& 1431655765))).toUInt32 >>> ((2 : Int32).toUInt32 &&& Int32.toUInt32 31)).toInt32 &&& 858993459))).toUInt32 >>> ((4 : Int32).toUInt32 &&& Int32.toUInt32 31)).toInt32) &&& 252645135) + (((((((x0 - (((x0).toUInt32 >>> ((1 : Int32).toUInt32 &&& Int32.toUInt32 31)).toInt32 &&& 1431655765)) &&& 858993459) + ((((x0 - (((x0).toUInt32 >>> ((1 : Int32).toUInt32 &&& Int32.toUInt32 31)).toInt32 &&& 1431655765))).toUInt32 >>> ((2 : Int32).toUInt32 &&& Int32.toUInt32 31)).toInt32 &&& 858993459)) + (((((x0 - (((x0).toUInt32 >>> ((1 : Int32).toUInt32 &&& Int32.toUInt32 31)).toInt32 &&& 1431655765)) &&& 858993459) + ((((x0 - (((x0).toUInt32 >>> ((1 : Int32).toUInt32 &&& Int32.toUInt32 31)).toInt32 &&& 1431655765))).toUInt32 >>> ((2 : Int32).toUInt32 &&& Int32.toUInt32 31)).toInt32 &&& 858993459))).toUInt32 >>> ((4 : Int32).toUInt32 &&& Int32.toUInt32 31)).toInt32) &&& 252645135)).toUInt32 >>> ((8 : Int32).toUInt32 &&& Int32.toUInt32 31)).toInt32)).toUInt32 >>> ((16 : Int32).toUInt32 &&& Int32.toUInt32 31)).toInt32)]) dJ6_bitCount_0f7a4_47 rfl (Nat.le_of_ble_eq_true rfl) rfl rfl ?_
  refine B_iload_n dJ6_bitCount_0f7a4_48 rfl rfl ?_
  refine B_bipush dJ6_bitCount_0f7a4_49 bp_63 ?_
  refine B_iand dJ6_bitCount_0f7a4_51 ?_
  exact B_ireturn dJ6_bitCount_0f7a4_52 rfl rfl
def f_X7_leftPlaces_J37 (kL4 : Int32 → Int32 → Int32 → Option (Int32)) (y1 : Int32) (y3 : Int32) (z0 : Int32) (z1 : Bool) (h : dH) : Option (Int32) :=
  (some ((z0 + (bi z1)))).bind fun v5 =>
  kL4 y1 v5 (y3 + 1)
set_option maxRecDepth 20000 in
set_option maxHeartbeats 4000000 in
theorem b_X7_leftPlaces_J37 {kL4 : Int32 → Int32 → Int32 → Option (Int32)} (h : dH) (hkL4 : ∀ (y1 : Int32) (y2 : Int32) (y3 : Int32), B XC 3 RX7 cX7_leftPlaces 4 (some .int) (fiP h) 4 [.ref 83, .int y1, .int y2, .int y3] [] h (kL4 y1 y2 y3)) (y1 : Int32) (y3 : Int32) (z0 : Int32) (z1 : Bool) : B XC 3 RX7 cX7_leftPlaces 4 (some .int) (fiP h) 37 [.ref 83, .int y1, .null, .int y3] [.int (bi z1), .int z0] h (f_X7_leftPlaces_J37 kL4 y1 y3 z0 z1 h) := by
  unfold f_X7_leftPlaces_J37
  refine B_iadd dX7_leftPlaces_37 ?_
  refine B_lv (fun v5 => ?_)
  refine B_istore_n (ls' := [.ref 83, .int y1, .int v5, .int y3]) dX7_leftPlaces_38 rfl (Nat.le_of_ble_eq_true rfl) rfl rfl ?_
  refine B_iinc (w := (y3 + 1)) (ls' := [.ref 83, .int y1, .int v5, .int (y3 + 1)]) dX7_leftPlaces_39 rfl (congrArg (fun z => y3 + z) ic_1) (Nat.le_of_ble_eq_true rfl) rfl rfl ?_
  refine B_goto (tgt := 4) dX7_leftPlaces_42 (by decide) ?_
  exact hkL4 y1 v5 (y3 + 1)  
def f_X7_leftPlaces_J32 (kL4 : Int32 → Int32 → Int32 → Option (Int32)) (y1 : Int32) (y3 : Int32) (z0 : Int32) (h : dH) : Option (Int32) :=
  f_X7_leftPlaces_J37 kL4 y1 y3 z0 false h
set_option maxRecDepth 20000 in
set_option maxHeartbeats 4000000 in
theorem b_X7_leftPlaces_J32 {kL4 : Int32 → Int32 → Int32 → Option (Int32)} (h : dH) (hkL4 : ∀ (y1 : Int32) (y2 : Int32) (y3 : Int32), B XC 3 RX7 cX7_leftPlaces 4 (some .int) (fiP h) 4 [.ref 83, .int y1, .int y2, .int y3] [] h (kL4 y1 y2 y3)) (y1 : Int32) (y3 : Int32) (z0 : Int32) : B XC 3 RX7 cX7_leftPlaces 4 (some .int) (fiP h) 32 [.ref 83, .int y1, .null, .int y3] [.int z0] h (f_X7_leftPlaces_J32 kL4 y1 y3 z0 h) := by
  unfold f_X7_leftPlaces_J32
  refine B_iconst dX7_leftPlaces_32 ic_0 ?_
  refine B_goto (tgt := 37) dX7_leftPlaces_33 (by decide) ?_
  exact b_X7_leftPlaces_J37 h hkL4 y1 y3 z0 false
def f_X7_leftPlaces_L4 (h : dH) : Nat → Int32 → Int32 → Int32 → Option (Int32)
  | 0, _, _, _ => none
  | n + 1, y1, y2, y3 =>
    if y3 < (h.1 3 2) then
    if (f_X11_isIn y1 y3 h) then
    f_X7_leftPlaces_J32 (f_X7_leftPlaces_L4 h n) y1 y3 y2 h
    else
    (f_X7_newAt y3 h).bind fun v1 =>
    if v1 = 0 then
    f_X7_leftPlaces_J32 (f_X7_leftPlaces_L4 h n) y1 y3 y2 h
    else
    f_X7_leftPlaces_J37 (f_X7_leftPlaces_L4 h n) y1 y3 y2 true h
    else
    some y2
set_option maxRecDepth 20000 in
set_option maxHeartbeats 4000000 in
theorem b_X7_leftPlaces_L4 (h : dH) : ∀ (n : Nat) (y1 : Int32) (y2 : Int32) (y3 : Int32), B XC 3 RX7 cX7_leftPlaces 4 (some .int) (fiP h) 4 [.ref 83, .int y1, .int y2, .int y3] [] h (f_X7_leftPlaces_L4 h n y1 y2 y3) := by
  intro n
  induction n with
  | zero =>
    intro y1 y2 y3
    exact B_none
  | succ n ih =>
    intro y1 y2 y3
    rw [f_X7_leftPlaces_L4]
    refine B_iload_n dX7_leftPlaces_4 rfl rfl ?_
    refine B_aload_n dX7_leftPlaces_5 rfl rfl ?_
    refine B_getR dX7_leftPlaces_6 fl_X7_9 shC_83 rfl (rfC_83_3 _) ?_
    refine B_getI dX7_leftPlaces_9 fl_X7_64 shC_3 rfl ?_
    refine C_icmp_ge (tgt := 45) dX7_leftPlaces_12 (by decide) (fun q4 => ?_) (fun q4 => ?_)
    · refine B_iload_n dX7_leftPlaces_45 rfl rfl ?_
      exact B_ireturn dX7_leftPlaces_46 rfl rfl
    · refine B_iload_n dX7_leftPlaces_15 rfl rfl ?_
      refine B_iload_n dX7_leftPlaces_16 rfl rfl ?_
      refine B_iload_n dX7_leftPlaces_17 rfl rfl ?_
      refine B_NTb (st := [.int y2]) dX7_leftPlaces_18 cl_X7_69 (t_X11_isIn y1 y3 h) (Nat.le_of_ble_eq_true rfl) rfl rfl (Nat.le_of_ble_eq_true rfl) ?_
      refine C_ifb_ne (tgt := 32) dX7_leftPlaces_21 (by decide) (fun q3 => ?_) (fun q3 => ?_)
      · refine B_drop 2 (ls' := [.ref 83, .int y1, .null, .int y3]) rfl ?_
        exact b_X7_leftPlaces_J32 h (fun qy1 qy2 qy3 => ih qy1 qy2 qy3) y1 y3 y2
      · refine B_aload_n dX7_leftPlaces_24 rfl rfl ?_
        refine B_iload_n dX7_leftPlaces_25 rfl rfl ?_
        refine B_Vp (st := [.int y2]) dX7_leftPlaces_26 cl_X7_87 (t_X7_newAt y3 h) (Nat.le_of_ble_eq_true rfl) shC_83 rfl rfl (Nat.le_of_ble_eq_true rfl) (fun v1 _ => ?_)
        refine C_if_ne (tgt := 36) dX7_leftPlaces_29 (by decide) (fun q2 => ?_) (fun q2 => ?_)
        · refine B_iconst dX7_leftPlaces_36 ic_1 ?_
          refine B_drop 2 (ls' := [.ref 83, .int y1, .null, .int y3]) rfl ?_
          exact b_X7_leftPlaces_J37 h (fun qy1 qy2 qy3 => ih qy1 qy2 qy3) y1 y3 y2 true
        · refine B_drop 2 (ls' := [.ref 83, .int y1, .null, .int y3]) rfl ?_
          exact b_X7_leftPlaces_J32 h (fun qy1 qy2 qy3 => ih qy1 qy2 qy3) y1 y3 y2
def f_X7_leftPlaces (x1 : Int32) (h : dH) : Option (Int32) :=
  f_X7_leftPlaces_L4 h dFu x1 0 0
set_option maxRecDepth 20000 in
set_option maxHeartbeats 4000000 in
theorem t_X7_leftPlaces (x1 : Int32) (h : dH) : T XC 3 yX7_leftPlaces cX7_leftPlaces 4 (some .int) (fiP h) [.ref 83, .int x1] h (f_X7_leftPlaces x1 h) := by
  refine T_of [.ref 83, .int x1, .null, .null] (by decide) (fun _ => rfl) (fun _ => Nat.le_of_ble_eq_true rfl) ?_
  show B XC 3 RX7 cX7_leftPlaces 4 (some .int) (fiP h) 0 [.ref 83, .int x1, .null, .null] [] h (f_X7_leftPlaces x1 h)
  unfold f_X7_leftPlaces
  refine B_iconst dX7_leftPlaces_0 ic_0 ?_
  refine B_istore_n (ls' := [.ref 83, .int x1, .int 0, .null]) dX7_leftPlaces_1 rfl (Nat.le_of_ble_eq_true rfl) rfl rfl ?_
  refine B_iconst dX7_leftPlaces_2 ic_0 ?_
  refine B_istore_n (ls' := [.ref 83, .int x1, .int 0, .int 0]) dX7_leftPlaces_3 rfl (Nat.le_of_ble_eq_true rfl) rfl rfl ?_
  exact b_X7_leftPlaces_L4 h dFu x1 0 0
def f_X7_isBetter (x1 : Int32) (x2 : Int32) (h : dH) : Bool :=
  if (h.1 83 1) < x1 then
  true
  else
  if x1 = (h.1 83 1) then
  if x2 < (h.1 83 5) then
  true
  else
  false
  else
  false
set_option maxRecDepth 20000 in
set_option maxHeartbeats 4000000 in
theorem t_X7_isBetter (x1 : Int32) (x2 : Int32) (h : dH) : T XC 0 yX7_isBetter cX7_isBetter 3 (some .boolean) (fiB h) [.ref 83, .int x1, .int x2] h (some (f_X7_isBetter x1 x2 h)) := by
  refine T_of [.ref 83, .int x1, .int x2] (by decide) (fun _ => rfl) (fun _ => Nat.le_of_ble_eq_true rfl) ?_
  show B XC 0 RX7 cX7_isBetter 3 (some .boolean) (fiB h) 0 [.ref 83, .int x1, .int x2] [] h (some (f_X7_isBetter x1 x2 h))
  unfold f_X7_isBetter
  refine B_iload_n dX7_isBetter_0 rfl rfl ?_
  refine B_aload_n dX7_isBetter_1 rfl rfl ?_
  refine B_getI dX7_isBetter_2 fl_X7_26 shC_83 rfl ?_
  refine C_some ?_
  refine C_icmp_gt (tgt := 24) dX7_isBetter_5 (by decide) (fun q3 => ?_) (fun q3 => ?_)
  · refine B_iconst dX7_isBetter_24 ic_1 ?_
    refine B_goto (tgt := 29) dX7_isBetter_25 (by decide) ?_
    exact B_zreturn dX7_isBetter_29 rfl rfl rfl
  · refine B_iload_n dX7_isBetter_8 rfl rfl ?_
    refine B_aload_n dX7_isBetter_9 rfl rfl ?_
    refine B_getI dX7_isBetter_10 fl_X7_26 shC_83 rfl ?_
    refine C_some ?_
    refine C_icmp_ne (tgt := 28) dX7_isBetter_13 (by decide) (fun q2 => ?_) (fun q2 => ?_)
    · refine B_iconst dX7_isBetter_28 ic_0 ?_
      exact B_zreturn dX7_isBetter_29 rfl rfl rfl
    · refine B_iload_n dX7_isBetter_16 rfl rfl ?_
      refine B_aload_n dX7_isBetter_17 rfl rfl ?_
      refine B_getI dX7_isBetter_18 fl_X7_23 shC_83 rfl ?_
      refine C_some ?_
      refine C_icmp_ge (tgt := 28) dX7_isBetter_21 (by decide) (fun q1 => ?_) (fun q1 => ?_)
      · refine B_iconst dX7_isBetter_28 ic_0 ?_
        exact B_zreturn dX7_isBetter_29 rfl rfl rfl
      · refine B_iconst dX7_isBetter_24 ic_1 ?_
        refine B_goto (tgt := 29) dX7_isBetter_25 (by decide) ?_
        exact B_zreturn dX7_isBetter_29 rfl rfl rfl
def f_X8_troubleWithoutLaw (x0 : Int32) (x1 : Int32) (h : dH) : Int32 :=
  (f_X11_held 0 30 ((((4 + (2 * x0)) - x1) : Int32).toInt64) h)
set_option maxRecDepth 20000 in
set_option maxHeartbeats 4000000 in
theorem t_X8_troubleWithoutLaw (x0 : Int32) (x1 : Int32) (h : dH) : T XC 1 yX8_troubleWithoutLaw cX8_troubleWithoutLaw 2 (some .int) (fiP h) [.int x0, .int x1] h (some (f_X8_troubleWithoutLaw x0 x1 h)) := by
  refine T_of [.int x0, .int x1] (by decide) (fun _ => rfl) (fun _ => Nat.le_of_ble_eq_true rfl) ?_
  show B XC 1 RX8 cX8_troubleWithoutLaw 2 (some .int) (fiP h) 0 [.int x0, .int x1] [] h (some (f_X8_troubleWithoutLaw x0 x1 h))
  unfold f_X8_troubleWithoutLaw
  refine B_iconst dX8_troubleWithoutLaw_0 ic_0 ?_
  refine B_bipush dX8_troubleWithoutLaw_1 bp_30 ?_
  refine B_iconst dX8_troubleWithoutLaw_3 ic_4 ?_
  refine B_iconst dX8_troubleWithoutLaw_4 ic_2 ?_
  refine B_iload_n dX8_troubleWithoutLaw_5 rfl rfl ?_
  refine B_imul dX8_troubleWithoutLaw_6 ?_
  refine B_iadd dX8_troubleWithoutLaw_7 ?_
  refine B_iload_n dX8_troubleWithoutLaw_8 rfl rfl ?_
  refine B_isub dX8_troubleWithoutLaw_9 ?_
  refine B_i2l dX8_troubleWithoutLaw_10 ?_
  refine B_Nt (st := []) dX8_troubleWithoutLaw_11 cl_X8_63 (t_X11_held 0 30 ((((4 + (2 * x0)) - x1) : Int32).toInt64) h) (Nat.le_of_ble_eq_true rfl) rfl rfl (Nat.le_of_ble_eq_true rfl) ?_
  exact B_ireturn dX8_troubleWithoutLaw_14 rfl rfl
def f_X8_troubleThen (t : Nat) (x1 : Int32) (x2 : Int32) (x3 : Int32) (x4 : Int32) (h : dH) : Option (Int32 × dH) :=
  if (h.1 42 2) = (-1) then
  (f_X8_visitsOf t x1 h).bind fun v13 =>
  some ((f_X8_troubleWithoutLaw v13 (h.1 4 2) h), h)
  else
  (f_X1_toldOf 3 x1 2 h).bind fun v1 =>
  (some (dPut h 43 0 v1)).bind fun h2 =>
  (f_X1_toldOf 3 x1 3 h2).bind fun v3 =>
  (some (dPut h2 43 1 (v3 + x4))).bind fun h4 =>
  (f_X8_patienceOf t x1 h4).bind fun v5 =>
  (some (dPut h4 43 2 v5)).bind fun h6 =>
  (some (dPut h6 43 3 x2)).bind fun h7 =>
  (f_X8_visitsOf t x1 h7).bind fun v8 =>
  (some (dPut h7 43 4 v8)).bind fun h9 =>
  (some (dPut h9 43 5 x3)).bind fun h10 =>
  (f_X5_worth h10).bind fun rv11 =>
  some ((f_X11_held 0 30 ((rv11.1 : Int32).toInt64) rv11.2), rv11.2)
set_option maxRecDepth 20000 in
set_option maxHeartbeats 4000000 in
theorem t_X8_troubleThen (t : Nat) (ht : XC.1[t]? = some (.inl 8)) (x1 : Int32) (x2 : Int32) (x3 : Int32) (x4 : Int32) (h : dH) : T XC 2 yX8_troubleThen cX8_troubleThen 5 (some .int) fiI [.ref t, .int x1, .int x2, .int x3, .int x4] h (f_X8_troubleThen t x1 x2 x3 x4 h) := by
  refine T_of [.ref t, .int x1, .int x2, .int x3, .int x4] (by decide) (fun _ => rfl) (fun _ => Nat.le_of_ble_eq_true rfl) ?_
  show B XC 2 RX8 cX8_troubleThen 5 (some .int) fiI 0 [.ref t, .int x1, .int x2, .int x3, .int x4] [] h (f_X8_troubleThen t x1 x2 x3 x4 h)
  unfold f_X8_troubleThen
  refine B_aload_n dX8_troubleThen_0 rfl rfl ?_
  refine B_getR dX8_troubleThen_1 fl_X8_19 ht rfl (rfX8_1 _ ht) ?_
  refine B_getI dX8_troubleThen_4 fl_X8_67 shC_42 rfl ?_
  refine B_iconst dX8_troubleThen_7 ic_m1 ?_
  refine C_icmp_ne (tgt := 29) dX8_troubleThen_8 (by decide) (fun q14 => ?_) (fun q14 => ?_)
  · refine B_aload_n dX8_troubleThen_29 rfl rfl ?_
    refine B_getR dX8_troubleThen_30 fl_X8_19 ht rfl (rfX8_1 _ ht) ?_
    refine B_getR dX8_troubleThen_33 fl_X8_78 shC_42 rfl (rfC_42_0 _) ?_
    refine B_iconst dX8_troubleThen_36 ic_0 ?_
    refine B_aload_n dX8_troubleThen_37 rfl rfl ?_
    refine B_getR dX8_troubleThen_38 fl_X8_15 ht rfl (rfX8_0 _ ht) ?_
    refine B_iload_n dX8_troubleThen_41 rfl rfl ?_
    refine B_iconst dX8_troubleThen_42 ic_2 ?_
    refine B_Vp (st := [.int 0, .ref 43]) dX8_troubleThen_43 cl_X8_23 (t_X1_toldOf 3 shC_3 x1 2 h) (Nat.le_of_ble_eq_true rfl) shC_3 rfl rfl (Nat.le_of_ble_eq_true rfl) (fun v1 _ => ?_)
    refine L_iast dX8_troubleThen_46 shC_43 (by decide) di_0 ?_
    refine B_lh (fun h2 => ?_)
    refine B_aload_n dX8_troubleThen_47 rfl rfl ?_
    refine B_getR dX8_troubleThen_48 fl_X8_19 ht rfl (rfX8_1 _ ht) ?_
    refine B_getR dX8_troubleThen_51 fl_X8_78 shC_42 rfl (rfC_42_0 _) ?_
    refine B_iconst dX8_troubleThen_54 ic_1 ?_
    refine B_aload_n dX8_troubleThen_55 rfl rfl ?_
    refine B_getR dX8_troubleThen_56 fl_X8_15 ht rfl (rfX8_0 _ ht) ?_
    refine B_iload_n dX8_troubleThen_59 rfl rfl ?_
    refine B_iconst dX8_troubleThen_60 ic_3 ?_
    refine B_Vp (st := [.int 1, .ref 43]) dX8_troubleThen_61 cl_X8_23 (t_X1_toldOf 3 shC_3 x1 3 h2) (Nat.le_of_ble_eq_true rfl) shC_3 rfl rfl (Nat.le_of_ble_eq_true rfl) (fun v3 _ => ?_)
    refine B_iload dX8_troubleThen_64 rfl ?_
    refine B_iadd dX8_troubleThen_66 ?_
    refine L_iast dX8_troubleThen_67 shC_43 (by decide) di_1 ?_
    refine B_lh (fun h4 => ?_)
    refine B_aload_n dX8_troubleThen_68 rfl rfl ?_
    refine B_getR dX8_troubleThen_69 fl_X8_19 ht rfl (rfX8_1 _ ht) ?_
    refine B_getR dX8_troubleThen_72 fl_X8_78 shC_42 rfl (rfC_42_0 _) ?_
    refine B_iconst dX8_troubleThen_75 ic_2 ?_
    refine B_aload_n dX8_troubleThen_76 rfl rfl ?_
    refine B_iload_n dX8_troubleThen_77 rfl rfl ?_
    refine B_Vp (st := [.int 2, .ref 43]) dX8_troubleThen_78 cl_X8_43 (t_X8_patienceOf t ht x1 h4) (Nat.le_of_ble_eq_true rfl) ht rfl rfl (Nat.le_of_ble_eq_true rfl) (fun v5 _ => ?_)
    refine L_iast dX8_troubleThen_81 shC_43 (by decide) di_2 ?_
    refine B_lh (fun h6 => ?_)
    refine B_aload_n dX8_troubleThen_82 rfl rfl ?_
    refine B_getR dX8_troubleThen_83 fl_X8_19 ht rfl (rfX8_1 _ ht) ?_
    refine B_getR dX8_troubleThen_86 fl_X8_78 shC_42 rfl (rfC_42_0 _) ?_
    refine B_iconst dX8_troubleThen_89 ic_3 ?_
    refine B_iload_n dX8_troubleThen_90 rfl rfl ?_
    refine L_iast dX8_troubleThen_91 shC_43 (by decide) di_3 ?_
    refine B_lh (fun h7 => ?_)
    refine B_aload_n dX8_troubleThen_92 rfl rfl ?_
    refine B_getR dX8_troubleThen_93 fl_X8_19 ht rfl (rfX8_1 _ ht) ?_
    refine B_getR dX8_troubleThen_96 fl_X8_78 shC_42 rfl (rfC_42_0 _) ?_
    refine B_iconst dX8_troubleThen_99 ic_4 ?_
    refine B_aload_n dX8_troubleThen_100 rfl rfl ?_
    refine B_iload_n dX8_troubleThen_101 rfl rfl ?_
    refine B_Vp (st := [.int 4, .ref 43]) dX8_troubleThen_102 cl_X8_72 (t_X8_visitsOf t ht x1 h7) (Nat.le_of_ble_eq_true rfl) ht rfl rfl (Nat.le_of_ble_eq_true rfl) (fun v8 _ => ?_)
    refine L_iast dX8_troubleThen_105 shC_43 (by decide) di_4 ?_
    refine B_lh (fun h9 => ?_)
    refine B_aload_n dX8_troubleThen_106 rfl rfl ?_
    refine B_getR dX8_troubleThen_107 fl_X8_19 ht rfl (rfX8_1 _ ht) ?_
    refine B_getR dX8_troubleThen_110 fl_X8_78 shC_42 rfl (rfC_42_0 _) ?_
    refine B_iconst dX8_troubleThen_113 ic_5 ?_
    refine B_iload_n dX8_troubleThen_114 rfl rfl ?_
    refine L_iast dX8_troubleThen_115 shC_43 (by decide) di_5 ?_
    refine B_lh (fun h10 => ?_)
    refine B_iconst dX8_troubleThen_116 ic_0 ?_
    refine B_bipush dX8_troubleThen_117 bp_30 ?_
    refine B_aload_n dX8_troubleThen_119 rfl rfl ?_
    refine B_getR dX8_troubleThen_120 fl_X8_19 ht rfl (rfX8_1 _ ht) ?_
    refine B_VI (st := [.int 30, .int 0]) dX8_troubleThen_123 cl_X8_81 (t_X5_worth h10) (Nat.le_of_ble_eq_true rfl) shC_42 rfl rfl (Nat.le_of_ble_eq_true rfl) (fun v11 h12 _ => ?_)
    refine B_i2l dX8_troubleThen_126 ?_
    refine B_Nt (st := []) dX8_troubleThen_127 cl_X8_63 (t_X11_held 0 30 ((v11 : Int32).toInt64) h12) (Nat.le_of_ble_eq_true rfl) rfl rfl (Nat.le_of_ble_eq_true rfl) ?_
    exact B_ireturn dX8_troubleThen_130 rfl rfl
  · refine B_aload_n dX8_troubleThen_11 rfl rfl ?_
    refine B_iload_n dX8_troubleThen_12 rfl rfl ?_
    refine B_Vp (st := []) dX8_troubleThen_13 cl_X8_72 (t_X8_visitsOf t ht x1 h) (Nat.le_of_ble_eq_true rfl) ht rfl rfl (Nat.le_of_ble_eq_true rfl) (fun v13 _ => ?_)
    refine B_aload_n dX8_troubleThen_16 rfl rfl ?_
    refine B_getR dX8_troubleThen_17 fl_X8_15 ht rfl (rfX8_0 _ ht) ?_
    refine B_getR dX8_troubleThen_20 fl_X8_60 shC_3 rfl (rfC_3_0 _) ?_
    refine B_iconst dX8_troubleThen_23 ic_2 ?_
    refine L_iald dX8_troubleThen_24 shC_4 (by decide) di_2 ?_
    refine B_St (st := []) dX8_troubleThen_25 cl_X8_75 (t_X8_troubleWithoutLaw v13 (h.1 4 2) h) (Nat.le_of_ble_eq_true rfl) rfl rfl (Nat.le_of_ble_eq_true rfl) ?_
    exact B_ireturn dX8_troubleThen_28 rfl rfl
def f_X7_isBorneBy (x1 : Int32) (x2 : Int32) (h : dH) : Option (Bool) :=
  (f_X8_isTooMuch x1 0 h).bind fun v1 =>
  if v1 then
  some true
  else
  (f_X8_isTooMuch x1 x2 h).bind fun v2 =>
  if v2 then
  some false
  else
  some true
set_option maxRecDepth 20000 in
set_option maxHeartbeats 4000000 in
theorem t_X7_isBorneBy (x1 : Int32) (x2 : Int32) (h : dH) : T XC 3 yX7_isBorneBy cX7_isBorneBy 3 (some .boolean) (fiB h) [.ref 83, .int x1, .int x2] h (f_X7_isBorneBy x1 x2 h) := by
  refine T_of [.ref 83, .int x1, .int x2] (by decide) (fun _ => rfl) (fun _ => Nat.le_of_ble_eq_true rfl) ?_
  show B XC 3 RX7 cX7_isBorneBy 3 (some .boolean) (fiB h) 0 [.ref 83, .int x1, .int x2] [] h (f_X7_isBorneBy x1 x2 h)
  unfold f_X7_isBorneBy
  refine B_aload_n dX7_isBorneBy_0 rfl rfl ?_
  refine B_getR dX7_isBorneBy_1 fl_X7_15 shC_83 rfl (rfC_83_4 _) ?_
  refine B_iload_n dX7_isBorneBy_4 rfl rfl ?_
  refine B_iconst dX7_isBorneBy_5 ic_0 ?_
  refine B_Vpb (st := []) dX7_isBorneBy_6 cl_X7_96 (t_X8_isTooMuch x1 0 h) (Nat.le_of_ble_eq_true rfl) shC_66 rfl rfl (Nat.le_of_ble_eq_true rfl) (fun v1 _ => ?_)
  refine C_ifb_ne (tgt := 24) dX7_isBorneBy_9 (by decide) (fun q4 => ?_) (fun q4 => ?_)
  · refine B_iconst dX7_isBorneBy_24 ic_1 ?_
    refine B_goto (tgt := 29) dX7_isBorneBy_25 (by decide) ?_
    exact B_zreturn dX7_isBorneBy_29 rfl rfl rfl
  · refine B_aload_n dX7_isBorneBy_12 rfl rfl ?_
    refine B_getR dX7_isBorneBy_13 fl_X7_15 shC_83 rfl (rfC_83_4 _) ?_
    refine B_iload_n dX7_isBorneBy_16 rfl rfl ?_
    refine B_iload_n dX7_isBorneBy_17 rfl rfl ?_
    refine B_Vpb (st := []) dX7_isBorneBy_18 cl_X7_96 (t_X8_isTooMuch x1 x2 h) (Nat.le_of_ble_eq_true rfl) shC_66 rfl rfl (Nat.le_of_ble_eq_true rfl) (fun v2 _ => ?_)
    refine C_ifb_ne (tgt := 28) dX7_isBorneBy_21 (by decide) (fun q3 => ?_) (fun q3 => ?_)
    · refine B_iconst dX7_isBorneBy_28 ic_0 ?_
      exact B_zreturn dX7_isBorneBy_29 rfl rfl rfl
    · refine B_iconst dX7_isBorneBy_24 ic_1 ?_
      refine B_goto (tgt := 29) dX7_isBorneBy_25 (by decide) ?_
      exact B_zreturn dX7_isBorneBy_29 rfl rfl rfl
def f_X7_isBorne_J116 (kL29 : Int32 → Int32 → Int32 → Int32 → Int32 → Int32 → Option (Bool)) (y1 : Int32) (y2 : Int32) (y3 : Int32) (y4 : Int32) (y5 : Int32) (y6 : Int32) (y7 : Int32) (h : dH) : Option (Bool) :=
  (f_X8_isTooMuch y6 y7 h).bind fun v12 =>
  if v12 then
  some false
  else
  kL29 y1 y2 y3 y4 y5 (y6 + 1)
set_option maxRecDepth 20000 in
set_option maxHeartbeats 4000000 in
theorem b_X7_isBorne_J116 {kL29 : Int32 → Int32 → Int32 → Int32 → Int32 → Int32 → Option (Bool)} (h : dH) (hkL29 : ∀ (y1 : Int32) (y2 : Int32) (y3 : Int32) (y4 : Int32) (y5 : Int32) (y6 : Int32), B XC 3 RX7 cX7_isBorne 9 (some .boolean) (fiB h) 29 [.ref 83, .int y1, .int y2, .int y3, .int y4, .int y5, .int y6, .null, .null] [] h (kL29 y1 y2 y3 y4 y5 y6)) (y1 : Int32) (y2 : Int32) (y3 : Int32) (y4 : Int32) (y5 : Int32) (y6 : Int32) (y7 : Int32) : B XC 3 RX7 cX7_isBorne 9 (some .boolean) (fiB h) 116 [.ref 83, .int y1, .int y2, .int y3, .int y4, .int y5, .int y6, .int y7, .null] [] h (f_X7_isBorne_J116 kL29 y1 y2 y3 y4 y5 y6 y7 h) := by
  unfold f_X7_isBorne_J116
  refine B_aload_n dX7_isBorne_116 rfl rfl ?_
  refine B_getR dX7_isBorne_117 fl_X7_15 shC_83 rfl (rfC_83_4 _) ?_
  refine B_iload dX7_isBorne_120 rfl ?_
  refine B_iload dX7_isBorne_122 rfl ?_
  refine B_Vpb (st := []) dX7_isBorne_124 cl_X7_96 (t_X8_isTooMuch y6 y7 h) (Nat.le_of_ble_eq_true rfl) shC_66 rfl rfl (Nat.le_of_ble_eq_true rfl) (fun v12 _ => ?_)
  refine C_ifb_eq (tgt := 132) dX7_isBorne_127 (by decide) (fun q13 => ?_) (fun q13 => ?_)
  · refine B_iinc (w := (y6 + 1)) (ls' := [.ref 83, .int y1, .int y2, .int y3, .int y4, .int y5, .int (y6 + 1), .int y7, .null]) dX7_isBorne_132 rfl (congrArg (fun z => y6 + z) ic_1) (Nat.le_of_ble_eq_true rfl) rfl rfl ?_
    refine B_goto (tgt := 29) dX7_isBorne_135 (by decide) ?_
    refine B_drop 7 (ls' := [.ref 83, .int y1, .int y2, .int y3, .int y4, .int y5, .int (y6 + 1), .null, .null]) rfl ?_
    exact hkL29 y1 y2 y3 y4 y5 (y6 + 1)  
  · refine B_iconst dX7_isBorne_130 ic_0 ?_
    exact B_zreturn dX7_isBorne_131 rfl rfl rfl
def f_X7_isBorne_L29 (h : dH) : Nat → Int32 → Int32 → Int32 → Int32 → Int32 → Int32 → Option (Bool)
  | 0, _, _, _, _, _, _ => none
  | n + 1, y1, y2, y3, y4, y5, y6 =>
    if y6 < (h.1 3 2) then
    if (f_X11_isIn y1 y6 h) then
    (f_X8_couldWalk 66 y3 y4 y5 y6 h).bind fun v4 =>
    if v4 then
    (f_X1_apart 3 y3 y6 h).bind fun v5 =>
    (some ((y4 + (v5 + 1)))).bind fun v6 =>
    (f_X8_visitsOf 66 y6 h).bind fun v7 =>
    (some ((f_X8_troubleWithoutLaw v7 y2 h))).bind fun v8 =>
    f_X7_isBorne_J116 (f_X7_isBorne_L29 h n) y1 y2 y6 v6 (y5 + v5) y6 v8 h
    else
    f_X7_isBorne_J116 (f_X7_isBorne_L29 h n) y1 y2 y3 y4 y5 y6 0 h
    else
    f_X7_isBorne_J116 (f_X7_isBorne_L29 h n) y1 y2 y3 y4 y5 y6 0 h
    else
    some true
set_option maxRecDepth 20000 in
set_option maxHeartbeats 4000000 in
theorem b_X7_isBorne_L29 (h : dH) : ∀ (n : Nat) (y1 : Int32) (y2 : Int32) (y3 : Int32) (y4 : Int32) (y5 : Int32) (y6 : Int32), B XC 3 RX7 cX7_isBorne 9 (some .boolean) (fiB h) 29 [.ref 83, .int y1, .int y2, .int y3, .int y4, .int y5, .int y6, .null, .null] [] h (f_X7_isBorne_L29 h n y1 y2 y3 y4 y5 y6) := by
  intro n
  induction n with
  | zero =>
    intro y1 y2 y3 y4 y5 y6
    exact B_none
  | succ n ih =>
    intro y1 y2 y3 y4 y5 y6
    rw [f_X7_isBorne_L29]
    refine B_iload dX7_isBorne_29 rfl ?_
    refine B_aload_n dX7_isBorne_31 rfl rfl ?_
    refine B_getR dX7_isBorne_32 fl_X7_9 shC_83 rfl (rfC_83_3 _) ?_
    refine B_getI dX7_isBorne_35 fl_X7_64 shC_3 rfl ?_
    refine C_icmp_ge (tgt := 138) dX7_isBorne_38 (by decide) (fun q11 => ?_) (fun q11 => ?_)
    · refine B_iconst dX7_isBorne_138 ic_1 ?_
      exact B_zreturn dX7_isBorne_139 rfl rfl rfl
    · refine B_iconst dX7_isBorne_41 ic_0 ?_
      refine B_istore (ls' := [.ref 83, .int y1, .int y2, .int y3, .int y4, .int y5, .int y6, .int 0, .null]) dX7_isBorne_42 (Nat.le_of_ble_eq_true rfl) rfl rfl ?_
      refine B_iload_n dX7_isBorne_44 rfl rfl ?_
      refine B_iload dX7_isBorne_45 rfl ?_
      refine B_NTb (st := []) dX7_isBorne_47 cl_X7_69 (t_X11_isIn y1 y6 h) (Nat.le_of_ble_eq_true rfl) rfl rfl (Nat.le_of_ble_eq_true rfl) ?_
      refine C_ifb_eq (tgt := 116) dX7_isBorne_50 (by decide) (fun q10 => ?_) (fun q10 => ?_)
      · exact b_X7_isBorne_J116 h (fun qy1 qy2 qy3 qy4 qy5 qy6 => ih qy1 qy2 qy3 qy4 qy5 qy6) y1 y2 y3 y4 y5 y6 0
      · refine B_aload_n dX7_isBorne_53 rfl rfl ?_
        refine B_getR dX7_isBorne_54 fl_X7_15 shC_83 rfl (rfC_83_4 _) ?_
        refine B_iload_n dX7_isBorne_57 rfl rfl ?_
        refine B_iload dX7_isBorne_58 rfl ?_
        refine B_iload dX7_isBorne_60 rfl ?_
        refine B_iload dX7_isBorne_62 rfl ?_
        refine B_Vpb (st := []) dX7_isBorne_64 cl_X7_72 (t_X8_couldWalk 66 shC_66 y3 y4 y5 y6 h) (Nat.le_of_ble_eq_true rfl) shC_66 rfl rfl (Nat.le_of_ble_eq_true rfl) (fun v4 _ => ?_)
        refine C_ifb_eq (tgt := 116) dX7_isBorne_67 (by decide) (fun q9 => ?_) (fun q9 => ?_)
        · exact b_X7_isBorne_J116 h (fun qy1 qy2 qy3 qy4 qy5 qy6 => ih qy1 qy2 qy3 qy4 qy5 qy6) y1 y2 y3 y4 y5 y6 0
        · refine B_aload_n dX7_isBorne_70 rfl rfl ?_
          refine B_getR dX7_isBorne_71 fl_X7_9 shC_83 rfl (rfC_83_3 _) ?_
          refine B_iload_n dX7_isBorne_74 rfl rfl ?_
          refine B_iload dX7_isBorne_75 rfl ?_
          refine B_Vp (st := []) dX7_isBorne_77 cl_X7_76 (t_X1_apart 3 shC_3 y3 y6 h) (Nat.le_of_ble_eq_true rfl) shC_3 rfl rfl (Nat.le_of_ble_eq_true rfl) (fun v5 _ => ?_)
          refine B_istore (ls' := [.ref 83, .int y1, .int y2, .int y3, .int y4, .int y5, .int y6, .int 0, .int v5]) dX7_isBorne_80 (Nat.le_of_ble_eq_true rfl) rfl rfl ?_
          refine B_iload dX7_isBorne_82 rfl ?_
          refine B_iload dX7_isBorne_84 rfl ?_
          refine B_iconst dX7_isBorne_86 ic_1 ?_
          refine B_iadd dX7_isBorne_87 ?_
          refine B_iadd dX7_isBorne_88 ?_
          refine B_lv (fun v6 => ?_)
          refine B_istore (ls' := [.ref 83, .int y1, .int y2, .int y3, .int v6, .int y5, .int y6, .int 0, .int v5]) dX7_isBorne_89 (Nat.le_of_ble_eq_true rfl) rfl rfl ?_
          refine B_iload dX7_isBorne_91 rfl ?_
          refine B_iload dX7_isBorne_93 rfl ?_
          refine B_iadd dX7_isBorne_95 ?_
          refine B_istore (ls' := [.ref 83, .int y1, .int y2, .int y3, .int v6, .int (y5 + v5), .int y6, .int 0, .int v5]) dX7_isBorne_96 (Nat.le_of_ble_eq_true rfl) rfl rfl ?_
          refine B_iload dX7_isBorne_98 rfl ?_
          refine B_istore_n (ls' := [.ref 83, .int y1, .int y2, .int y6, .int v6, .int (y5 + v5), .int y6, .int 0, .int v5]) dX7_isBorne_100 rfl (Nat.le_of_ble_eq_true rfl) rfl rfl ?_
          refine B_aload_n dX7_isBorne_101 rfl rfl ?_
          refine B_getR dX7_isBorne_102 fl_X7_15 shC_83 rfl (rfC_83_4 _) ?_
          refine B_iload dX7_isBorne_105 rfl ?_
          refine B_Vp (st := []) dX7_isBorne_107 cl_X7_90 (t_X8_visitsOf 66 shC_66 y6 h) (Nat.le_of_ble_eq_true rfl) shC_66 rfl rfl (Nat.le_of_ble_eq_true rfl) (fun v7 _ => ?_)
          refine B_iload_n dX7_isBorne_110 rfl rfl ?_
          refine B_St (st := []) dX7_isBorne_111 cl_X7_102 (t_X8_troubleWithoutLaw v7 y2 h) (Nat.le_of_ble_eq_true rfl) rfl rfl (Nat.le_of_ble_eq_true rfl) ?_
          refine B_lv (fun v8 => ?_)
          refine B_istore (ls' := [.ref 83, .int y1, .int y2, .int y6, .int v6, .int (y5 + v5), .int y6, .int v8, .int v5]) dX7_isBorne_114 (Nat.le_of_ble_eq_true rfl) rfl rfl ?_
          refine B_drop 8 (ls' := [.ref 83, .int y1, .int y2, .int y6, .int v6, .int (y5 + v5), .int y6, .int v8, .null]) rfl ?_
          exact b_X7_isBorne_J116 h (fun qy1 qy2 qy3 qy4 qy5 qy6 => ih qy1 qy2 qy3 qy4 qy5 qy6) y1 y2 y6 v6 (y5 + v5) y6 v8
def f_X7_isBorne (x1 : Int32) (x2 : Int32) (h : dH) : Option (Bool) :=
  (some ((f_X8_place h))).bind fun v1 =>
  (some ((f_X8_hour h))).bind fun v2 =>
  (some ((f_X8_tired h))).bind fun v3 =>
  f_X7_isBorne_L29 h dFu x1 x2 v1 v2 v3 0
set_option maxRecDepth 20000 in
set_option maxHeartbeats 4000000 in
theorem t_X7_isBorne (x1 : Int32) (x2 : Int32) (h : dH) : T XC 3 yX7_isBorne cX7_isBorne 9 (some .boolean) (fiB h) [.ref 83, .int x1, .int x2] h (f_X7_isBorne x1 x2 h) := by
  refine T_of [.ref 83, .int x1, .int x2, .null, .null, .null, .null, .null, .null] (by decide) (fun _ => rfl) (fun _ => Nat.le_of_ble_eq_true rfl) ?_
  show B XC 3 RX7 cX7_isBorne 9 (some .boolean) (fiB h) 0 [.ref 83, .int x1, .int x2, .null, .null, .null, .null, .null, .null] [] h (f_X7_isBorne x1 x2 h)
  unfold f_X7_isBorne
  refine B_aload_n dX7_isBorne_0 rfl rfl ?_
  refine B_getR dX7_isBorne_1 fl_X7_15 shC_83 rfl (rfC_83_4 _) ?_
  refine B_Vt (st := []) dX7_isBorne_4 cl_X7_38 (t_X8_place h) (Nat.le_of_ble_eq_true rfl) shC_66 rfl rfl (Nat.le_of_ble_eq_true rfl) ?_
  refine B_lv (fun v1 => ?_)
  refine B_istore_n (ls' := [.ref 83, .int x1, .int x2, .int v1, .null, .null, .null, .null, .null]) dX7_isBorne_7 rfl (Nat.le_of_ble_eq_true rfl) rfl rfl ?_
  refine B_aload_n dX7_isBorne_8 rfl rfl ?_
  refine B_getR dX7_isBorne_9 fl_X7_15 shC_83 rfl (rfC_83_4 _) ?_
  refine B_Vt (st := []) dX7_isBorne_12 cl_X7_29 (t_X8_hour h) (Nat.le_of_ble_eq_true rfl) shC_66 rfl rfl (Nat.le_of_ble_eq_true rfl) ?_
  refine B_lv (fun v2 => ?_)
  refine B_istore (ls' := [.ref 83, .int x1, .int x2, .int v1, .int v2, .null, .null, .null, .null]) dX7_isBorne_15 (Nat.le_of_ble_eq_true rfl) rfl rfl ?_
  refine B_aload_n dX7_isBorne_17 rfl rfl ?_
  refine B_getR dX7_isBorne_18 fl_X7_15 shC_83 rfl (rfC_83_4 _) ?_
  refine B_Vt (st := []) dX7_isBorne_21 cl_X7_41 (t_X8_tired h) (Nat.le_of_ble_eq_true rfl) shC_66 rfl rfl (Nat.le_of_ble_eq_true rfl) ?_
  refine B_lv (fun v3 => ?_)
  refine B_istore (ls' := [.ref 83, .int x1, .int x2, .int v1, .int v2, .int v3, .null, .null, .null]) dX7_isBorne_24 (Nat.le_of_ble_eq_true rfl) rfl rfl ?_
  refine B_iconst dX7_isBorne_26 ic_0 ?_
  refine B_istore (ls' := [.ref 83, .int x1, .int x2, .int v1, .int v2, .int v3, .int 0, .null, .null]) dX7_isBorne_27 (Nat.le_of_ble_eq_true rfl) rfl rfl ?_
  exact b_X7_isBorne_L29 h dFu x1 x2 v1 v2 v3 0
def f_X8_beginCity_L30 : Nat → Int32 → dH → Option (dH)
  | 0, _, _ => none
  | n + 1, y1, h =>
    if y1 < 7 then
    (f_X1_toldOf 3 y1 4 h).bind fun v5 =>
    if dIn (21 + y1) 28 then
    (some (dPut h 67 (dI (21 + y1)) v5)).bind fun h7 =>
    (f_X8_beginCity_L30 n) (y1 + 1) h7
    else none
    else
    some h
set_option maxRecDepth 20000 in
set_option maxHeartbeats 4000000 in
theorem b_X8_beginCity_L30 : ∀ (n : Nat) (y1 : Int32) (h : dH), B XC 2 RX8 cX8_beginCity 2 none fiV 30 [.ref 66, .int y1] [] h (f_X8_beginCity_L30 n y1 h) := by
  intro n
  induction n with
  | zero =>
    intro y1 h
    exact B_none
  | succ n ih =>
    intro y1 h
    rw [f_X8_beginCity_L30]
    refine B_iload_n dX8_beginCity_30 rfl rfl ?_
    refine B_bipush dX8_beginCity_31 bp_7 ?_
    refine C_icmp_ge (tgt := 60) dX8_beginCity_33 (by decide) (fun q8 => ?_) (fun q8 => ?_)
    · exact B_return dX8_beginCity_60 rfl rfl
    · refine B_aload_n dX8_beginCity_36 rfl rfl ?_
      refine B_getR dX8_beginCity_37 fl_X8_11 shC_66 rfl (rfC_66_2 _) ?_
      refine B_bipush dX8_beginCity_40 bp_21 ?_
      refine B_iload_n dX8_beginCity_42 rfl rfl ?_
      refine B_iadd dX8_beginCity_43 ?_
      refine B_aload_n dX8_beginCity_44 rfl rfl ?_
      refine B_getR dX8_beginCity_45 fl_X8_15 shC_66 rfl (rfC_66_0 _) ?_
      refine B_iload_n dX8_beginCity_48 rfl rfl ?_
      refine B_iconst dX8_beginCity_49 ic_4 ?_
      refine B_Vp (st := [.int (21 + y1), .ref 67]) dX8_beginCity_50 cl_X8_23 (t_X1_toldOf 3 shC_3 y1 4 h) (Nat.le_of_ble_eq_true rfl) shC_3 rfl rfl (Nat.le_of_ble_eq_true rfl) (fun v5 _ => ?_)
      refine C_chk (fun q6 => ?_)
      refine L_iast dX8_beginCity_53 shC_67 q6 rfl ?_
      refine B_lh (fun h7 => ?_)
      refine B_iinc (w := (y1 + 1)) (ls' := [.ref 66, .int (y1 + 1)]) dX8_beginCity_54 rfl (congrArg (fun z => y1 + z) ic_1) (Nat.le_of_ble_eq_true rfl) rfl rfl ?_
      refine B_goto (tgt := 30) dX8_beginCity_57 (by decide) ?_
      exact ih (y1 + 1)  h7
def f_X8_beginCity_L2 : Nat → Int32 → dH → Option (dH)
  | 0, _, _ => none
  | n + 1, y1, h =>
    if y1 < 28 then
    if dIn y1 28 then
    (some (dPut h 67 (dI y1) 0)).bind fun h3 =>
    (f_X8_beginCity_L2 n) (y1 + 1) h3
    else none
    else
    (some (dPut h 67 0 (-1))).bind fun h1 =>
    f_X8_beginCity_L30 dFu 0 h1
set_option maxRecDepth 20000 in
set_option maxHeartbeats 4000000 in
theorem b_X8_beginCity_L2 : ∀ (n : Nat) (y1 : Int32) (h : dH), B XC 2 RX8 cX8_beginCity 2 none fiV 2 [.ref 66, .int y1] [] h (f_X8_beginCity_L2 n y1 h) := by
  intro n
  induction n with
  | zero =>
    intro y1 h
    exact B_none
  | succ n ih =>
    intro y1 h
    rw [f_X8_beginCity_L2]
    refine B_iload_n dX8_beginCity_2 rfl rfl ?_
    refine B_bipush dX8_beginCity_3 bp_28 ?_
    refine C_icmp_ge (tgt := 21) dX8_beginCity_5 (by decide) (fun q4 => ?_) (fun q4 => ?_)
    · refine B_aload_n dX8_beginCity_21 rfl rfl ?_
      refine B_getR dX8_beginCity_22 fl_X8_11 shC_66 rfl (rfC_66_2 _) ?_
      refine B_iconst dX8_beginCity_25 ic_0 ?_
      refine B_iconst dX8_beginCity_26 ic_m1 ?_
      refine L_iast dX8_beginCity_27 shC_67 (by decide) di_0 ?_
      refine B_lh (fun h1 => ?_)
      refine B_iconst dX8_beginCity_28 ic_0 ?_
      refine B_istore_n (ls' := [.ref 66, .int 0]) dX8_beginCity_29 rfl (Nat.le_of_ble_eq_true rfl) rfl rfl ?_
      exact b_X8_beginCity_L30 dFu 0 h1
    · refine B_aload_n dX8_beginCity_8 rfl rfl ?_
      refine B_getR dX8_beginCity_9 fl_X8_11 shC_66 rfl (rfC_66_2 _) ?_
      refine B_iload_n dX8_beginCity_12 rfl rfl ?_
      refine B_iconst dX8_beginCity_13 ic_0 ?_
      refine C_chk (fun q2 => ?_)
      refine L_iast dX8_beginCity_14 shC_67 q2 rfl ?_
      refine B_lh (fun h3 => ?_)
      refine B_iinc (w := (y1 + 1)) (ls' := [.ref 66, .int (y1 + 1)]) dX8_beginCity_15 rfl (congrArg (fun z => y1 + z) ic_1) (Nat.le_of_ble_eq_true rfl) rfl rfl ?_
      refine B_goto (tgt := 2) dX8_beginCity_18 (by decide) ?_
      exact ih (y1 + 1)  h3
def f_X8_beginCity (h : dH) : Option (dH) :=
  f_X8_beginCity_L2 dFu 0 h
set_option maxRecDepth 20000 in
set_option maxHeartbeats 4000000 in
theorem t_X8_beginCity (h : dH) : T XC 2 yX8_beginCity cX8_beginCity 2 none fiV [.ref 66] h (f_X8_beginCity h) := by
  refine T_of [.ref 66, .null] (by decide) (fun _ => rfl) (fun _ => Nat.le_of_ble_eq_true rfl) ?_
  show B XC 2 RX8 cX8_beginCity 2 none fiV 0 [.ref 66, .null] [] h (f_X8_beginCity h)
  unfold f_X8_beginCity
  refine B_iconst dX8_beginCity_0 ic_0 ?_
  refine B_istore_n (ls' := [.ref 66, .int 0]) dX8_beginCity_1 rfl (Nat.le_of_ble_eq_true rfl) rfl rfl ?_
  exact b_X8_beginCity_L2 dFu 0 h
def f_X8_seenInAll (t : Nat) (h : dH) : Int32 :=
  (h.1 (t + 1) 4)
set_option maxRecDepth 20000 in
set_option maxHeartbeats 4000000 in
theorem t_X8_seenInAll (t : Nat) (ht : XC.1[t]? = some (.inl 8)) (h : dH) : T XC 0 yX8_seenInAll cX8_seenInAll 1 (some .int) (fiP h) [.ref t] h (some (f_X8_seenInAll t h)) := by
  refine T_of [.ref t] (by decide) (fun _ => rfl) (fun _ => Nat.le_of_ble_eq_true rfl) ?_
  show B XC 0 RX8 cX8_seenInAll 1 (some .int) (fiP h) 0 [.ref t] [] h (some (f_X8_seenInAll t h))
  unfold f_X8_seenInAll
  refine B_aload_n dX8_seenInAll_0 rfl rfl ?_
  refine B_getR dX8_seenInAll_1 fl_X8_11 ht rfl (rfX8_2 _ ht) ?_
  refine B_iconst dX8_seenInAll_4 ic_4 ?_
  refine L_iald dX8_seenInAll_5 (shX8_2 ht) (by decide) di_4 ?_
  exact B_ireturn dX8_seenInAll_6 rfl rfl
def f_X8_secrets (h : dH) : Int32 :=
  (h.1 67 5)
set_option maxRecDepth 20000 in
set_option maxHeartbeats 4000000 in
theorem t_X8_secrets (h : dH) : T XC 0 yX8_secrets cX8_secrets 1 (some .int) (fiP h) [.ref 66] h (some (f_X8_secrets h)) := by
  refine T_of [.ref 66] (by decide) (fun _ => rfl) (fun _ => Nat.le_of_ble_eq_true rfl) ?_
  show B XC 0 RX8 cX8_secrets 1 (some .int) (fiP h) 0 [.ref 66] [] h (some (f_X8_secrets h))
  unfold f_X8_secrets
  refine B_aload_n dX8_secrets_0 rfl rfl ?_
  refine B_getR dX8_secrets_1 fl_X8_11 shC_66 rfl (rfC_66_2 _) ?_
  refine B_iconst dX8_secrets_4 ic_5 ?_
  refine L_iald dX8_secrets_5 shC_67 (by decide) di_5 ?_
  exact B_ireturn dX8_secrets_6 rfl rfl
def f_X8_setPatience (x1 : Int32) (x2 : Int32) (h : dH) : Option (dH) :=
  if (f_X1_isPlace 3 x1 h) then
  if dIn (21 + x1) 28 then
  some (dPut h 67 (dI (21 + x1)) x2)
  else none
  else
  some h
set_option maxRecDepth 20000 in
set_option maxHeartbeats 4000000 in
theorem t_X8_setPatience (x1 : Int32) (x2 : Int32) (h : dH) : T XC 1 yX8_setPatience cX8_setPatience 3 none fiV [.ref 66, .int x1, .int x2] h (f_X8_setPatience x1 x2 h) := by
  refine T_of [.ref 66, .int x1, .int x2] (by decide) (fun _ => rfl) (fun _ => Nat.le_of_ble_eq_true rfl) ?_
  show B XC 1 RX8 cX8_setPatience 3 none fiV 0 [.ref 66, .int x1, .int x2] [] h (f_X8_setPatience x1 x2 h)
  unfold f_X8_setPatience
  refine B_aload_n dX8_setPatience_0 rfl rfl ?_
  refine B_getR dX8_setPatience_1 fl_X8_15 shC_66 rfl (rfC_66_0 _) ?_
  refine B_iload_n dX8_setPatience_4 rfl rfl ?_
  refine B_VTb (st := []) dX8_setPatience_5 cl_X8_35 (t_X1_isPlace 3 shC_3 x1 h) (Nat.le_of_ble_eq_true rfl) shC_3 rfl rfl (Nat.le_of_ble_eq_true rfl) ?_
  refine C_ifb_eq (tgt := 21) dX8_setPatience_8 (by decide) (fun q2 => ?_) (fun q2 => ?_)
  · exact B_return dX8_setPatience_21 rfl rfl
  · refine B_aload_n dX8_setPatience_11 rfl rfl ?_
    refine B_getR dX8_setPatience_12 fl_X8_11 shC_66 rfl (rfC_66_2 _) ?_
    refine B_bipush dX8_setPatience_15 bp_21 ?_
    refine B_iload_n dX8_setPatience_17 rfl rfl ?_
    refine B_iadd dX8_setPatience_18 ?_
    refine B_iload_n dX8_setPatience_19 rfl rfl ?_
    refine C_chk (fun q1 => ?_)
    refine L_iast dX8_setPatience_20 shC_67 q1 rfl ?_
    exact B_return dX8_setPatience_21 rfl rfl
def f_X8_canDo (t : Nat) (x1 : Int32) (x2 : Int32) (h : dH) : Option (Bool) :=
  if x1 = 0 then
  (f_X8_couldWalk t (h.1 (t + 1) 0) (h.1 (t + 1) 1) (h.1 (t + 1) 2) x2 h).bind fun v2 =>
  some v2
  else
  if x1 = 1 then
  if 0 < (h.1 (t + 1) 2) then
  if (h.1 (t + 1) 1) < (h.1 4 1) then
  some true
  else
  some false
  else
  some false
  else
  if x1 = 2 then
  if (f_X1_isPlace 3 x2 h) then
  if (f_X11_isIn (h.1 (t + 1) 5) x2 h) then
  some true
  else
  some false
  else
  some false
  else
  if x1 = 3 then
  if (f_X1_isThere h) then
  if (h.1 (t + 1) 6) < 999 then
  some true
  else
  some false
  else
  some false
  else
  some false
set_option maxRecDepth 20000 in
set_option maxHeartbeats 4000000 in
theorem t_X8_canDo (t : Nat) (ht : XC.1[t]? = some (.inl 8)) (x1 : Int32) (x2 : Int32) (h : dH) : T XC 2 yX8_canDo cX8_canDo 3 (some .boolean) (fiB h) [.ref t, .int x1, .int x2] h (f_X8_canDo t x1 x2 h) := by
  refine T_of [.ref t, .int x1, .int x2] (by decide) (fun _ => rfl) (fun _ => Nat.le_of_ble_eq_true rfl) ?_
  show B XC 2 RX8 cX8_canDo 3 (some .boolean) (fiB h) 0 [.ref t, .int x1, .int x2] [] h (f_X8_canDo t x1 x2 h)
  unfold f_X8_canDo
  refine B_iload_n dX8_canDo_0 rfl rfl ?_
  refine C_ite (fun n1_0 => ?_) (fun n1_0 => ?_)
  · refine B_tswIn (tgt := 32) dX8_canDo_1 (by rw [n1_0]; decide) (by rw [n1_0]; decide) (by rw [n1_0]; decide) (by decide) ?_
    refine B_aload_n dX8_canDo_32 rfl rfl ?_
    refine B_aload_n dX8_canDo_33 rfl rfl ?_
    refine B_getR dX8_canDo_34 fl_X8_11 ht rfl (rfX8_2 _ ht) ?_
    refine B_iconst dX8_canDo_37 ic_0 ?_
    refine L_iald dX8_canDo_38 (shX8_2 ht) (by decide) di_0 ?_
    refine B_aload_n dX8_canDo_39 rfl rfl ?_
    refine B_getR dX8_canDo_40 fl_X8_11 ht rfl (rfX8_2 _ ht) ?_
    refine B_iconst dX8_canDo_43 ic_1 ?_
    refine L_iald dX8_canDo_44 (shX8_2 ht) (by decide) di_1 ?_
    refine B_aload_n dX8_canDo_45 rfl rfl ?_
    refine B_getR dX8_canDo_46 fl_X8_11 ht rfl (rfX8_2 _ ht) ?_
    refine B_iconst dX8_canDo_49 ic_2 ?_
    refine L_iald dX8_canDo_50 (shX8_2 ht) (by decide) di_2 ?_
    refine B_iload_n dX8_canDo_51 rfl rfl ?_
    refine B_Vpb (st := []) dX8_canDo_52 cl_X8_89 (t_X8_couldWalk t ht (h.1 (t + 1) 0) (h.1 (t + 1) 1) (h.1 (t + 1) 2) x2 h) (Nat.le_of_ble_eq_true rfl) ht rfl rfl (Nat.le_of_ble_eq_true rfl) (fun v2 _ => ?_)
    exact B_zreturn dX8_canDo_55 rfl (nar_bi v2) rfl
  · refine C_ite (fun n1_1 => ?_) (fun n1_1 => ?_)
    · refine B_tswIn (tgt := 56) dX8_canDo_1 (by rw [n1_1]; decide) (by rw [n1_1]; decide) (by rw [n1_1]; decide) (by decide) ?_
      refine B_aload_n dX8_canDo_56 rfl rfl ?_
      refine B_getR dX8_canDo_57 fl_X8_11 ht rfl (rfX8_2 _ ht) ?_
      refine B_iconst dX8_canDo_60 ic_2 ?_
      refine L_iald dX8_canDo_61 (shX8_2 ht) (by decide) di_2 ?_
      refine C_if_le (tgt := 87) dX8_canDo_62 (by decide) (fun q4 => ?_) (fun q4 => ?_)
      · refine B_iconst dX8_canDo_87 ic_0 ?_
        exact B_zreturn dX8_canDo_88 rfl rfl rfl
      · refine B_aload_n dX8_canDo_65 rfl rfl ?_
        refine B_getR dX8_canDo_66 fl_X8_11 ht rfl (rfX8_2 _ ht) ?_
        refine B_iconst dX8_canDo_69 ic_1 ?_
        refine L_iald dX8_canDo_70 (shX8_2 ht) (by decide) di_1 ?_
        refine B_aload_n dX8_canDo_71 rfl rfl ?_
        refine B_getR dX8_canDo_72 fl_X8_15 ht rfl (rfX8_0 _ ht) ?_
        refine B_getR dX8_canDo_75 fl_X8_60 shC_3 rfl (rfC_3_0 _) ?_
        refine B_iconst dX8_canDo_78 ic_1 ?_
        refine L_iald dX8_canDo_79 shC_4 (by decide) di_1 ?_
        refine C_icmp_ge (tgt := 87) dX8_canDo_80 (by decide) (fun q3 => ?_) (fun q3 => ?_)
        · refine B_iconst dX8_canDo_87 ic_0 ?_
          exact B_zreturn dX8_canDo_88 rfl rfl rfl
        · refine B_iconst dX8_canDo_83 ic_1 ?_
          refine B_goto (tgt := 88) dX8_canDo_84 (by decide) ?_
          exact B_zreturn dX8_canDo_88 rfl rfl rfl
    · refine C_ite (fun n1_2 => ?_) (fun n1_2 => ?_)
      · refine B_tswIn (tgt := 89) dX8_canDo_1 (by rw [n1_2]; decide) (by rw [n1_2]; decide) (by rw [n1_2]; decide) (by decide) ?_
        refine B_aload_n dX8_canDo_89 rfl rfl ?_
        refine B_getR dX8_canDo_90 fl_X8_15 ht rfl (rfX8_0 _ ht) ?_
        refine B_iload_n dX8_canDo_93 rfl rfl ?_
        refine B_VTb (st := []) dX8_canDo_94 cl_X8_35 (t_X1_isPlace 3 shC_3 x2 h) (Nat.le_of_ble_eq_true rfl) shC_3 rfl rfl (Nat.le_of_ble_eq_true rfl) ?_
        refine C_ifb_eq (tgt := 117) dX8_canDo_97 (by decide) (fun q6 => ?_) (fun q6 => ?_)
        · refine B_iconst dX8_canDo_117 ic_0 ?_
          exact B_zreturn dX8_canDo_118 rfl rfl rfl
        · refine B_aload_n dX8_canDo_100 rfl rfl ?_
          refine B_getR dX8_canDo_101 fl_X8_11 ht rfl (rfX8_2 _ ht) ?_
          refine B_iconst dX8_canDo_104 ic_5 ?_
          refine L_iald dX8_canDo_105 (shX8_2 ht) (by decide) di_5 ?_
          refine B_iload_n dX8_canDo_106 rfl rfl ?_
          refine B_NTb (st := []) dX8_canDo_107 cl_X8_93 (t_X11_isIn (h.1 (t + 1) 5) x2 h) (Nat.le_of_ble_eq_true rfl) rfl rfl (Nat.le_of_ble_eq_true rfl) ?_
          refine C_ifb_eq (tgt := 117) dX8_canDo_110 (by decide) (fun q5 => ?_) (fun q5 => ?_)
          · refine B_iconst dX8_canDo_117 ic_0 ?_
            exact B_zreturn dX8_canDo_118 rfl rfl rfl
          · refine B_iconst dX8_canDo_113 ic_1 ?_
            refine B_goto (tgt := 118) dX8_canDo_114 (by decide) ?_
            exact B_zreturn dX8_canDo_118 rfl rfl rfl
      · refine C_ite (fun n1_3 => ?_) (fun n1_3 => ?_)
        · refine B_tswIn (tgt := 119) dX8_canDo_1 (by rw [n1_3]; decide) (by rw [n1_3]; decide) (by rw [n1_3]; decide) (by decide) ?_
          refine B_aload_n dX8_canDo_119 rfl rfl ?_
          refine B_getR dX8_canDo_120 fl_X8_15 ht rfl (rfX8_0 _ ht) ?_
          refine B_VTb (st := []) dX8_canDo_123 cl_X8_96 (t_X1_isThere h) (Nat.le_of_ble_eq_true rfl) shC_3 rfl rfl (Nat.le_of_ble_eq_true rfl) ?_
          refine C_ifb_eq (tgt := 146) dX8_canDo_126 (by decide) (fun q8 => ?_) (fun q8 => ?_)
          · refine B_iconst dX8_canDo_146 ic_0 ?_
            exact B_zreturn dX8_canDo_147 rfl rfl rfl
          · refine B_aload_n dX8_canDo_129 rfl rfl ?_
            refine B_getR dX8_canDo_130 fl_X8_11 ht rfl (rfX8_2 _ ht) ?_
            refine B_bipush dX8_canDo_133 bp_6 ?_
            refine L_iald dX8_canDo_135 (shX8_2 ht) (by decide) di_6 ?_
            refine B_sipush dX8_canDo_136 sp_999 ?_
            refine C_icmp_ge (tgt := 146) dX8_canDo_139 (by decide) (fun q7 => ?_) (fun q7 => ?_)
            · refine B_iconst dX8_canDo_146 ic_0 ?_
              exact B_zreturn dX8_canDo_147 rfl rfl rfl
            · refine B_iconst dX8_canDo_142 ic_1 ?_
              refine B_goto (tgt := 147) dX8_canDo_143 (by decide) ?_
              exact B_zreturn dX8_canDo_147 rfl rfl rfl
        · refine B_tswOut (tgt := 148) dX8_canDo_1 (dsw (fun c h1 h2 => ?_)) (by decide) ?_
          · rcases (show c = 0 ∨ c = 1 ∨ c = 2 ∨ c = 3 by omega) with rfl | rfl | rfl | rfl
            · exact n1_0
            · exact n1_1
            · exact n1_2
            · exact n1_3
          · refine B_iconst dX8_canDo_148 ic_0 ?_
            exact B_zreturn dX8_canDo_149 rfl rfl rfl
def f_X8_reach_J30 (kL4 : Int32 → Int32 → Option (Int32)) (y1 : Int32) (y2 : Int32) (h : dH) : Option (Int32) :=
  kL4 y1 (y2 + 1)
set_option maxRecDepth 20000 in
set_option maxHeartbeats 4000000 in
theorem b_X8_reach_J30 {kL4 : Int32 → Int32 → Option (Int32)} (h : dH) (hkL4 : ∀ (y1 : Int32) (y2 : Int32), B XC 3 RX8 cX8_reach 3 (some .int) (fiP h) 4 [.ref 66, .int y1, .int y2] [] h (kL4 y1 y2)) (y1 : Int32) (y2 : Int32) : B XC 3 RX8 cX8_reach 3 (some .int) (fiP h) 30 [.ref 66, .int y1, .int y2] [] h (f_X8_reach_J30 kL4 y1 y2 h) := by
  unfold f_X8_reach_J30
  refine B_iinc (w := (y2 + 1)) (ls' := [.ref 66, .int y1, .int (y2 + 1)]) dX8_reach_30 rfl (congrArg (fun z => y2 + z) ic_1) (Nat.le_of_ble_eq_true rfl) rfl rfl ?_
  refine B_goto (tgt := 4) dX8_reach_33 (by decide) ?_
  exact hkL4 y1 (y2 + 1)  
def f_X8_reach_L4 (h : dH) : Nat → Int32 → Int32 → Option (Int32)
  | 0, _, _ => none
  | n + 1, y1, y2 =>
    if y2 < (h.1 3 2) then
    (f_X8_canDo 66 0 y2 h).bind fun v1 =>
    if v1 then
    (some ((y1 ||| (1 <<< (y2 &&& 31))))).bind fun v2 =>
    f_X8_reach_J30 (f_X8_reach_L4 h n) v2 y2 h
    else
    f_X8_reach_J30 (f_X8_reach_L4 h n) y1 y2 h
    else
    some y1
set_option maxRecDepth 20000 in
set_option maxHeartbeats 4000000 in
theorem b_X8_reach_L4 (h : dH) : ∀ (n : Nat) (y1 : Int32) (y2 : Int32), B XC 3 RX8 cX8_reach 3 (some .int) (fiP h) 4 [.ref 66, .int y1, .int y2] [] h (f_X8_reach_L4 h n y1 y2) := by
  intro n
  induction n with
  | zero =>
    intro y1 y2
    exact B_none
  | succ n ih =>
    intro y1 y2
    rw [f_X8_reach_L4]
    refine B_iload_n dX8_reach_4 rfl rfl ?_
    refine B_aload_n dX8_reach_5 rfl rfl ?_
    refine B_getR dX8_reach_6 fl_X8_15 shC_66 rfl (rfC_66_0 _) ?_
    refine B_getI dX8_reach_9 fl_X8_46 shC_3 rfl ?_
    refine C_icmp_ge (tgt := 36) dX8_reach_12 (by decide) (fun q4 => ?_) (fun q4 => ?_)
    · refine B_iload_n dX8_reach_36 rfl rfl ?_
      exact B_ireturn dX8_reach_37 rfl rfl
    · refine B_aload_n dX8_reach_15 rfl rfl ?_
      refine B_iconst dX8_reach_16 ic_0 ?_
      refine B_iload_n dX8_reach_17 rfl rfl ?_
      refine B_Vpb (st := []) dX8_reach_18 cl_X8_54 (t_X8_canDo 66 shC_66 0 y2 h) (Nat.le_of_ble_eq_true rfl) shC_66 rfl rfl (Nat.le_of_ble_eq_true rfl) (fun v1 _ => ?_)
      refine C_ifb_eq (tgt := 30) dX8_reach_21 (by decide) (fun q3 => ?_) (fun q3 => ?_)
      · exact b_X8_reach_J30 h (fun qy1 qy2 => ih qy1 qy2) y1 y2
      · refine B_iload_n dX8_reach_24 rfl rfl ?_
        refine B_iconst dX8_reach_25 ic_1 ?_
        refine B_iload_n dX8_reach_26 rfl rfl ?_
        refine B_ishl dX8_reach_27 ?_
        refine B_ior dX8_reach_28 ?_
        refine B_lv (fun v2 => ?_)
        refine B_istore_n (ls' := [.ref 66, .int v2, .int y2]) dX8_reach_29 rfl (Nat.le_of_ble_eq_true rfl) rfl rfl ?_
        exact b_X8_reach_J30 h (fun qy1 qy2 => ih qy1 qy2) v2 y2
def f_X8_reach (h : dH) : Option (Int32) :=
  f_X8_reach_L4 h dFu 0 0
set_option maxRecDepth 20000 in
set_option maxHeartbeats 4000000 in
theorem t_X8_reach (h : dH) : T XC 3 yX8_reach cX8_reach 3 (some .int) (fiP h) [.ref 66] h (f_X8_reach h) := by
  refine T_of [.ref 66, .null, .null] (by decide) (fun _ => rfl) (fun _ => Nat.le_of_ble_eq_true rfl) ?_
  show B XC 3 RX8 cX8_reach 3 (some .int) (fiP h) 0 [.ref 66, .null, .null] [] h (f_X8_reach h)
  unfold f_X8_reach
  refine B_iconst dX8_reach_0 ic_0 ?_
  refine B_istore_n (ls' := [.ref 66, .int 0, .null]) dX8_reach_1 rfl (Nat.le_of_ble_eq_true rfl) rfl rfl ?_
  refine B_iconst dX8_reach_2 ic_0 ?_
  refine B_istore_n (ls' := [.ref 66, .int 0, .int 0]) dX8_reach_3 rfl (Nat.le_of_ble_eq_true rfl) rfl rfl ?_
  exact b_X8_reach_L4 h dFu 0 0
def f_X8_troubleNow (x1 : Int32) (x2 : Int32) (h : dH) : Option (Int32 × dH) :=
  (f_X1_apart 3 (h.1 67 0) x1 h).bind fun v1 =>
  (f_X8_troubleThen 66 x1 ((h.1 67 1) + v1) ((h.1 67 2) + v1) x2 h).bind fun rv2 =>
  some (rv2.1, rv2.2)
set_option maxRecDepth 20000 in
set_option maxHeartbeats 4000000 in
theorem t_X8_troubleNow (x1 : Int32) (x2 : Int32) (h : dH) : T XC 3 yX8_troubleNow cX8_troubleNow 4 (some .int) fiI [.ref 66, .int x1, .int x2] h (f_X8_troubleNow x1 x2 h) := by
  refine T_of [.ref 66, .int x1, .int x2, .null] (by decide) (fun _ => rfl) (fun _ => Nat.le_of_ble_eq_true rfl) ?_
  show B XC 3 RX8 cX8_troubleNow 4 (some .int) fiI 0 [.ref 66, .int x1, .int x2, .null] [] h (f_X8_troubleNow x1 x2 h)
  unfold f_X8_troubleNow
  refine B_aload_n dX8_troubleNow_0 rfl rfl ?_
  refine B_getR dX8_troubleNow_1 fl_X8_15 shC_66 rfl (rfC_66_0 _) ?_
  refine B_aload_n dX8_troubleNow_4 rfl rfl ?_
  refine B_getR dX8_troubleNow_5 fl_X8_11 shC_66 rfl (rfC_66_2 _) ?_
  refine B_iconst dX8_troubleNow_8 ic_0 ?_
  refine L_iald dX8_troubleNow_9 shC_67 (by decide) di_0 ?_
  refine B_iload_n dX8_troubleNow_10 rfl rfl ?_
  refine B_Vp (st := []) dX8_troubleNow_11 cl_X8_57 (t_X1_apart 3 shC_3 (h.1 67 0) x1 h) (Nat.le_of_ble_eq_true rfl) shC_3 rfl rfl (Nat.le_of_ble_eq_true rfl) (fun v1 _ => ?_)
  refine B_istore_n (ls' := [.ref 66, .int x1, .int x2, .int v1]) dX8_troubleNow_14 rfl (Nat.le_of_ble_eq_true rfl) rfl rfl ?_
  refine B_aload_n dX8_troubleNow_15 rfl rfl ?_
  refine B_iload_n dX8_troubleNow_16 rfl rfl ?_
  refine B_aload_n dX8_troubleNow_17 rfl rfl ?_
  refine B_getR dX8_troubleNow_18 fl_X8_11 shC_66 rfl (rfC_66_2 _) ?_
  refine B_iconst dX8_troubleNow_21 ic_1 ?_
  refine L_iald dX8_troubleNow_22 shC_67 (by decide) di_1 ?_
  refine B_iload_n dX8_troubleNow_23 rfl rfl ?_
  refine B_iadd dX8_troubleNow_24 ?_
  refine B_aload_n dX8_troubleNow_25 rfl rfl ?_
  refine B_getR dX8_troubleNow_26 fl_X8_11 shC_66 rfl (rfC_66_2 _) ?_
  refine B_iconst dX8_troubleNow_29 ic_2 ?_
  refine L_iald dX8_troubleNow_30 shC_67 (by decide) di_2 ?_
  refine B_iload_n dX8_troubleNow_31 rfl rfl ?_
  refine B_iadd dX8_troubleNow_32 ?_
  refine B_iload_n dX8_troubleNow_33 rfl rfl ?_
  refine B_VI (st := []) dX8_troubleNow_34 cl_X8_85 (t_X8_troubleThen 66 shC_66 x1 ((h.1 67 1) + v1) ((h.1 67 2) + v1) x2 h) (Nat.le_of_ble_eq_true rfl) shC_66 rfl rfl (Nat.le_of_ble_eq_true rfl) (fun v2 h3 _ => ?_)
  exact B_ireturn dX8_troubleNow_37 rfl rfl
def f_X8_readOnLedge (t : Nat) (h : dH) : Option (Int32 × dH) :=
  (some (dPut h (t + 1) 1 ((h.1 (t + 1) 1) + 1))).bind fun h1 =>
  some (((dPut h1 (t + 1) 2 (jmax 0 ((h1.1 (t + 1) 2) - 3))).1 (t + 1) 2), (dPut h1 (t + 1) 2 (jmax 0 ((h1.1 (t + 1) 2) - 3))))
set_option maxRecDepth 20000 in
set_option maxHeartbeats 4000000 in
theorem t_X8_readOnLedge (t : Nat) (ht : XC.1[t]? = some (.inl 8)) (h : dH) : T XC 1 yX8_readOnLedge cX8_readOnLedge 1 (some .int) fiI [.ref t] h (f_X8_readOnLedge t h) := by
  refine T_of [.ref t] (by decide) (fun _ => rfl) (fun _ => Nat.le_of_ble_eq_true rfl) ?_
  show B XC 1 RX8 cX8_readOnLedge 1 (some .int) fiI 0 [.ref t] [] h (f_X8_readOnLedge t h)
  unfold f_X8_readOnLedge
  refine B_aload_n dX8_readOnLedge_0 rfl rfl ?_
  refine B_getR dX8_readOnLedge_1 fl_X8_11 ht rfl (rfX8_2 _ ht) ?_
  refine B_iconst dX8_readOnLedge_4 ic_1 ?_
  refine B_dup2 dX8_readOnLedge_5 rfl rfl ?_
  refine L_iald dX8_readOnLedge_6 (shX8_2 ht) (by decide) di_1 ?_
  refine B_iconst dX8_readOnLedge_7 ic_1 ?_
  refine B_iadd dX8_readOnLedge_8 ?_
  refine L_iast dX8_readOnLedge_9 (shX8_2 ht) (by decide) di_1 ?_
  refine B_lh (fun h1 => ?_)
  refine B_aload_n dX8_readOnLedge_10 rfl rfl ?_
  refine B_getR dX8_readOnLedge_11 fl_X8_11 ht rfl (rfX8_2 _ ht) ?_
  refine B_iconst dX8_readOnLedge_14 ic_2 ?_
  refine B_iconst dX8_readOnLedge_15 ic_0 ?_
  refine B_aload_n dX8_readOnLedge_16 rfl rfl ?_
  refine B_getR dX8_readOnLedge_17 fl_X8_11 ht rfl (rfX8_2 _ ht) ?_
  refine B_iconst dX8_readOnLedge_20 ic_2 ?_
  refine L_iald dX8_readOnLedge_21 (shX8_2 ht) (by decide) di_2 ?_
  refine B_iconst dX8_readOnLedge_22 ic_3 ?_
  refine B_isub dX8_readOnLedge_23 ?_
  refine B_mmax dX8_readOnLedge_24 mt_X8_112 (Nat.le_of_ble_eq_true rfl) (Nat.le_of_ble_eq_true rfl) ?_
  refine L_iast dX8_readOnLedge_27 (shX8_2 ht) (by decide) di_2 ?_
  refine B_aload_n dX8_readOnLedge_28 rfl rfl ?_
  refine B_getR dX8_readOnLedge_29 fl_X8_11 ht rfl (rfX8_2 _ ht) ?_
  refine B_iconst dX8_readOnLedge_32 ic_2 ?_
  refine L_iald dX8_readOnLedge_33 (shX8_2 ht) (by decide) di_2 ?_
  exact B_ireturn dX8_readOnLedge_34 rfl rfl
def f_X8_endDay_L41 (t : Nat) : Nat → Int32 → dH → Option (Int32 × dH)
  | 0, _, _ => none
  | n + 1, y1, h =>
    if y1 < 7 then
    if dIn (7 + y1) 28 then
    (some (dPut h (t + 1) (dI (7 + y1)) 0)).bind fun h7 =>
    if dIn (14 + y1) 28 then
    (some (((h7.1 (t + 1) (dI (14 + y1))) - (h7.1 4 2)))).bind fun v9 =>
    if dIn (14 + y1) 28 then
    (some (dPut h7 (t + 1) (dI (14 + y1)) (jmax 0 v9))).bind fun h11 =>
    (f_X8_endDay_L41 t n) (y1 + 1) h11
    else none
    else none
    else none
    else
    some ((h.1 (t + 1) 6), h)
set_option maxRecDepth 20000 in
set_option maxHeartbeats 4000000 in
theorem b_X8_endDay_L41 {t : Nat} (ht : XC.1[t]? = some (.inl 8)) : ∀ (n : Nat) (y1 : Int32) (h : dH), B XC 1 RX8 cX8_endDay 3 (some .int) fiI 41 [.ref t, .int y1, .null] [] h (f_X8_endDay_L41 t n y1 h) := by
  intro n
  induction n with
  | zero =>
    intro y1 h
    exact B_none
  | succ n ih =>
    intro y1 h
    rw [f_X8_endDay_L41]
    refine B_iload_n dX8_endDay_41 rfl rfl ?_
    refine B_bipush dX8_endDay_42 bp_7 ?_
    refine C_icmp_ge (tgt := 97) dX8_endDay_44 (by decide) (fun q12 => ?_) (fun q12 => ?_)
    · refine B_aload_n dX8_endDay_97 rfl rfl ?_
      refine B_getR dX8_endDay_98 fl_X8_11 ht rfl (rfX8_2 _ ht) ?_
      refine B_bipush dX8_endDay_101 bp_6 ?_
      refine L_iald dX8_endDay_103 (shX8_2 ht) (by decide) di_6 ?_
      exact B_ireturn dX8_endDay_104 rfl rfl
    · refine B_aload_n dX8_endDay_47 rfl rfl ?_
      refine B_getR dX8_endDay_48 fl_X8_11 ht rfl (rfX8_2 _ ht) ?_
      refine B_bipush dX8_endDay_51 bp_7 ?_
      refine B_iload_n dX8_endDay_53 rfl rfl ?_
      refine B_iadd dX8_endDay_54 ?_
      refine B_iconst dX8_endDay_55 ic_0 ?_
      refine C_chk (fun q6 => ?_)
      refine L_iast dX8_endDay_56 (shX8_2 ht) q6 rfl ?_
      refine B_lh (fun h7 => ?_)
      refine B_aload_n dX8_endDay_57 rfl rfl ?_
      refine B_getR dX8_endDay_58 fl_X8_11 ht rfl (rfX8_2 _ ht) ?_
      refine B_bipush dX8_endDay_61 bp_14 ?_
      refine B_iload_n dX8_endDay_63 rfl rfl ?_
      refine B_iadd dX8_endDay_64 ?_
      refine C_chk (fun q8 => ?_)
      refine L_iald dX8_endDay_65 (shX8_2 ht) q8 rfl ?_
      refine B_aload_n dX8_endDay_66 rfl rfl ?_
      refine B_getR dX8_endDay_67 fl_X8_15 ht rfl (rfX8_0 _ ht) ?_
      refine B_getR dX8_endDay_70 fl_X8_60 shC_3 rfl (rfC_3_0 _) ?_
      refine B_iconst dX8_endDay_73 ic_2 ?_
      refine L_iald dX8_endDay_74 shC_4 (by decide) di_2 ?_
      refine B_isub dX8_endDay_75 ?_
      refine B_lv (fun v9 => ?_)
      refine B_istore_n (ls' := [.ref t, .int y1, .int v9]) dX8_endDay_76 rfl (Nat.le_of_ble_eq_true rfl) rfl rfl ?_
      refine B_aload_n dX8_endDay_77 rfl rfl ?_
      refine B_getR dX8_endDay_78 fl_X8_11 ht rfl (rfX8_2 _ ht) ?_
      refine B_bipush dX8_endDay_81 bp_14 ?_
      refine B_iload_n dX8_endDay_83 rfl rfl ?_
      refine B_iadd dX8_endDay_84 ?_
      refine B_iconst dX8_endDay_85 ic_0 ?_
      refine B_iload_n dX8_endDay_86 rfl rfl ?_
      refine B_mmax dX8_endDay_87 mt_X8_112 (Nat.le_of_ble_eq_true rfl) (Nat.le_of_ble_eq_true rfl) ?_
      refine C_chk (fun q10 => ?_)
      refine L_iast dX8_endDay_90 (shX8_2 ht) q10 rfl ?_
      refine B_lh (fun h11 => ?_)
      refine B_iinc (w := (y1 + 1)) (ls' := [.ref t, .int (y1 + 1), .int v9]) dX8_endDay_91 rfl (congrArg (fun z => y1 + z) ic_1) (Nat.le_of_ble_eq_true rfl) rfl rfl ?_
      refine B_goto (tgt := 41) dX8_endDay_94 (by decide) ?_
      refine B_drop 2 (ls' := [.ref t, .int (y1 + 1), .null]) rfl ?_
      exact ih (y1 + 1)  h11
def f_X8_endDay (t : Nat) (h : dH) : Option (Int32 × dH) :=
  (some (dPut h (t + 1) 0 (-1))).bind fun h1 =>
  (some (dPut h1 (t + 1) 1 0)).bind fun h2 =>
  (some (dPut h2 (t + 1) 2 0)).bind fun h3 =>
  (some (dPut h3 (t + 1) 3 0)).bind fun h4 =>
  (some (dPut h4 (t + 1) 6 ((h4.1 (t + 1) 6) + 1))).bind fun h5 =>
  f_X8_endDay_L41 t dFu 0 h5
set_option maxRecDepth 20000 in
set_option maxHeartbeats 4000000 in
theorem t_X8_endDay (t : Nat) (ht : XC.1[t]? = some (.inl 8)) (h : dH) : T XC 1 yX8_endDay cX8_endDay 3 (some .int) fiI [.ref t] h (f_X8_endDay t h) := by
  refine T_of [.ref t, .null, .null] (by decide) (fun _ => rfl) (fun _ => Nat.le_of_ble_eq_true rfl) ?_
  show B XC 1 RX8 cX8_endDay 3 (some .int) fiI 0 [.ref t, .null, .null] [] h (f_X8_endDay t h)
  unfold f_X8_endDay
  refine B_aload_n dX8_endDay_0 rfl rfl ?_
  refine B_getR dX8_endDay_1 fl_X8_11 ht rfl (rfX8_2 _ ht) ?_
  refine B_iconst dX8_endDay_4 ic_0 ?_
  refine B_iconst dX8_endDay_5 ic_m1 ?_
  refine L_iast dX8_endDay_6 (shX8_2 ht) (by decide) di_0 ?_
  refine B_lh (fun h1 => ?_)
  refine B_aload_n dX8_endDay_7 rfl rfl ?_
  refine B_getR dX8_endDay_8 fl_X8_11 ht rfl (rfX8_2 _ ht) ?_
  refine B_iconst dX8_endDay_11 ic_1 ?_
  refine B_iconst dX8_endDay_12 ic_0 ?_
  refine L_iast dX8_endDay_13 (shX8_2 ht) (by decide) di_1 ?_
  refine B_lh (fun h2 => ?_)
  refine B_aload_n dX8_endDay_14 rfl rfl ?_
  refine B_getR dX8_endDay_15 fl_X8_11 ht rfl (rfX8_2 _ ht) ?_
  refine B_iconst dX8_endDay_18 ic_2 ?_
  refine B_iconst dX8_endDay_19 ic_0 ?_
  refine L_iast dX8_endDay_20 (shX8_2 ht) (by decide) di_2 ?_
  refine B_lh (fun h3 => ?_)
  refine B_aload_n dX8_endDay_21 rfl rfl ?_
  refine B_getR dX8_endDay_22 fl_X8_11 ht rfl (rfX8_2 _ ht) ?_
  refine B_iconst dX8_endDay_25 ic_3 ?_
  refine B_iconst dX8_endDay_26 ic_0 ?_
  refine L_iast dX8_endDay_27 (shX8_2 ht) (by decide) di_3 ?_
  refine B_lh (fun h4 => ?_)
  refine B_aload_n dX8_endDay_28 rfl rfl ?_
  refine B_getR dX8_endDay_29 fl_X8_11 ht rfl (rfX8_2 _ ht) ?_
  refine B_bipush dX8_endDay_32 bp_6 ?_
  refine B_dup2 dX8_endDay_34 rfl rfl ?_
  refine L_iald dX8_endDay_35 (shX8_2 ht) (by decide) di_6 ?_
  refine B_iconst dX8_endDay_36 ic_1 ?_
  refine B_iadd dX8_endDay_37 ?_
  refine L_iast dX8_endDay_38 (shX8_2 ht) (by decide) di_6 ?_
  refine B_lh (fun h5 => ?_)
  refine B_iconst dX8_endDay_39 ic_0 ?_
  refine B_istore_n (ls' := [.ref t, .int 0, .null]) dX8_endDay_40 rfl (Nat.le_of_ble_eq_true rfl) rfl rfl ?_
  exact b_X8_endDay_L41 ht dFu 0 h5
def f_X8_comeTo_J128 (t : Nat) (y1 : Int32) (y3 : Int32) (h : dH) : Option (Int32 × dH) :=
  if dIn (7 + y1) 28 then
  if dIn (7 + y1) 28 then
  (some (dPut h (t + 1) (dI (7 + y1)) ((h.1 (t + 1) (dI (7 + y1))) + 1))).bind fun h16 =>
  if dIn (14 + y1) 28 then
  if dIn (14 + y1) 28 then
  (some (dPut h16 (t + 1) (dI (14 + y1)) ((h16.1 (t + 1) (dI (14 + y1))) + y3))).bind fun h19 =>
  some (y3, (dPut h19 (t + 1) 5 ((h19.1 (t + 1) 5) ||| (1 <<< (y1 &&& 31)))))
  else none
  else none
  else none
  else none
set_option maxRecDepth 20000 in
set_option maxHeartbeats 4000000 in
theorem b_X8_comeTo_J128 {t : Nat} (ht : XC.1[t]? = some (.inl 8)) (y1 : Int32) (y3 : Int32) (h : dH) : B XC 3 RX8 cX8_comeTo 4 (some .int) fiI 128 [.ref t, .int y1, .null, .int y3] [] h (f_X8_comeTo_J128 t y1 y3 h) := by
  unfold f_X8_comeTo_J128
  refine B_aload_n dX8_comeTo_128 rfl rfl ?_
  refine B_getR dX8_comeTo_129 fl_X8_11 ht rfl (rfX8_2 _ ht) ?_
  refine B_bipush dX8_comeTo_132 bp_7 ?_
  refine B_iload_n dX8_comeTo_134 rfl rfl ?_
  refine B_iadd dX8_comeTo_135 ?_
  refine B_dup2 dX8_comeTo_136 rfl rfl ?_
  refine C_chk (fun q14 => ?_)
  refine L_iald dX8_comeTo_137 (shX8_2 ht) q14 rfl ?_
  refine B_iconst dX8_comeTo_138 ic_1 ?_
  refine B_iadd dX8_comeTo_139 ?_
  refine C_chk (fun q15 => ?_)
  refine L_iast dX8_comeTo_140 (shX8_2 ht) q15 rfl ?_
  refine B_lh (fun h16 => ?_)
  refine B_aload_n dX8_comeTo_141 rfl rfl ?_
  refine B_getR dX8_comeTo_142 fl_X8_11 ht rfl (rfX8_2 _ ht) ?_
  refine B_bipush dX8_comeTo_145 bp_14 ?_
  refine B_iload_n dX8_comeTo_147 rfl rfl ?_
  refine B_iadd dX8_comeTo_148 ?_
  refine B_dup2 dX8_comeTo_149 rfl rfl ?_
  refine C_chk (fun q17 => ?_)
  refine L_iald dX8_comeTo_150 (shX8_2 ht) q17 rfl ?_
  refine B_iload_n dX8_comeTo_151 rfl rfl ?_
  refine B_iadd dX8_comeTo_152 ?_
  refine C_chk (fun q18 => ?_)
  refine L_iast dX8_comeTo_153 (shX8_2 ht) q18 rfl ?_
  refine B_lh (fun h19 => ?_)
  refine B_aload_n dX8_comeTo_154 rfl rfl ?_
  refine B_getR dX8_comeTo_155 fl_X8_11 ht rfl (rfX8_2 _ ht) ?_
  refine B_iconst dX8_comeTo_158 ic_5 ?_
  refine B_dup2 dX8_comeTo_159 rfl rfl ?_
  refine L_iald dX8_comeTo_160 (shX8_2 ht) (by decide) di_5 ?_
  refine B_iconst dX8_comeTo_161 ic_1 ?_
  refine B_iload_n dX8_comeTo_162 rfl rfl ?_
  refine B_ishl dX8_comeTo_163 ?_
  refine B_ior dX8_comeTo_164 ?_
  refine L_iast dX8_comeTo_165 (shX8_2 ht) (by decide) di_5 ?_
  refine B_iload_n dX8_comeTo_166 rfl rfl ?_
  exact B_ireturn dX8_comeTo_167 rfl rfl
def f_X8_comeTo (t : Nat) (x1 : Int32) (h : dH) : Option (Int32 × dH) :=
  if (f_X1_isPlace 3 x1 h) then
  (f_X1_apart 3 (h.1 (t + 1) 0) x1 h).bind fun v1 =>
  (f_X8_troubleThen t x1 ((h.1 (t + 1) 1) + v1) ((h.1 (t + 1) 2) + v1) 0 h).bind fun rv2 =>
  (some (dPut rv2.2 (t + 1) 0 x1)).bind fun h4 =>
  (some (dPut h4 (t + 1) 1 ((h4.1 (t + 1) 1) + (v1 + 1)))).bind fun h5 =>
  (some (dPut h5 (t + 1) 2 ((h5.1 (t + 1) 2) + v1))).bind fun h6 =>
  if dIn (7 + x1) 28 then
  if (h6.1 (t + 1) (dI (7 + x1))) = 0 then
  (f_X1_toldOf 3 x1 3 h6).bind fun v8 =>
  (some (dPut h6 (t + 1) 3 ((h6.1 (t + 1) 3) + v8))).bind fun h9 =>
  (f_X1_toldOf 3 x1 3 h9).bind fun v10 =>
  (some (dPut h9 (t + 1) 4 ((h9.1 (t + 1) 4) + v10))).bind fun h11 =>
  f_X8_comeTo_J128 t x1 rv2.1 h11
  else
  f_X8_comeTo_J128 t x1 rv2.1 h6
  else none
  else
  some ((-1), h)
set_option maxRecDepth 20000 in
set_option maxHeartbeats 4000000 in
theorem t_X8_comeTo (t : Nat) (ht : XC.1[t]? = some (.inl 8)) (x1 : Int32) (h : dH) : T XC 3 yX8_comeTo cX8_comeTo 4 (some .int) fiI [.ref t, .int x1] h (f_X8_comeTo t x1 h) := by
  refine T_of [.ref t, .int x1, .null, .null] (by decide) (fun _ => rfl) (fun _ => Nat.le_of_ble_eq_true rfl) ?_
  show B XC 3 RX8 cX8_comeTo 4 (some .int) fiI 0 [.ref t, .int x1, .null, .null] [] h (f_X8_comeTo t x1 h)
  unfold f_X8_comeTo
  refine B_aload_n dX8_comeTo_0 rfl rfl ?_
  refine B_getR dX8_comeTo_1 fl_X8_15 ht rfl (rfX8_0 _ ht) ?_
  refine B_iload_n dX8_comeTo_4 rfl rfl ?_
  refine B_VTb (st := []) dX8_comeTo_5 cl_X8_35 (t_X1_isPlace 3 shC_3 x1 h) (Nat.le_of_ble_eq_true rfl) shC_3 rfl rfl (Nat.le_of_ble_eq_true rfl) ?_
  refine C_ifb_ne (tgt := 13) dX8_comeTo_8 (by decide) (fun q13 => ?_) (fun q13 => ?_)
  · refine B_aload_n dX8_comeTo_13 rfl rfl ?_
    refine B_getR dX8_comeTo_14 fl_X8_15 ht rfl (rfX8_0 _ ht) ?_
    refine B_aload_n dX8_comeTo_17 rfl rfl ?_
    refine B_getR dX8_comeTo_18 fl_X8_11 ht rfl (rfX8_2 _ ht) ?_
    refine B_iconst dX8_comeTo_21 ic_0 ?_
    refine L_iald dX8_comeTo_22 (shX8_2 ht) (by decide) di_0 ?_
    refine B_iload_n dX8_comeTo_23 rfl rfl ?_
    refine B_Vp (st := []) dX8_comeTo_24 cl_X8_57 (t_X1_apart 3 shC_3 (h.1 (t + 1) 0) x1 h) (Nat.le_of_ble_eq_true rfl) shC_3 rfl rfl (Nat.le_of_ble_eq_true rfl) (fun v1 _ => ?_)
    refine B_istore_n (ls' := [.ref t, .int x1, .int v1, .null]) dX8_comeTo_27 rfl (Nat.le_of_ble_eq_true rfl) rfl rfl ?_
    refine B_aload_n dX8_comeTo_28 rfl rfl ?_
    refine B_iload_n dX8_comeTo_29 rfl rfl ?_
    refine B_aload_n dX8_comeTo_30 rfl rfl ?_
    refine B_getR dX8_comeTo_31 fl_X8_11 ht rfl (rfX8_2 _ ht) ?_
    refine B_iconst dX8_comeTo_34 ic_1 ?_
    refine L_iald dX8_comeTo_35 (shX8_2 ht) (by decide) di_1 ?_
    refine B_iload_n dX8_comeTo_36 rfl rfl ?_
    refine B_iadd dX8_comeTo_37 ?_
    refine B_aload_n dX8_comeTo_38 rfl rfl ?_
    refine B_getR dX8_comeTo_39 fl_X8_11 ht rfl (rfX8_2 _ ht) ?_
    refine B_iconst dX8_comeTo_42 ic_2 ?_
    refine L_iald dX8_comeTo_43 (shX8_2 ht) (by decide) di_2 ?_
    refine B_iload_n dX8_comeTo_44 rfl rfl ?_
    refine B_iadd dX8_comeTo_45 ?_
    refine B_iconst dX8_comeTo_46 ic_0 ?_
    refine B_VI (st := []) dX8_comeTo_47 cl_X8_85 (t_X8_troubleThen t ht x1 ((h.1 (t + 1) 1) + v1) ((h.1 (t + 1) 2) + v1) 0 h) (Nat.le_of_ble_eq_true rfl) ht rfl rfl (Nat.le_of_ble_eq_true rfl) (fun v2 h3 _ => ?_)
    refine B_istore_n (ls' := [.ref t, .int x1, .int v1, .int v2]) dX8_comeTo_50 rfl (Nat.le_of_ble_eq_true rfl) rfl rfl ?_
    refine B_aload_n dX8_comeTo_51 rfl rfl ?_
    refine B_getR dX8_comeTo_52 fl_X8_11 ht rfl (rfX8_2 _ ht) ?_
    refine B_iconst dX8_comeTo_55 ic_0 ?_
    refine B_iload_n dX8_comeTo_56 rfl rfl ?_
    refine L_iast dX8_comeTo_57 (shX8_2 ht) (by decide) di_0 ?_
    refine B_lh (fun h4 => ?_)
    refine B_aload_n dX8_comeTo_58 rfl rfl ?_
    refine B_getR dX8_comeTo_59 fl_X8_11 ht rfl (rfX8_2 _ ht) ?_
    refine B_iconst dX8_comeTo_62 ic_1 ?_
    refine B_dup2 dX8_comeTo_63 rfl rfl ?_
    refine L_iald dX8_comeTo_64 (shX8_2 ht) (by decide) di_1 ?_
    refine B_iload_n dX8_comeTo_65 rfl rfl ?_
    refine B_iconst dX8_comeTo_66 ic_1 ?_
    refine B_iadd dX8_comeTo_67 ?_
    refine B_iadd dX8_comeTo_68 ?_
    refine L_iast dX8_comeTo_69 (shX8_2 ht) (by decide) di_1 ?_
    refine B_lh (fun h5 => ?_)
    refine B_aload_n dX8_comeTo_70 rfl rfl ?_
    refine B_getR dX8_comeTo_71 fl_X8_11 ht rfl (rfX8_2 _ ht) ?_
    refine B_iconst dX8_comeTo_74 ic_2 ?_
    refine B_dup2 dX8_comeTo_75 rfl rfl ?_
    refine L_iald dX8_comeTo_76 (shX8_2 ht) (by decide) di_2 ?_
    refine B_iload_n dX8_comeTo_77 rfl rfl ?_
    refine B_iadd dX8_comeTo_78 ?_
    refine L_iast dX8_comeTo_79 (shX8_2 ht) (by decide) di_2 ?_
    refine B_lh (fun h6 => ?_)
    refine B_aload_n dX8_comeTo_80 rfl rfl ?_
    refine B_getR dX8_comeTo_81 fl_X8_11 ht rfl (rfX8_2 _ ht) ?_
    refine B_bipush dX8_comeTo_84 bp_7 ?_
    refine B_iload_n dX8_comeTo_86 rfl rfl ?_
    refine B_iadd dX8_comeTo_87 ?_
    refine C_chk (fun q7 => ?_)
    refine L_iald dX8_comeTo_88 (shX8_2 ht) q7 rfl ?_
    refine C_if_ne (tgt := 128) dX8_comeTo_89 (by decide) (fun q12 => ?_) (fun q12 => ?_)
    · refine B_drop 2 (ls' := [.ref t, .int x1, .null, .int v2]) rfl ?_
      exact b_X8_comeTo_J128 ht x1 v2 h6
    · refine B_aload_n dX8_comeTo_92 rfl rfl ?_
      refine B_getR dX8_comeTo_93 fl_X8_11 ht rfl (rfX8_2 _ ht) ?_
      refine B_iconst dX8_comeTo_96 ic_3 ?_
      refine B_dup2 dX8_comeTo_97 rfl rfl ?_
      refine L_iald dX8_comeTo_98 (shX8_2 ht) (by decide) di_3 ?_
      refine B_aload_n dX8_comeTo_99 rfl rfl ?_
      refine B_getR dX8_comeTo_100 fl_X8_15 ht rfl (rfX8_0 _ ht) ?_
      refine B_iload_n dX8_comeTo_103 rfl rfl ?_
      refine B_iconst dX8_comeTo_104 ic_3 ?_
      refine B_Vp (st := [.int (h6.1 (t + 1) 3), .int 3, .ref (t + 1)]) dX8_comeTo_105 cl_X8_23 (t_X1_toldOf 3 shC_3 x1 3 h6) (Nat.le_of_ble_eq_true rfl) shC_3 rfl rfl (Nat.le_of_ble_eq_true rfl) (fun v8 _ => ?_)
      refine B_iadd dX8_comeTo_108 ?_
      refine L_iast dX8_comeTo_109 (shX8_2 ht) (by decide) di_3 ?_
      refine B_lh (fun h9 => ?_)
      refine B_aload_n dX8_comeTo_110 rfl rfl ?_
      refine B_getR dX8_comeTo_111 fl_X8_11 ht rfl (rfX8_2 _ ht) ?_
      refine B_iconst dX8_comeTo_114 ic_4 ?_
      refine B_dup2 dX8_comeTo_115 rfl rfl ?_
      refine L_iald dX8_comeTo_116 (shX8_2 ht) (by decide) di_4 ?_
      refine B_aload_n dX8_comeTo_117 rfl rfl ?_
      refine B_getR dX8_comeTo_118 fl_X8_15 ht rfl (rfX8_0 _ ht) ?_
      refine B_iload_n dX8_comeTo_121 rfl rfl ?_
      refine B_iconst dX8_comeTo_122 ic_3 ?_
      refine B_Vp (st := [.int (h9.1 (t + 1) 4), .int 4, .ref (t + 1)]) dX8_comeTo_123 cl_X8_23 (t_X1_toldOf 3 shC_3 x1 3 h9) (Nat.le_of_ble_eq_true rfl) shC_3 rfl rfl (Nat.le_of_ble_eq_true rfl) (fun v10 _ => ?_)
      refine B_iadd dX8_comeTo_126 ?_
      refine L_iast dX8_comeTo_127 (shX8_2 ht) (by decide) di_4 ?_
      refine B_lh (fun h11 => ?_)
      refine B_drop 2 (ls' := [.ref t, .int x1, .null, .int v2]) rfl ?_
      exact b_X8_comeTo_J128 ht x1 v2 h11
  · refine B_iconst dX8_comeTo_11 ic_m1 ?_
    exact B_ireturn dX8_comeTo_12 rfl rfl
def f_X8_putBack (t : Nat) (x1 : Int32) (h : dH) : Option (Int32 × dH) :=
  if (f_X1_isPlace 3 x1 h) then
  (some (dPut h (t + 1) 5 ((h.1 (t + 1) 5) &&& ((1 <<< (x1 &&& 31)) ^^^ (-1))))).bind fun h1 =>
  if dIn (14 + x1) 28 then
  if dIn (14 + x1) 28 then
  (some (dPut h1 (t + 1) (dI (14 + x1)) ((h1.1 (t + 1) (dI (14 + x1))) / 2))).bind fun h4 =>
  if dIn (14 + x1) 28 then
  some ((h4.1 (t + 1) (dI (14 + x1))), h4)
  else none
  else none
  else none
  else
  some ((-1), h)
set_option maxRecDepth 20000 in
set_option maxHeartbeats 4000000 in
theorem t_X8_putBack (t : Nat) (ht : XC.1[t]? = some (.inl 8)) (x1 : Int32) (h : dH) : T XC 1 yX8_putBack cX8_putBack 2 (some .int) fiI [.ref t, .int x1] h (f_X8_putBack t x1 h) := by
  refine T_of [.ref t, .int x1] (by decide) (fun _ => rfl) (fun _ => Nat.le_of_ble_eq_true rfl) ?_
  show B XC 1 RX8 cX8_putBack 2 (some .int) fiI 0 [.ref t, .int x1] [] h (f_X8_putBack t x1 h)
  unfold f_X8_putBack
  refine B_aload_n dX8_putBack_0 rfl rfl ?_
  refine B_getR dX8_putBack_1 fl_X8_15 ht rfl (rfX8_0 _ ht) ?_
  refine B_iload_n dX8_putBack_4 rfl rfl ?_
  refine B_VTb (st := []) dX8_putBack_5 cl_X8_35 (t_X1_isPlace 3 shC_3 x1 h) (Nat.le_of_ble_eq_true rfl) shC_3 rfl rfl (Nat.le_of_ble_eq_true rfl) ?_
  refine C_ifb_ne (tgt := 13) dX8_putBack_8 (by decide) (fun q6 => ?_) (fun q6 => ?_)
  · refine B_aload_n dX8_putBack_13 rfl rfl ?_
    refine B_getR dX8_putBack_14 fl_X8_11 ht rfl (rfX8_2 _ ht) ?_
    refine B_iconst dX8_putBack_17 ic_5 ?_
    refine B_dup2 dX8_putBack_18 rfl rfl ?_
    refine L_iald dX8_putBack_19 (shX8_2 ht) (by decide) di_5 ?_
    refine B_iconst dX8_putBack_20 ic_1 ?_
    refine B_iload_n dX8_putBack_21 rfl rfl ?_
    refine B_ishl dX8_putBack_22 ?_
    refine B_iconst dX8_putBack_23 ic_m1 ?_
    refine B_ixor dX8_putBack_24 ?_
    refine B_iand dX8_putBack_25 ?_
    refine L_iast dX8_putBack_26 (shX8_2 ht) (by decide) di_5 ?_
    refine B_lh (fun h1 => ?_)
    refine B_aload_n dX8_putBack_27 rfl rfl ?_
    refine B_getR dX8_putBack_28 fl_X8_11 ht rfl (rfX8_2 _ ht) ?_
    refine B_bipush dX8_putBack_31 bp_14 ?_
    refine B_iload_n dX8_putBack_33 rfl rfl ?_
    refine B_iadd dX8_putBack_34 ?_
    refine B_dup2 dX8_putBack_35 rfl rfl ?_
    refine C_chk (fun q2 => ?_)
    refine L_iald dX8_putBack_36 (shX8_2 ht) q2 rfl ?_
    refine B_iconst dX8_putBack_37 ic_2 ?_
    refine B_idiv dX8_putBack_38 (by decide) ?_
    refine C_chk (fun q3 => ?_)
    refine L_iast dX8_putBack_39 (shX8_2 ht) q3 rfl ?_
    refine B_lh (fun h4 => ?_)
    refine B_aload_n dX8_putBack_40 rfl rfl ?_
    refine B_getR dX8_putBack_41 fl_X8_11 ht rfl (rfX8_2 _ ht) ?_
    refine B_bipush dX8_putBack_44 bp_14 ?_
    refine B_iload_n dX8_putBack_46 rfl rfl ?_
    refine B_iadd dX8_putBack_47 ?_
    refine C_chk (fun q5 => ?_)
    refine L_iald dX8_putBack_48 (shX8_2 ht) q5 rfl ?_
    exact B_ireturn dX8_putBack_49 rfl rfl
  · refine B_iconst dX8_putBack_11 ic_m1 ?_
    exact B_ireturn dX8_putBack_12 rfl rfl
def f_X8_carryOut (t : Nat) (x1 : Int32) (x2 : Int32) (h : dH) : Option (Int32 × dH) :=
  if x1 = 0 then
  (f_X8_comeTo t x2 h).bind fun rv2 =>
  some (rv2.1, rv2.2)
  else
  if x1 = 1 then
  (f_X8_readOnLedge t h).bind fun rv4 =>
  some (rv4.1, rv4.2)
  else
  if x1 = 2 then
  (f_X8_putBack t x2 h).bind fun rv6 =>
  some (rv6.1, rv6.2)
  else
  (f_X8_endDay t h).bind fun rv8 =>
  some (rv8.1, rv8.2)
set_option maxRecDepth 20000 in
set_option maxHeartbeats 4000000 in
theorem t_X8_carryOut (t : Nat) (ht : XC.1[t]? = some (.inl 8)) (x1 : Int32) (x2 : Int32) (h : dH) : T XC 4 yX8_carryOut cX8_carryOut 3 (some .int) fiI [.ref t, .int x1, .int x2] h (f_X8_carryOut t x1 x2 h) := by
  refine T_of [.ref t, .int x1, .int x2] (by decide) (fun _ => rfl) (fun _ => Nat.le_of_ble_eq_true rfl) ?_
  show B XC 4 RX8 cX8_carryOut 3 (some .int) fiI 0 [.ref t, .int x1, .int x2] [] h (f_X8_carryOut t x1 x2 h)
  unfold f_X8_carryOut
  refine B_iload_n dX8_carryOut_0 rfl rfl ?_
  refine C_ite (fun n1_0 => ?_) (fun n1_0 => ?_)
  · refine B_tswIn (tgt := 28) dX8_carryOut_1 (by rw [n1_0]; decide) (by rw [n1_0]; decide) (by rw [n1_0]; decide) (by decide) ?_
    refine B_aload_n dX8_carryOut_28 rfl rfl ?_
    refine B_iload_n dX8_carryOut_29 rfl rfl ?_
    refine B_VI (st := []) dX8_carryOut_30 cl_X8_100 (t_X8_comeTo t ht x2 h) (Nat.le_of_ble_eq_true rfl) ht rfl rfl (Nat.le_of_ble_eq_true rfl) (fun v2 h3 _ => ?_)
    exact B_ireturn dX8_carryOut_33 rfl rfl
  · refine C_ite (fun n1_1 => ?_) (fun n1_1 => ?_)
    · refine B_tswIn (tgt := 34) dX8_carryOut_1 (by rw [n1_1]; decide) (by rw [n1_1]; decide) (by rw [n1_1]; decide) (by decide) ?_
      refine B_aload_n dX8_carryOut_34 rfl rfl ?_
      refine B_VI (st := []) dX8_carryOut_35 cl_X8_103 (t_X8_readOnLedge t ht h) (Nat.le_of_ble_eq_true rfl) ht rfl rfl (Nat.le_of_ble_eq_true rfl) (fun v4 h5 _ => ?_)
      exact B_ireturn dX8_carryOut_38 rfl rfl
    · refine C_ite (fun n1_2 => ?_) (fun n1_2 => ?_)
      · refine B_tswIn (tgt := 39) dX8_carryOut_1 (by rw [n1_2]; decide) (by rw [n1_2]; decide) (by rw [n1_2]; decide) (by decide) ?_
        refine B_aload_n dX8_carryOut_39 rfl rfl ?_
        refine B_iload_n dX8_carryOut_40 rfl rfl ?_
        refine B_VI (st := []) dX8_carryOut_41 cl_X8_106 (t_X8_putBack t ht x2 h) (Nat.le_of_ble_eq_true rfl) ht rfl rfl (Nat.le_of_ble_eq_true rfl) (fun v6 h7 _ => ?_)
        exact B_ireturn dX8_carryOut_44 rfl rfl
      · refine B_tswOut (tgt := 45) dX8_carryOut_1 (dsw (fun c h1 h2 => ?_)) (by decide) ?_
        · rcases (show c = 0 ∨ c = 1 ∨ c = 2 by omega) with rfl | rfl | rfl
          · exact n1_0
          · exact n1_1
          · exact n1_2
        · refine B_aload_n dX8_carryOut_45 rfl rfl ?_
          refine B_VI (st := []) dX8_carryOut_46 cl_X8_109 (t_X8_endDay t ht h) (Nat.le_of_ble_eq_true rfl) ht rfl rfl (Nat.le_of_ble_eq_true rfl) (fun v8 h9 _ => ?_)
          exact B_ireturn dX8_carryOut_49 rfl rfl
def f_X9_bytesIn_J22 (kL5 : Int32 → Int32 → Int32 → Option (Int32)) (y0 : Int32) (y1 : Int32) (y2 : Int32) (h : dH) : Option (Int32) :=
  kL5 y0 y1 (y2 + (-8))
set_option maxRecDepth 20000 in
set_option maxHeartbeats 4000000 in
theorem b_X9_bytesIn_J22 {kL5 : Int32 → Int32 → Int32 → Option (Int32)} (h : dH) (hkL5 : ∀ (y0 : Int32) (y1 : Int32) (y2 : Int32), B XC 0 RX9 cX9_bytesIn 3 (some .int) (fiP h) 5 [.int y0, .int y1, .int y2] [] h (kL5 y0 y1 y2)) (y0 : Int32) (y1 : Int32) (y2 : Int32) : B XC 0 RX9 cX9_bytesIn 3 (some .int) (fiP h) 22 [.int y0, .int y1, .int y2] [] h (f_X9_bytesIn_J22 kL5 y0 y1 y2 h) := by
  unfold f_X9_bytesIn_J22
  refine B_iinc (w := (y2 + (-8))) (ls' := [.int y0, .int y1, .int (y2 + (-8))]) dX9_bytesIn_22 rfl (congrArg (fun z => y2 + z) ic_m8) (Nat.le_of_ble_eq_true rfl) rfl rfl ?_
  refine B_goto (tgt := 5) dX9_bytesIn_25 (by decide) ?_
  exact hkL5 y0 y1 (y2 + (-8))  
def f_X9_bytesIn_L5 (h : dH) : Nat → Int32 → Int32 → Int32 → Option (Int32)
  | 0, _, _, _ => none
  | n + 1, y0, y1, y2 =>
    if y2 < 0 then
    some y1
    else
    if (((y0).toUInt32 >>> ((y2 : Int32).toUInt32 &&& Int32.toUInt32 31)).toInt32 &&& 255) = 0 then
    f_X9_bytesIn_J22 (f_X9_bytesIn_L5 h n) y0 y1 y2 h
    else
    f_X9_bytesIn_J22 (f_X9_bytesIn_L5 h n) y0 (y1 + 1) y2 h
set_option maxRecDepth 20000 in
set_option maxHeartbeats 4000000 in
theorem b_X9_bytesIn_L5 (h : dH) : ∀ (n : Nat) (y0 : Int32) (y1 : Int32) (y2 : Int32), B XC 0 RX9 cX9_bytesIn 3 (some .int) (fiP h) 5 [.int y0, .int y1, .int y2] [] h (f_X9_bytesIn_L5 h n y0 y1 y2) := by
  intro n
  induction n with
  | zero =>
    intro y0 y1 y2
    exact B_none
  | succ n ih =>
    intro y0 y1 y2
    rw [f_X9_bytesIn_L5]
    refine B_iload_n dX9_bytesIn_5 rfl rfl ?_
    refine C_if_lt (tgt := 28) dX9_bytesIn_6 (by decide) (fun q2 => ?_) (fun q2 => ?_)
    · refine B_iload_n dX9_bytesIn_28 rfl rfl ?_
      exact B_ireturn dX9_bytesIn_29 rfl rfl
    · refine B_iload_n dX9_bytesIn_9 rfl rfl ?_
      refine B_iload_n dX9_bytesIn_10 rfl rfl ?_
      refine B_iushr dX9_bytesIn_11 ?_
      refine B_sipush dX9_bytesIn_12 sp_255 ?_
      refine B_iand dX9_bytesIn_15 ?_
      refine C_if_eq (tgt := 22) dX9_bytesIn_16 (by decide) (fun q1 => ?_) (fun q1 => ?_)
      · exact b_X9_bytesIn_J22 h (fun qy0 qy1 qy2 => ih qy0 qy1 qy2) y0 y1 y2
      · refine B_iinc (w := (y1 + 1)) (ls' := [.int y0, .int (y1 + 1), .int y2]) dX9_bytesIn_19 rfl (congrArg (fun z => y1 + z) ic_1) (Nat.le_of_ble_eq_true rfl) rfl rfl ?_
        exact b_X9_bytesIn_J22 h (fun qy0 qy1 qy2 => ih qy0 qy1 qy2) y0 (y1 + 1) y2
def f_X9_bytesIn (x0 : Int32) (h : dH) : Option (Int32) :=
  f_X9_bytesIn_L5 h dFu x0 0 24
set_option maxRecDepth 20000 in
set_option maxHeartbeats 4000000 in
theorem t_X9_bytesIn (x0 : Int32) (h : dH) : T XC 0 yX9_bytesIn cX9_bytesIn 3 (some .int) (fiP h) [.int x0] h (f_X9_bytesIn x0 h) := by
  refine T_of [.int x0, .null, .null] (by decide) (fun _ => rfl) (fun _ => Nat.le_of_ble_eq_true rfl) ?_
  show B XC 0 RX9 cX9_bytesIn 3 (some .int) (fiP h) 0 [.int x0, .null, .null] [] h (f_X9_bytesIn x0 h)
  unfold f_X9_bytesIn
  refine B_iconst dX9_bytesIn_0 ic_0 ?_
  refine B_istore_n (ls' := [.int x0, .int 0, .null]) dX9_bytesIn_1 rfl (Nat.le_of_ble_eq_true rfl) rfl rfl ?_
  refine B_bipush dX9_bytesIn_2 bp_24 ?_
  refine B_istore_n (ls' := [.int x0, .int 0, .int 24]) dX9_bytesIn_4 rfl (Nat.le_of_ble_eq_true rfl) rfl rfl ?_
  exact b_X9_bytesIn_L5 h dFu x0 0 24
def f_X9_addBytesOf_J49 (kL3 : Int32 → Int32 → dH → Option (dH)) (y1 : Int32) (y2 : Int32) (h : dH) : Option (dH) :=
  kL3 y1 (y2 + (-8)) h
set_option maxRecDepth 20000 in
set_option maxHeartbeats 4000000 in
theorem b_X9_addBytesOf_J49 {kL3 : Int32 → Int32 → dH → Option (dH)} (hkL3 : ∀ (y1 : Int32) (y2 : Int32) (h : dH), B XC 0 RX9 cX9_addBytesOf 4 none fiV 3 [.ref 1, .int y1, .int y2, .null] [] h (kL3 y1 y2 h)) (y1 : Int32) (y2 : Int32) (h : dH) : B XC 0 RX9 cX9_addBytesOf 4 none fiV 49 [.ref 1, .int y1, .int y2, .null] [] h (f_X9_addBytesOf_J49 kL3 y1 y2 h) := by
  unfold f_X9_addBytesOf_J49
  refine B_iinc (w := (y2 + (-8))) (ls' := [.ref 1, .int y1, .int (y2 + (-8)), .null]) dX9_addBytesOf_49 rfl (congrArg (fun z => y2 + z) ic_m8) (Nat.le_of_ble_eq_true rfl) rfl rfl ?_
  refine B_goto (tgt := 3) dX9_addBytesOf_52 (by decide) ?_
  exact hkL3 y1 (y2 + (-8))  h
def f_X9_addBytesOf_L3 : Nat → Int32 → Int32 → dH → Option (dH)
  | 0, _, _, _ => none
  | n + 1, y1, y2, h =>
    if y2 < 0 then
    some h
    else
    (some ((((y1).toUInt32 >>> ((y2 : Int32).toUInt32 &&& Int32.toUInt32 31)).toInt32 &&& 255))).bind fun v1 =>
    if v1 = 0 then
    f_X9_addBytesOf_J49 (f_X9_addBytesOf_L3 n) y1 y2 h
    else
    if (h.1 1 1) < 240 then
    if dIn (h.1 1 1) 240 then
    (some (dPut h 2 (dI (h.1 1 1)) v1)).bind fun h3 =>
    (some (dPut h3 1 1 ((h3.1 1 1) + 1))).bind fun h4 =>
    f_X9_addBytesOf_J49 (f_X9_addBytesOf_L3 n) y1 y2 h4
    else none
    else
    f_X9_addBytesOf_J49 (f_X9_addBytesOf_L3 n) y1 y2 h
set_option maxRecDepth 20000 in
set_option maxHeartbeats 4000000 in
theorem b_X9_addBytesOf_L3 : ∀ (n : Nat) (y1 : Int32) (y2 : Int32) (h : dH), B XC 0 RX9 cX9_addBytesOf 4 none fiV 3 [.ref 1, .int y1, .int y2, .null] [] h (f_X9_addBytesOf_L3 n y1 y2 h) := by
  intro n
  induction n with
  | zero =>
    intro y1 y2 h
    exact B_none
  | succ n ih =>
    intro y1 y2 h
    rw [f_X9_addBytesOf_L3]
    refine B_iload_n dX9_addBytesOf_3 rfl rfl ?_
    refine C_if_lt (tgt := 55) dX9_addBytesOf_4 (by decide) (fun q7 => ?_) (fun q7 => ?_)
    · exact B_return dX9_addBytesOf_55 rfl rfl
    · refine B_iload_n dX9_addBytesOf_7 rfl rfl ?_
      refine B_iload_n dX9_addBytesOf_8 rfl rfl ?_
      refine B_iushr dX9_addBytesOf_9 ?_
      refine B_sipush dX9_addBytesOf_10 sp_255 ?_
      refine B_iand dX9_addBytesOf_13 ?_
      refine B_lv (fun v1 => ?_)
      refine B_istore_n (ls' := [.ref 1, .int y1, .int y2, .int v1]) dX9_addBytesOf_14 rfl (Nat.le_of_ble_eq_true rfl) rfl rfl ?_
      refine B_iload_n dX9_addBytesOf_15 rfl rfl ?_
      refine C_if_eq (tgt := 49) dX9_addBytesOf_16 (by decide) (fun q6 => ?_) (fun q6 => ?_)
      · refine B_drop 3 (ls' := [.ref 1, .int y1, .int y2, .null]) rfl ?_
        exact b_X9_addBytesOf_J49 (fun qy1 qy2 qh => ih qy1 qy2 qh) y1 y2 h
      · refine B_aload_n dX9_addBytesOf_19 rfl rfl ?_
        refine B_getI dX9_addBytesOf_20 fl_X9_15 shC_1 rfl ?_
        refine B_sipush dX9_addBytesOf_23 sp_240 ?_
        refine C_icmp_ge (tgt := 49) dX9_addBytesOf_26 (by decide) (fun q5 => ?_) (fun q5 => ?_)
        · refine B_drop 3 (ls' := [.ref 1, .int y1, .int y2, .null]) rfl ?_
          exact b_X9_addBytesOf_J49 (fun qy1 qy2 qh => ih qy1 qy2 qh) y1 y2 h
        · refine B_aload_n dX9_addBytesOf_29 rfl rfl ?_
          refine B_getR dX9_addBytesOf_30 fl_X9_9 shC_1 rfl (rfC_1_0 _) ?_
          refine B_aload_n dX9_addBytesOf_33 rfl rfl ?_
          refine B_getI dX9_addBytesOf_34 fl_X9_15 shC_1 rfl ?_
          refine B_iload_n dX9_addBytesOf_37 rfl rfl ?_
          refine C_chk (fun q2 => ?_)
          refine L_iast dX9_addBytesOf_38 shC_2 q2 rfl ?_
          refine B_lh (fun h3 => ?_)
          refine B_aload_n dX9_addBytesOf_39 rfl rfl ?_
          refine B_dup dX9_addBytesOf_40 rfl ?_
          refine B_getI dX9_addBytesOf_41 fl_X9_15 shC_1 rfl ?_
          refine B_iconst dX9_addBytesOf_44 ic_1 ?_
          refine B_iadd dX9_addBytesOf_45 ?_
          refine B_putI dX9_addBytesOf_46 fl_X9_15 fw_X9_1 shC_1 rfl ?_
          refine B_lh (fun h4 => ?_)
          refine B_drop 3 (ls' := [.ref 1, .int y1, .int y2, .null]) rfl ?_
          exact b_X9_addBytesOf_J49 (fun qy1 qy2 qh => ih qy1 qy2 qh) y1 y2 h4
def f_X9_addBytesOf (x1 : Int32) (h : dH) : Option (dH) :=
  f_X9_addBytesOf_L3 dFu x1 24 h
set_option maxRecDepth 20000 in
set_option maxHeartbeats 4000000 in
theorem t_X9_addBytesOf (x1 : Int32) (h : dH) : T XC 0 yX9_addBytesOf cX9_addBytesOf 4 none fiV [.ref 1, .int x1] h (f_X9_addBytesOf x1 h) := by
  refine T_of [.ref 1, .int x1, .null, .null] (by decide) (fun _ => rfl) (fun _ => Nat.le_of_ble_eq_true rfl) ?_
  show B XC 0 RX9 cX9_addBytesOf 4 none fiV 0 [.ref 1, .int x1, .null, .null] [] h (f_X9_addBytesOf x1 h)
  unfold f_X9_addBytesOf
  refine B_bipush dX9_addBytesOf_0 bp_24 ?_
  refine B_istore_n (ls' := [.ref 1, .int x1, .int 24, .null]) dX9_addBytesOf_2 rfl (Nat.le_of_ble_eq_true rfl) rfl rfl ?_
  exact b_X9_addBytesOf_L3 dFu x1 24 h
def f_X10_forget (h : dH) : Option (dH) :=
  some (dPut h 77 0 0)
set_option maxRecDepth 20000 in
set_option maxHeartbeats 4000000 in
theorem t_X10_forget (h : dH) : T XC 0 yX10_forget cX10_forget 1 none fiV [.ref 77] h (f_X10_forget h) := by
  refine T_of [.ref 77] (by decide) (fun _ => rfl) (fun _ => Nat.le_of_ble_eq_true rfl) ?_
  show B XC 0 RX10 cX10_forget 1 none fiV 0 [.ref 77] [] h (f_X10_forget h)
  unfold f_X10_forget
  refine B_aload_n dX10_forget_0 rfl rfl ?_
  refine B_iconst dX10_forget_1 ic_0 ?_
  refine B_putI dX10_forget_2 fl_X10_32 fw_X10_0 shC_77 rfl ?_
  exact B_return dX10_forget_5 rfl rfl
def f_X10_put (x1 : Int32) (x2 : Int32) (x3 : Bool) (h : dH) : Option (Int32 × dH) :=
  if (h.1 77 0) < 10 then
  if dIn (h.1 77 0) 10 then
  (some (dPut h 78 (dI (h.1 77 0)) x1)).bind fun h2 =>
  if dIn (h2.1 77 0) 10 then
  (some (dPut h2 79 (dI (h2.1 77 0)) x2)).bind fun h4 =>
  if dIn (h4.1 77 0) 10 then
  (some (dPut h4 80 (dI (h4.1 77 0)) (vp_nar .boolean (bi x3)))).bind fun h6 =>
  some (((dPut h6 77 0 ((h6.1 77 0) + 1)).1 77 0), (dPut h6 77 0 ((h6.1 77 0) + 1)))
  else none
  else none
  else none
  else
  some ((-1), h)
set_option maxRecDepth 20000 in
set_option maxHeartbeats 4000000 in
theorem t_X10_put (x1 : Int32) (x2 : Int32) (x3 : Bool) (h : dH) : T XC 0 yX10_put cX10_put 4 (some .int) fiI [.ref 77, .int x1, .int x2, .int (bi x3)] h (f_X10_put x1 x2 x3 h) := by
  refine T_of [.ref 77, .int x1, .int x2, .int (bi x3)] (by decide) (fun _ => rfl) (fun _ => Nat.le_of_ble_eq_true rfl) ?_
  show B XC 0 RX10 cX10_put 4 (some .int) fiI 0 [.ref 77, .int x1, .int x2, .int (bi x3)] [] h (f_X10_put x1 x2 x3 h)
  unfold f_X10_put
  refine B_aload_n dX10_put_0 rfl rfl ?_
  refine B_getI dX10_put_1 fl_X10_32 shC_77 rfl ?_
  refine B_bipush dX10_put_4 bp_10 ?_
  refine C_icmp_lt (tgt := 11) dX10_put_6 (by decide) (fun q7 => ?_) (fun q7 => ?_)
  · refine B_aload_n dX10_put_11 rfl rfl ?_
    refine B_getR dX10_put_12 fl_X10_11 shC_77 rfl (rfC_77_5 _) ?_
    refine B_aload_n dX10_put_15 rfl rfl ?_
    refine B_getI dX10_put_16 fl_X10_32 shC_77 rfl ?_
    refine B_iload_n dX10_put_19 rfl rfl ?_
    refine C_chk (fun q1 => ?_)
    refine L_iast dX10_put_20 shC_78 q1 rfl ?_
    refine B_lh (fun h2 => ?_)
    refine B_aload_n dX10_put_21 rfl rfl ?_
    refine B_getR dX10_put_22 fl_X10_15 shC_77 rfl (rfC_77_6 _) ?_
    refine B_aload_n dX10_put_25 rfl rfl ?_
    refine B_getI dX10_put_26 fl_X10_32 shC_77 rfl ?_
    refine B_iload_n dX10_put_29 rfl rfl ?_
    refine C_chk (fun q3 => ?_)
    refine L_iast dX10_put_30 shC_79 q3 rfl ?_
    refine B_lh (fun h4 => ?_)
    refine B_aload_n dX10_put_31 rfl rfl ?_
    refine B_getR dX10_put_32 fl_X10_18 shC_77 rfl (rfC_77_7 _) ?_
    refine B_aload_n dX10_put_35 rfl rfl ?_
    refine B_getI dX10_put_36 fl_X10_32 shC_77 rfl ?_
    refine B_iload_n dX10_put_39 rfl rfl ?_
    refine C_chk (fun q5 => ?_)
    refine L_zast dX10_put_40 shC_80 q5 rfl ?_
    refine B_lh (fun h6 => ?_)
    refine B_aload_n dX10_put_41 rfl rfl ?_
    refine B_dup dX10_put_42 rfl ?_
    refine B_getI dX10_put_43 fl_X10_32 shC_77 rfl ?_
    refine B_iconst dX10_put_46 ic_1 ?_
    refine B_iadd dX10_put_47 ?_
    refine B_putI dX10_put_48 fl_X10_32 fw_X10_0 shC_77 rfl ?_
    refine B_aload_n dX10_put_51 rfl rfl ?_
    refine B_getI dX10_put_52 fl_X10_32 shC_77 rfl ?_
    exact B_ireturn dX10_put_55 rfl rfl
  · refine B_iconst dX10_put_9 ic_m1 ?_
    exact B_ireturn dX10_put_10 rfl rfl
def f_X10_hasBeen (x1 : Int32) (x2 : Int32) (h : dH) : Option (Bool) :=
  if (f_X1_isPlace 3 x1 h) then
  if dIn x1 7 then
  if x2 < (h.1 81 (dI x1)) then
  some false
  else
  some true
  else none
  else
  some false
set_option maxRecDepth 20000 in
set_option maxHeartbeats 4000000 in
theorem t_X10_hasBeen (x1 : Int32) (x2 : Int32) (h : dH) : T XC 1 yX10_hasBeen cX10_hasBeen 3 (some .boolean) (fiB h) [.ref 77, .int x1, .int x2] h (f_X10_hasBeen x1 x2 h) := by
  refine T_of [.ref 77, .int x1, .int x2] (by decide) (fun _ => rfl) (fun _ => Nat.le_of_ble_eq_true rfl) ?_
  show B XC 1 RX10 cX10_hasBeen 3 (some .boolean) (fiB h) 0 [.ref 77, .int x1, .int x2] [] h (f_X10_hasBeen x1 x2 h)
  unfold f_X10_hasBeen
  refine B_aload_n dX10_hasBeen_0 rfl rfl ?_
  refine B_getR dX10_hasBeen_1 fl_X10_28 shC_77 rfl (rfC_77_4 _) ?_
  refine B_iload_n dX10_hasBeen_4 rfl rfl ?_
  refine B_VTb (st := []) dX10_hasBeen_5 cl_X10_79 (t_X1_isPlace 3 shC_3 x1 h) (Nat.le_of_ble_eq_true rfl) shC_3 rfl rfl (Nat.le_of_ble_eq_true rfl) ?_
  refine C_ifb_eq (tgt := 25) dX10_hasBeen_8 (by decide) (fun q3 => ?_) (fun q3 => ?_)
  · refine B_iconst dX10_hasBeen_25 ic_0 ?_
    exact B_zreturn dX10_hasBeen_26 rfl rfl rfl
  · refine B_aload_n dX10_hasBeen_11 rfl rfl ?_
    refine B_getR dX10_hasBeen_12 fl_X10_22 shC_77 rfl (rfC_77_8 _) ?_
    refine B_iload_n dX10_hasBeen_15 rfl rfl ?_
    refine C_chk (fun q1 => ?_)
    refine L_iald dX10_hasBeen_16 shC_81 q1 rfl ?_
    refine B_iload_n dX10_hasBeen_17 rfl rfl ?_
    refine C_icmp_gt (tgt := 25) dX10_hasBeen_18 (by decide) (fun q2 => ?_) (fun q2 => ?_)
    · refine B_iconst dX10_hasBeen_25 ic_0 ?_
      exact B_zreturn dX10_hasBeen_26 rfl rfl rfl
    · refine B_iconst dX10_hasBeen_21 ic_1 ?_
      refine B_goto (tgt := 26) dX10_hasBeen_22 (by decide) ?_
      exact B_zreturn dX10_hasBeen_26 rfl rfl rfl
def f_X10_tally_J71 (kL38 : Int32 → dH → Option (dH)) (y3 : Int32) (h : dH) : Option (dH) :=
  kL38 (y3 + 1) h
set_option maxRecDepth 20000 in
set_option maxHeartbeats 4000000 in
theorem b_X10_tally_J71 {kL38 : Int32 → dH → Option (dH)} (hkL38 : ∀ (y3 : Int32) (h : dH), B XC 2 RX10 cX10_tally 4 none fiV 38 [.ref 77, .null, .null, .int y3] [] h (kL38 y3 h)) (y3 : Int32) (h : dH) : B XC 2 RX10 cX10_tally 4 none fiV 71 [.ref 77, .null, .null, .int y3] [] h (f_X10_tally_J71 kL38 y3 h) := by
  unfold f_X10_tally_J71
  refine B_iinc (w := (y3 + 1)) (ls' := [.ref 77, .null, .null, .int (y3 + 1)]) dX10_tally_71 rfl (congrArg (fun z => y3 + z) ic_1) (Nat.le_of_ble_eq_true rfl) rfl rfl ?_
  refine B_goto (tgt := 38) dX10_tally_74 (by decide) ?_
  exact hkL38 (y3 + 1)  h
def f_X10_tally_L38 : Nat → Int32 → dH → Option (dH)
  | 0, _, _ => none
  | n + 1, y3, h =>
    if y3 < (h.1 3 2) then
    (f_X10_hasBeen y3 (h.1 77 11) h).bind fun v5 =>
    if v5 then
    if dIn y3 7 then
    if dIn y3 7 then
    (some (dPut h 82 (dI y3) ((h.1 82 (dI y3)) + 1))).bind fun h8 =>
    f_X10_tally_J71 (f_X10_tally_L38 n) y3 h8
    else none
    else none
    else
    f_X10_tally_J71 (f_X10_tally_L38 n) y3 h
    else
    some h
set_option maxRecDepth 20000 in
set_option maxHeartbeats 4000000 in
theorem b_X10_tally_L38 : ∀ (n : Nat) (y3 : Int32) (h : dH), B XC 2 RX10 cX10_tally 4 none fiV 38 [.ref 77, .null, .null, .int y3] [] h (f_X10_tally_L38 n y3 h) := by
  intro n
  induction n with
  | zero =>
    intro y3 h
    exact B_none
  | succ n ih =>
    intro y3 h
    rw [f_X10_tally_L38]
    refine B_iload_n dX10_tally_38 rfl rfl ?_
    refine B_aload_n dX10_tally_39 rfl rfl ?_
    refine B_getR dX10_tally_40 fl_X10_28 shC_77 rfl (rfC_77_4 _) ?_
    refine B_getI dX10_tally_43 fl_X10_48 shC_3 rfl ?_
    refine C_icmp_ge (tgt := 77) dX10_tally_46 (by decide) (fun q10 => ?_) (fun q10 => ?_)
    · exact B_return dX10_tally_77 rfl rfl
    · refine B_aload_n dX10_tally_49 rfl rfl ?_
      refine B_iload_n dX10_tally_50 rfl rfl ?_
      refine B_aload_n dX10_tally_51 rfl rfl ?_
      refine B_getI dX10_tally_52 fl_X10_39 shC_77 rfl ?_
      refine B_Vpb (st := []) dX10_tally_55 cl_X10_76 (t_X10_hasBeen y3 (h.1 77 11) h) (Nat.le_of_ble_eq_true rfl) shC_77 rfl rfl (Nat.le_of_ble_eq_true rfl) (fun v5 _ => ?_)
      refine C_ifb_eq (tgt := 71) dX10_tally_58 (by decide) (fun q9 => ?_) (fun q9 => ?_)
      · exact b_X10_tally_J71 (fun qy3 qh => ih qy3 qh) y3 h
      · refine B_aload_n dX10_tally_61 rfl rfl ?_
        refine B_getR dX10_tally_62 fl_X10_25 shC_77 rfl (rfC_77_9 _) ?_
        refine B_iload_n dX10_tally_65 rfl rfl ?_
        refine B_dup2 dX10_tally_66 rfl rfl ?_
        refine C_chk (fun q6 => ?_)
        refine L_iald dX10_tally_67 shC_82 q6 rfl ?_
        refine B_iconst dX10_tally_68 ic_1 ?_
        refine B_iadd dX10_tally_69 ?_
        refine C_chk (fun q7 => ?_)
        refine L_iast dX10_tally_70 shC_82 q7 rfl ?_
        refine B_lh (fun h8 => ?_)
        exact b_X10_tally_J71 (fun qy3 qh => ih qy3 qh) y3 h8
def f_X10_tally_J16 (y1 : Int32) (h : dH) : Option (dH) :=
  (some (dPut h 77 1 ((h.1 77 1) + 1))).bind fun h3 =>
  (some (dPut h3 77 3 ((h3.1 77 3) &&& y1))).bind fun h4 =>
  f_X10_tally_L38 dFu 0 h4
set_option maxRecDepth 20000 in
set_option maxHeartbeats 4000000 in
theorem b_X10_tally_J16 (y1 : Int32) (h : dH) : B XC 2 RX10 cX10_tally 4 none fiV 16 [.ref 77, .int y1, .null, .null] [] h (f_X10_tally_J16 y1 h) := by
  unfold f_X10_tally_J16
  refine B_aload_n dX10_tally_16 rfl rfl ?_
  refine B_dup dX10_tally_17 rfl ?_
  refine B_getI dX10_tally_18 fl_X10_42 shC_77 rfl ?_
  refine B_iconst dX10_tally_21 ic_1 ?_
  refine B_iadd dX10_tally_22 ?_
  refine B_putI dX10_tally_23 fl_X10_42 fw_X10_1 shC_77 rfl ?_
  refine B_lh (fun h3 => ?_)
  refine B_aload_n dX10_tally_26 rfl rfl ?_
  refine B_dup dX10_tally_27 rfl ?_
  refine B_getI dX10_tally_28 fl_X10_53 shC_77 rfl ?_
  refine B_iload_n dX10_tally_31 rfl rfl ?_
  refine B_iand dX10_tally_32 ?_
  refine B_putI dX10_tally_33 fl_X10_53 fw_X10_3 shC_77 rfl ?_
  refine B_lh (fun h4 => ?_)
  refine B_iconst dX10_tally_36 ic_0 ?_
  refine B_istore_n (ls' := [.ref 77, .int y1, .null, .int 0]) dX10_tally_37 rfl (Nat.le_of_ble_eq_true rfl) rfl rfl ?_
  refine B_drop 1 (ls' := [.ref 77, .null, .null, .int 0]) rfl ?_
  exact b_X10_tally_L38 dFu 0 h4
def f_X10_tally (x1 : Int32) (x2 : Int32) (h : dH) : Option (dH) :=
  if (h.1 77 1) = (h.1 77 10) then
  (some (dPut h 77 2 x2)).bind fun h1 =>
  f_X10_tally_J16 x1 h1
  else
  f_X10_tally_J16 x1 h
set_option maxRecDepth 20000 in
set_option maxHeartbeats 4000000 in
theorem t_X10_tally (x1 : Int32) (x2 : Int32) (h : dH) : T XC 2 yX10_tally cX10_tally 4 none fiV [.ref 77, .int x1, .int x2] h (f_X10_tally x1 x2 h) := by
  refine T_of [.ref 77, .int x1, .int x2, .null] (by decide) (fun _ => rfl) (fun _ => Nat.le_of_ble_eq_true rfl) ?_
  show B XC 2 RX10 cX10_tally 4 none fiV 0 [.ref 77, .int x1, .int x2, .null] [] h (f_X10_tally x1 x2 h)
  unfold f_X10_tally
  refine B_aload_n dX10_tally_0 rfl rfl ?_
  refine B_getI dX10_tally_1 fl_X10_42 shC_77 rfl ?_
  refine B_aload_n dX10_tally_4 rfl rfl ?_
  refine B_getI dX10_tally_5 fl_X10_36 shC_77 rfl ?_
  refine C_icmp_ne (tgt := 16) dX10_tally_8 (by decide) (fun q2 => ?_) (fun q2 => ?_)
  · refine B_drop 2 (ls' := [.ref 77, .int x1, .null, .null]) rfl ?_
    exact b_X10_tally_J16 x1 h
  · refine B_aload_n dX10_tally_11 rfl rfl ?_
    refine B_iload_n dX10_tally_12 rfl rfl ?_
    refine B_putI dX10_tally_13 fl_X10_45 fw_X10_2 shC_77 rfl ?_
    refine B_lh (fun h1 => ?_)
    refine B_drop 2 (ls' := [.ref 77, .int x1, .null, .null]) rfl ?_
    exact b_X10_tally_J16 x1 h1
def f_X10_fits_L2 (h : dH) : Nat → Int32 → Option (Bool)
  | 0, _ => none
  | n + 1, y1 =>
    if y1 < (h.1 77 0) then
    if dIn y1 10 then
    if dIn y1 10 then
    (f_X10_hasBeen (h.1 78 (dI y1)) (h.1 79 (dI y1)) h).bind fun v3 =>
    if dIn y1 10 then
    if (bi v3) = (h.1 80 (dI y1)) then
    (f_X10_fits_L2 h n) (y1 + 1)
    else
    some false
    else none
    else none
    else none
    else
    some true
set_option maxRecDepth 20000 in
set_option maxHeartbeats 4000000 in
theorem b_X10_fits_L2 (h : dH) : ∀ (n : Nat) (y1 : Int32), B XC 2 RX10 cX10_fits 2 (some .boolean) (fiB h) 2 [.ref 77, .int y1] [] h (f_X10_fits_L2 h n y1) := by
  intro n
  induction n with
  | zero =>
    intro y1
    exact B_none
  | succ n ih =>
    intro y1
    rw [f_X10_fits_L2]
    refine B_iload_n dX10_fits_2 rfl rfl ?_
    refine B_aload_n dX10_fits_3 rfl rfl ?_
    refine B_getI dX10_fits_4 fl_X10_32 shC_77 rfl ?_
    refine C_icmp_ge (tgt := 43) dX10_fits_7 (by decide) (fun q6 => ?_) (fun q6 => ?_)
    · refine B_iconst dX10_fits_43 ic_1 ?_
      exact B_zreturn dX10_fits_44 rfl rfl rfl
    · refine B_aload_n dX10_fits_10 rfl rfl ?_
      refine B_aload_n dX10_fits_11 rfl rfl ?_
      refine B_getR dX10_fits_12 fl_X10_11 shC_77 rfl (rfC_77_5 _) ?_
      refine B_iload_n dX10_fits_15 rfl rfl ?_
      refine C_chk (fun q1 => ?_)
      refine L_iald dX10_fits_16 shC_78 q1 rfl ?_
      refine B_aload_n dX10_fits_17 rfl rfl ?_
      refine B_getR dX10_fits_18 fl_X10_15 shC_77 rfl (rfC_77_6 _) ?_
      refine B_iload_n dX10_fits_21 rfl rfl ?_
      refine C_chk (fun q2 => ?_)
      refine L_iald dX10_fits_22 shC_79 q2 rfl ?_
      refine B_Vpb (st := []) dX10_fits_23 cl_X10_76 (t_X10_hasBeen (h.1 78 (dI y1)) (h.1 79 (dI y1)) h) (Nat.le_of_ble_eq_true rfl) shC_77 rfl rfl (Nat.le_of_ble_eq_true rfl) (fun v3 _ => ?_)
      refine B_aload_n dX10_fits_26 rfl rfl ?_
      refine B_getR dX10_fits_27 fl_X10_18 shC_77 rfl (rfC_77_7 _) ?_
      refine B_iload_n dX10_fits_30 rfl rfl ?_
      refine C_chk (fun q4 => ?_)
      refine L_zald dX10_fits_31 shC_80 q4 rfl ?_
      refine C_icmp_eq (tgt := 37) dX10_fits_32 (by decide) (fun q5 => ?_) (fun q5 => ?_)
      · refine B_iinc (w := (y1 + 1)) (ls' := [.ref 77, .int (y1 + 1)]) dX10_fits_37 rfl (congrArg (fun z => y1 + z) ic_1) (Nat.le_of_ble_eq_true rfl) rfl rfl ?_
        refine B_goto (tgt := 2) dX10_fits_40 (by decide) ?_
        exact ih (y1 + 1)  
      · refine B_iconst dX10_fits_35 ic_0 ?_
        exact B_zreturn dX10_fits_36 rfl rfl rfl
def f_X10_fits (h : dH) : Option (Bool) :=
  f_X10_fits_L2 h dFu 0
set_option maxRecDepth 20000 in
set_option maxHeartbeats 4000000 in
theorem t_X10_fits (h : dH) : T XC 2 yX10_fits cX10_fits 2 (some .boolean) (fiB h) [.ref 77] h (f_X10_fits h) := by
  refine T_of [.ref 77, .null] (by decide) (fun _ => rfl) (fun _ => Nat.le_of_ble_eq_true rfl) ?_
  show B XC 2 RX10 cX10_fits 2 (some .boolean) (fiB h) 0 [.ref 77, .null] [] h (f_X10_fits h)
  unfold f_X10_fits
  refine B_iconst dX10_fits_0 ic_0 ?_
  refine B_istore_n (ls' := [.ref 77, .int 0]) dX10_fits_1 rfl (Nat.le_of_ble_eq_true rfl) rfl rfl ?_
  exact b_X10_fits_L2 h dFu 0
def f_X10_evenest_J52 (kL4 : Int32 → Int32 → Option (Int32)) (y1 : Int32) (y2 : Int32) (h : dH) : Option (Int32) :=
  kL4 y1 (y2 + 1)
set_option maxRecDepth 20000 in
set_option maxHeartbeats 4000000 in
theorem b_X10_evenest_J52 {kL4 : Int32 → Int32 → Option (Int32)} (h : dH) (hkL4 : ∀ (y1 : Int32) (y2 : Int32), B XC 1 RX10 cX10_evenest 3 (some .int) (fiP h) 4 [.ref 77, .int y1, .int y2] [] h (kL4 y1 y2)) (y1 : Int32) (y2 : Int32) : B XC 1 RX10 cX10_evenest 3 (some .int) (fiP h) 52 [.ref 77, .int y1, .int y2] [] h (f_X10_evenest_J52 kL4 y1 y2 h) := by
  unfold f_X10_evenest_J52
  refine B_iinc (w := (y2 + 1)) (ls' := [.ref 77, .int y1, .int (y2 + 1)]) dX10_evenest_52 rfl (congrArg (fun z => y2 + z) ic_1) (Nat.le_of_ble_eq_true rfl) rfl rfl ?_
  refine B_goto (tgt := 4) dX10_evenest_55 (by decide) ?_
  exact hkL4 y1 (y2 + 1)  
def f_X10_evenest_L4 (h : dH) : Nat → Int32 → Int32 → Option (Int32)
  | 0, _, _ => none
  | n + 1, y1, y2 =>
    if y2 < (h.1 3 2) then
    if dIn y2 7 then
    if dIn y1 7 then
    if (jabs ((h.1 77 1) - (2 * (h.1 82 (dI y2))))) < (jabs ((h.1 77 1) - (2 * (h.1 82 (dI y1))))) then
    f_X10_evenest_J52 (f_X10_evenest_L4 h n) y2 y2 h
    else
    f_X10_evenest_J52 (f_X10_evenest_L4 h n) y1 y2 h
    else none
    else none
    else
    some y1
set_option maxRecDepth 20000 in
set_option maxHeartbeats 4000000 in
theorem b_X10_evenest_L4 (h : dH) : ∀ (n : Nat) (y1 : Int32) (y2 : Int32), B XC 1 RX10 cX10_evenest 3 (some .int) (fiP h) 4 [.ref 77, .int y1, .int y2] [] h (f_X10_evenest_L4 h n y1 y2) := by
  intro n
  induction n with
  | zero =>
    intro y1 y2
    exact B_none
  | succ n ih =>
    intro y1 y2
    rw [f_X10_evenest_L4]
    refine B_iload_n dX10_evenest_4 rfl rfl ?_
    refine B_aload_n dX10_evenest_5 rfl rfl ?_
    refine B_getR dX10_evenest_6 fl_X10_28 shC_77 rfl (rfC_77_4 _) ?_
    refine B_getI dX10_evenest_9 fl_X10_48 shC_3 rfl ?_
    refine C_icmp_ge (tgt := 58) dX10_evenest_12 (by decide) (fun q4 => ?_) (fun q4 => ?_)
    · refine B_iload_n dX10_evenest_58 rfl rfl ?_
      exact B_ireturn dX10_evenest_59 rfl rfl
    · refine B_aload_n dX10_evenest_15 rfl rfl ?_
      refine B_getI dX10_evenest_16 fl_X10_42 shC_77 rfl ?_
      refine B_iconst dX10_evenest_19 ic_2 ?_
      refine B_aload_n dX10_evenest_20 rfl rfl ?_
      refine B_getR dX10_evenest_21 fl_X10_25 shC_77 rfl (rfC_77_9 _) ?_
      refine B_iload_n dX10_evenest_24 rfl rfl ?_
      refine C_chk (fun q1 => ?_)
      refine L_iald dX10_evenest_25 shC_82 q1 rfl ?_
      refine B_imul dX10_evenest_26 ?_
      refine B_isub dX10_evenest_27 ?_
      refine B_mabs dX10_evenest_28 mt_X10_83 (Nat.le_of_ble_eq_true rfl) (Nat.le_of_ble_eq_true rfl) ?_
      refine B_aload_n dX10_evenest_31 rfl rfl ?_
      refine B_getI dX10_evenest_32 fl_X10_42 shC_77 rfl ?_
      refine B_iconst dX10_evenest_35 ic_2 ?_
      refine B_aload_n dX10_evenest_36 rfl rfl ?_
      refine B_getR dX10_evenest_37 fl_X10_25 shC_77 rfl (rfC_77_9 _) ?_
      refine B_iload_n dX10_evenest_40 rfl rfl ?_
      refine C_chk (fun q2 => ?_)
      refine L_iald dX10_evenest_41 shC_82 q2 rfl ?_
      refine B_imul dX10_evenest_42 ?_
      refine B_isub dX10_evenest_43 ?_
      refine B_mabs dX10_evenest_44 mt_X10_83 (Nat.le_of_ble_eq_true rfl) (Nat.le_of_ble_eq_true rfl) ?_
      refine C_icmp_ge (tgt := 52) dX10_evenest_47 (by decide) (fun q3 => ?_) (fun q3 => ?_)
      · exact b_X10_evenest_J52 h (fun qy1 qy2 => ih qy1 qy2) y1 y2
      · refine B_iload_n dX10_evenest_50 rfl rfl ?_
        refine B_istore_n (ls' := [.ref 77, .int y2, .int y2]) dX10_evenest_51 rfl (Nat.le_of_ble_eq_true rfl) rfl rfl ?_
        exact b_X10_evenest_J52 h (fun qy1 qy2 => ih qy1 qy2) y2 y2
def f_X10_evenest (h : dH) : Option (Int32) :=
  f_X10_evenest_L4 h dFu 0 1
set_option maxRecDepth 20000 in
set_option maxHeartbeats 4000000 in
theorem t_X10_evenest (h : dH) : T XC 1 yX10_evenest cX10_evenest 3 (some .int) (fiP h) [.ref 77] h (f_X10_evenest h) := by
  refine T_of [.ref 77, .null, .null] (by decide) (fun _ => rfl) (fun _ => Nat.le_of_ble_eq_true rfl) ?_
  show B XC 1 RX10 cX10_evenest 3 (some .int) (fiP h) 0 [.ref 77, .null, .null] [] h (f_X10_evenest h)
  unfold f_X10_evenest
  refine B_iconst dX10_evenest_0 ic_0 ?_
  refine B_istore_n (ls' := [.ref 77, .int 0, .null]) dX10_evenest_1 rfl (Nat.le_of_ble_eq_true rfl) rfl rfl ?_
  refine B_iconst dX10_evenest_2 ic_1 ?_
  refine B_istore_n (ls' := [.ref 77, .int 0, .int 1]) dX10_evenest_3 rfl (Nat.le_of_ble_eq_true rfl) rfl rfl ?_
  exact b_X10_evenest_L4 h dFu 0 1
def f_X11_feed (x1 : Int32) (x2 : Int32) (x3 : Int32) (x4 : Int32) (x5 : Int32) (h : dH) : Option (Int32 × dH) :=
  (f_X9_bytesIn x1 h).bind fun v1 =>
  (f_X9_bytesIn x2 h).bind fun v2 =>
  (f_X9_bytesIn x3 h).bind fun v3 =>
  (f_X9_bytesIn x4 h).bind fun v4 =>
  (f_X9_bytesIn x5 h).bind fun v5 =>
  (some (((((v1 + v2) + v3) + v4) + v5))).bind fun v6 =>
  if 240 < ((h.1 1 1) + v6) then
  some ((-1), h)
  else
  (f_X9_addBytesOf x1 h).bind fun h8 =>
  (f_X9_addBytesOf x2 h8).bind fun h10 =>
  (f_X9_addBytesOf x3 h10).bind fun h12 =>
  (f_X9_addBytesOf x4 h12).bind fun h14 =>
  (f_X9_addBytesOf x5 h14).bind fun h16 =>
  some ((h16.1 1 1), h16)
set_option maxRecDepth 20000 in
set_option maxHeartbeats 4000000 in
theorem t_X11_feed (x1 : Int32) (x2 : Int32) (x3 : Int32) (x4 : Int32) (x5 : Int32) (h : dH) : T XC 1 yX11_feed cX11_feed 7 (some .int) fiI [.ref 0, .int x1, .int x2, .int x3, .int x4, .int x5] h (f_X11_feed x1 x2 x3 x4 x5 h) := by
  refine T_of [.ref 0, .int x1, .int x2, .int x3, .int x4, .int x5, .null] (by decide) (fun _ => rfl) (fun _ => Nat.le_of_ble_eq_true rfl) ?_
  show B XC 1 RX11 cX11_feed 7 (some .int) fiI 0 [.ref 0, .int x1, .int x2, .int x3, .int x4, .int x5, .null] [] h (f_X11_feed x1 x2 x3 x4 x5 h)
  unfold f_X11_feed
  refine B_iload_n dX11_feed_0 rfl rfl ?_
  refine B_Sp (st := []) dX11_feed_1 cl_X11_113 (t_X9_bytesIn x1 h) (Nat.le_of_ble_eq_true rfl) rfl rfl (Nat.le_of_ble_eq_true rfl) (fun v1 _ => ?_)
  refine B_iload_n dX11_feed_4 rfl rfl ?_
  refine B_Sp (st := [.int v1]) dX11_feed_5 cl_X11_113 (t_X9_bytesIn x2 h) (Nat.le_of_ble_eq_true rfl) rfl rfl (Nat.le_of_ble_eq_true rfl) (fun v2 _ => ?_)
  refine B_iadd dX11_feed_8 ?_
  refine B_iload_n dX11_feed_9 rfl rfl ?_
  refine B_Sp (st := [.int (v1 + v2)]) dX11_feed_10 cl_X11_113 (t_X9_bytesIn x3 h) (Nat.le_of_ble_eq_true rfl) rfl rfl (Nat.le_of_ble_eq_true rfl) (fun v3 _ => ?_)
  refine B_iadd dX11_feed_13 ?_
  refine B_iload dX11_feed_14 rfl ?_
  refine B_Sp (st := [.int ((v1 + v2) + v3)]) dX11_feed_16 cl_X11_113 (t_X9_bytesIn x4 h) (Nat.le_of_ble_eq_true rfl) rfl rfl (Nat.le_of_ble_eq_true rfl) (fun v4 _ => ?_)
  refine B_iadd dX11_feed_19 ?_
  refine B_iload dX11_feed_20 rfl ?_
  refine B_Sp (st := [.int (((v1 + v2) + v3) + v4)]) dX11_feed_22 cl_X11_113 (t_X9_bytesIn x5 h) (Nat.le_of_ble_eq_true rfl) rfl rfl (Nat.le_of_ble_eq_true rfl) (fun v5 _ => ?_)
  refine B_iadd dX11_feed_25 ?_
  refine B_lv (fun v6 => ?_)
  refine B_istore (ls' := [.ref 0, .int x1, .int x2, .int x3, .int x4, .int x5, .int v6]) dX11_feed_26 (Nat.le_of_ble_eq_true rfl) rfl rfl ?_
  refine B_aload_n dX11_feed_28 rfl rfl ?_
  refine B_getR dX11_feed_29 fl_X11_10 shC_0 rfl (rfC_0_0 _) ?_
  refine B_getI dX11_feed_32 fl_X11_117 shC_1 rfl ?_
  refine B_iload dX11_feed_35 rfl ?_
  refine B_iadd dX11_feed_37 ?_
  refine B_sipush dX11_feed_38 sp_240 ?_
  refine C_icmp_le (tgt := 46) dX11_feed_41 (by decide) (fun q17 => ?_) (fun q17 => ?_)
  · refine B_aload_n dX11_feed_46 rfl rfl ?_
    refine B_getR dX11_feed_47 fl_X11_10 shC_0 rfl (rfC_0_0 _) ?_
    refine B_iload_n dX11_feed_50 rfl rfl ?_
    refine B_VV (st := []) dX11_feed_51 cl_X11_120 (t_X9_addBytesOf x1 h) (Nat.le_of_ble_eq_true rfl) shC_1 rfl rfl (Nat.le_of_ble_eq_true rfl) (fun h8 _ => ?_)
    refine B_aload_n dX11_feed_54 rfl rfl ?_
    refine B_getR dX11_feed_55 fl_X11_10 shC_0 rfl (rfC_0_0 _) ?_
    refine B_iload_n dX11_feed_58 rfl rfl ?_
    refine B_VV (st := []) dX11_feed_59 cl_X11_120 (t_X9_addBytesOf x2 h8) (Nat.le_of_ble_eq_true rfl) shC_1 rfl rfl (Nat.le_of_ble_eq_true rfl) (fun h10 _ => ?_)
    refine B_aload_n dX11_feed_62 rfl rfl ?_
    refine B_getR dX11_feed_63 fl_X11_10 shC_0 rfl (rfC_0_0 _) ?_
    refine B_iload_n dX11_feed_66 rfl rfl ?_
    refine B_VV (st := []) dX11_feed_67 cl_X11_120 (t_X9_addBytesOf x3 h10) (Nat.le_of_ble_eq_true rfl) shC_1 rfl rfl (Nat.le_of_ble_eq_true rfl) (fun h12 _ => ?_)
    refine B_aload_n dX11_feed_70 rfl rfl ?_
    refine B_getR dX11_feed_71 fl_X11_10 shC_0 rfl (rfC_0_0 _) ?_
    refine B_iload dX11_feed_74 rfl ?_
    refine B_VV (st := []) dX11_feed_76 cl_X11_120 (t_X9_addBytesOf x4 h12) (Nat.le_of_ble_eq_true rfl) shC_1 rfl rfl (Nat.le_of_ble_eq_true rfl) (fun h14 _ => ?_)
    refine B_aload_n dX11_feed_79 rfl rfl ?_
    refine B_getR dX11_feed_80 fl_X11_10 shC_0 rfl (rfC_0_0 _) ?_
    refine B_iload dX11_feed_83 rfl ?_
    refine B_VV (st := []) dX11_feed_85 cl_X11_120 (t_X9_addBytesOf x5 h14) (Nat.le_of_ble_eq_true rfl) shC_1 rfl rfl (Nat.le_of_ble_eq_true rfl) (fun h16 _ => ?_)
    refine B_aload_n dX11_feed_88 rfl rfl ?_
    refine B_getR dX11_feed_89 fl_X11_10 shC_0 rfl (rfC_0_0 _) ?_
    refine B_getI dX11_feed_92 fl_X11_117 shC_1 rfl ?_
    exact B_ireturn dX11_feed_95 rfl rfl
  · refine B_iconst dX11_feed_44 ic_m1 ?_
    exact B_ireturn dX11_feed_45 rfl rfl
def f_X11_end (x1 : Int32) (h : dH) : Option (Bool × dH) :=
  if x1 < 0 then
  some (false, h)
  else
  if (h.1 1 1) < x1 then
  some (false, h)
  else
  some (true, (dPut h 1 1 x1))
set_option maxRecDepth 20000 in
set_option maxHeartbeats 4000000 in
theorem t_X11_end (x1 : Int32) (h : dH) : T XC 0 yX11_end cX11_end 2 (some .boolean) fiC [.ref 0, .int x1] h (f_X11_end x1 h) := by
  refine T_of [.ref 0, .int x1] (by decide) (fun _ => rfl) (fun _ => Nat.le_of_ble_eq_true rfl) ?_
  show B XC 0 RX11 cX11_end 2 (some .boolean) fiC 0 [.ref 0, .int x1] [] h (f_X11_end x1 h)
  unfold f_X11_end
  refine B_iload_n dX11_end_0 rfl rfl ?_
  refine C_if_lt (tgt := 15) dX11_end_1 (by decide) (fun q2 => ?_) (fun q2 => ?_)
  · refine B_iconst dX11_end_15 ic_0 ?_
    exact B_zreturn dX11_end_16 rfl rfl rfl
  · refine B_iload_n dX11_end_4 rfl rfl ?_
    refine B_aload_n dX11_end_5 rfl rfl ?_
    refine B_getR dX11_end_6 fl_X11_10 shC_0 rfl (rfC_0_0 _) ?_
    refine B_getI dX11_end_9 fl_X11_117 shC_1 rfl ?_
    refine C_icmp_le (tgt := 17) dX11_end_12 (by decide) (fun q1 => ?_) (fun q1 => ?_)
    · refine B_aload_n dX11_end_17 rfl rfl ?_
      refine B_getR dX11_end_18 fl_X11_10 shC_0 rfl (rfC_0_0 _) ?_
      refine B_iload_n dX11_end_21 rfl rfl ?_
      refine B_putI dX11_end_22 fl_X11_117 fw_X9_1 shC_1 rfl ?_
      refine B_iconst dX11_end_25 ic_1 ?_
      exact B_zreturn dX11_end_26 rfl rfl rfl
    · refine B_iconst dX11_end_15 ic_0 ?_
      exact B_zreturn dX11_end_16 rfl rfl rfl
def f_X11_settle (h : dH) : Option (Int32 × dH) :=
  (f_X1_copyFrom h).bind fun h2 =>
  (f_X8_beginCity h2).bind fun h4 =>
  (f_X0_forget h4).bind fun h6 =>
  (f_X10_forget h6).bind fun h8 =>
  some (((dPut h8 0 15 0).1 3 2), (dPut h8 0 15 0))
set_option maxRecDepth 20000 in
set_option maxHeartbeats 4000000 in
theorem t_X11_settle (h : dH) : T XC 4 yX11_settle cX11_settle 1 (some .int) fiI [.ref 0] h (f_X11_settle h) := by
  refine T_of [.ref 0] (by decide) (fun _ => rfl) (fun _ => Nat.le_of_ble_eq_true rfl) ?_
  show B XC 4 RX11 cX11_settle 1 (some .int) fiI 0 [.ref 0] [] h (f_X11_settle h)
  unfold f_X11_settle
  refine B_aload_n dX11_settle_0 rfl rfl ?_
  refine B_getR dX11_settle_1 fl_X11_19 shC_0 rfl (rfC_0_1 _) ?_
  refine B_aload_n dX11_settle_4 rfl rfl ?_
  refine B_getR dX11_settle_5 fl_X11_23 shC_0 rfl (rfC_0_2 _) ?_
  refine B_VV (st := []) dX11_settle_8 cl_X11_140 (t_X1_copyFrom h) (Nat.le_of_ble_eq_true rfl) shC_3 rfl rfl (Nat.le_of_ble_eq_true rfl) (fun h2 _ => ?_)
  refine B_aload_n dX11_settle_11 rfl rfl ?_
  refine B_getR dX11_settle_12 fl_X11_56 shC_0 rfl (rfC_0_6 _) ?_
  refine B_VV (st := []) dX11_settle_15 cl_X11_143 (t_X8_beginCity h2) (Nat.le_of_ble_eq_true rfl) shC_66 rfl rfl (Nat.le_of_ble_eq_true rfl) (fun h4 _ => ?_)
  refine B_aload_n dX11_settle_18 rfl rfl ?_
  refine B_getR dX11_settle_19 fl_X11_66 shC_0 rfl (rfC_0_8 _) ?_
  refine B_VV (st := []) dX11_settle_22 cl_X11_146 (t_X0_forget h4) (Nat.le_of_ble_eq_true rfl) shC_70 rfl rfl (Nat.le_of_ble_eq_true rfl) (fun h6 _ => ?_)
  refine B_aload_n dX11_settle_25 rfl rfl ?_
  refine B_getR dX11_settle_26 fl_X11_89 shC_0 rfl (rfC_0_12 _) ?_
  refine B_VV (st := []) dX11_settle_29 cl_X11_149 (t_X10_forget h6) (Nat.le_of_ble_eq_true rfl) shC_77 rfl rfl (Nat.le_of_ble_eq_true rfl) (fun h8 _ => ?_)
  refine B_aload_n dX11_settle_32 rfl rfl ?_
  refine B_iconst dX11_settle_33 ic_0 ?_
  refine B_putZ dX11_settle_34 fl_X11_150 fw_X11_15 shC_0 rfl (Or.inl rfl) ?_
  refine B_aload_n dX11_settle_37 rfl rfl ?_
  refine B_getR dX11_settle_38 fl_X11_19 shC_0 rfl (rfC_0_1 _) ?_
  refine B_getI dX11_settle_41 fl_X11_154 shC_3 rfl ?_
  exact B_ireturn dX11_settle_44 rfl rfl
def f_X11_rule (x1 : Int32) (h : dH) : Option (Int32) :=
  if (f_X1_isThere h) then
  if x1 < 0 then
  some (-1)
  else
  if 2 < x1 then
  some (-1)
  else
  if dIn x1 3 then
  some (h.1 4 (dI x1))
  else none
  else
  some (-1)
set_option maxRecDepth 20000 in
set_option maxHeartbeats 4000000 in
theorem t_X11_rule (x1 : Int32) (h : dH) : T XC 1 yX11_rule cX11_rule 2 (some .int) (fiP h) [.ref 0, .int x1] h (f_X11_rule x1 h) := by
  refine T_of [.ref 0, .int x1] (by decide) (fun _ => rfl) (fun _ => Nat.le_of_ble_eq_true rfl) ?_
  show B XC 1 RX11 cX11_rule 2 (some .int) (fiP h) 0 [.ref 0, .int x1] [] h (f_X11_rule x1 h)
  unfold f_X11_rule
  refine B_aload_n dX11_rule_0 rfl rfl ?_
  refine B_getR dX11_rule_1 fl_X11_19 shC_0 rfl (rfC_0_1 _) ?_
  refine B_VTb (st := []) dX11_rule_4 cl_X11_157 (t_X1_isThere h) (Nat.le_of_ble_eq_true rfl) shC_3 rfl rfl (Nat.le_of_ble_eq_true rfl) ?_
  refine C_ifb_eq (tgt := 31) dX11_rule_7 (by decide) (fun q4 => ?_) (fun q4 => ?_)
  · refine B_iconst dX11_rule_31 ic_m1 ?_
    exact B_ireturn dX11_rule_32 rfl rfl
  · refine B_iload_n dX11_rule_10 rfl rfl ?_
    refine C_if_lt (tgt := 31) dX11_rule_11 (by decide) (fun q3 => ?_) (fun q3 => ?_)
    · refine B_iconst dX11_rule_31 ic_m1 ?_
      exact B_ireturn dX11_rule_32 rfl rfl
    · refine B_iload_n dX11_rule_14 rfl rfl ?_
      refine B_iconst dX11_rule_15 ic_2 ?_
      refine C_icmp_gt (tgt := 31) dX11_rule_16 (by decide) (fun q2 => ?_) (fun q2 => ?_)
      · refine B_iconst dX11_rule_31 ic_m1 ?_
        exact B_ireturn dX11_rule_32 rfl rfl
      · refine B_aload_n dX11_rule_19 rfl rfl ?_
        refine B_getR dX11_rule_20 fl_X11_19 shC_0 rfl (rfC_0_1 _) ?_
        refine B_getR dX11_rule_23 fl_X11_161 shC_3 rfl (rfC_3_0 _) ?_
        refine B_iload_n dX11_rule_26 rfl rfl ?_
        refine C_chk (fun q1 => ?_)
        refine L_iald dX11_rule_27 shC_4 q1 rfl ?_
        refine B_goto (tgt := 32) dX11_rule_28 (by decide) ?_
        exact B_ireturn dX11_rule_32 rfl rfl
def f_X11_law_J22 (y1 : Int32) (h : dH) : Option (Bool × dH) :=
  some (true, (dPut h 42 2 y1))
set_option maxRecDepth 20000 in
set_option maxHeartbeats 4000000 in
theorem b_X11_law_J22 (y1 : Int32) (h : dH) : B XC 0 RX11 cX11_law 2 (some .boolean) fiC 22 [.ref 0, .int y1] [] h (f_X11_law_J22 y1 h) := by
  unfold f_X11_law_J22
  refine B_aload_n dX11_law_22 rfl rfl ?_
  refine B_getR dX11_law_23 fl_X11_40 shC_0 rfl (rfC_0_4 _) ?_
  refine B_iload_n dX11_law_26 rfl rfl ?_
  refine B_putI dX11_law_27 fl_X11_187 fw_X5_2 shC_42 rfl ?_
  refine B_iconst dX11_law_30 ic_1 ?_
  exact B_zreturn dX11_law_31 rfl rfl rfl
def f_X11_law (x1 : Int32) (h : dH) : Option (Bool × dH) :=
  if x1 = (-1) then
  f_X11_law_J22 x1 h
  else
  if x1 < 0 then
  some (false, h)
  else
  if x1 < (h.1 42 1) then
  f_X11_law_J22 x1 h
  else
  some (false, h)
set_option maxRecDepth 20000 in
set_option maxHeartbeats 4000000 in
theorem t_X11_law (x1 : Int32) (h : dH) : T XC 0 yX11_law cX11_law 2 (some .boolean) fiC [.ref 0, .int x1] h (f_X11_law x1 h) := by
  refine T_of [.ref 0, .int x1] (by decide) (fun _ => rfl) (fun _ => Nat.le_of_ble_eq_true rfl) ?_
  show B XC 0 RX11 cX11_law 2 (some .boolean) fiC 0 [.ref 0, .int x1] [] h (f_X11_law x1 h)
  unfold f_X11_law
  refine B_iload_n dX11_law_0 rfl rfl ?_
  refine B_iconst dX11_law_1 ic_m1 ?_
  refine C_icmp_eq (tgt := 22) dX11_law_2 (by decide) (fun q3 => ?_) (fun q3 => ?_)
  · exact b_X11_law_J22 x1 h
  · refine B_iload_n dX11_law_5 rfl rfl ?_
    refine C_if_lt (tgt := 20) dX11_law_6 (by decide) (fun q2 => ?_) (fun q2 => ?_)
    · refine B_iconst dX11_law_20 ic_0 ?_
      exact B_zreturn dX11_law_21 rfl rfl rfl
    · refine B_iload_n dX11_law_9 rfl rfl ?_
      refine B_aload_n dX11_law_10 rfl rfl ?_
      refine B_getR dX11_law_11 fl_X11_40 shC_0 rfl (rfC_0_4 _) ?_
      refine B_getI dX11_law_14 fl_X11_184 shC_42 rfl ?_
      refine C_icmp_lt (tgt := 22) dX11_law_17 (by decide) (fun q1 => ?_) (fun q1 => ?_)
      · exact b_X11_law_J22 x1 h
      · refine B_iconst dX11_law_20 ic_0 ?_
        exact B_zreturn dX11_law_21 rfl rfl rfl
def f_X11_gout (x1 : Int32) (h : dH) : Option (Bool × dH) :=
  if x1 < 0 then
  some (false, h)
  else
  if 9 < x1 then
  some (false, h)
  else
  if x1 = (h.1 0 16) then
  some (false, h)
  else
  some (true, (dPut h 0 16 x1))
set_option maxRecDepth 20000 in
set_option maxHeartbeats 4000000 in
theorem t_X11_gout (x1 : Int32) (h : dH) : T XC 0 yX11_gout cX11_gout 2 (some .boolean) fiC [.ref 0, .int x1] h (f_X11_gout x1 h) := by
  refine T_of [.ref 0, .int x1] (by decide) (fun _ => rfl) (fun _ => Nat.le_of_ble_eq_true rfl) ?_
  show B XC 0 RX11 cX11_gout 2 (some .boolean) fiC 0 [.ref 0, .int x1] [] h (f_X11_gout x1 h)
  unfold f_X11_gout
  refine B_iload_n dX11_gout_0 rfl rfl ?_
  refine C_if_lt (tgt := 18) dX11_gout_1 (by decide) (fun q3 => ?_) (fun q3 => ?_)
  · refine B_iconst dX11_gout_18 ic_0 ?_
    exact B_zreturn dX11_gout_19 rfl rfl rfl
  · refine B_iload_n dX11_gout_4 rfl rfl ?_
    refine B_bipush dX11_gout_5 bp_9 ?_
    refine C_icmp_gt (tgt := 18) dX11_gout_7 (by decide) (fun q2 => ?_) (fun q2 => ?_)
    · refine B_iconst dX11_gout_18 ic_0 ?_
      exact B_zreturn dX11_gout_19 rfl rfl rfl
    · refine B_iload_n dX11_gout_10 rfl rfl ?_
      refine B_aload_n dX11_gout_11 rfl rfl ?_
      refine B_getI dX11_gout_12 fl_X11_109 shC_0 rfl ?_
      refine C_icmp_ne (tgt := 20) dX11_gout_15 (by decide) (fun q1 => ?_) (fun q1 => ?_)
      · refine B_aload_n dX11_gout_20 rfl rfl ?_
        refine B_iload_n dX11_gout_21 rfl rfl ?_
        refine B_putI dX11_gout_22 fl_X11_109 fw_X11_16 shC_0 rfl ?_
        refine B_iconst dX11_gout_25 ic_1 ?_
        exact B_zreturn dX11_gout_26 rfl rfl rfl
      · refine B_iconst dX11_gout_18 ic_0 ?_
        exact B_zreturn dX11_gout_19 rfl rfl rfl
def f_X11_steps_J49 (y2 : Int32) (z1 : Int32) (h : dH) : Option (Int32) :=
  (f_X1_apart 3 z1 y2 h).bind fun v5 =>
  some v5
set_option maxRecDepth 20000 in
set_option maxHeartbeats 4000000 in
theorem b_X11_steps_J49 (h : dH) (y2 : Int32) (z1 : Int32) : B XC 1 RX11 cX11_steps 3 (some .int) (fiP h) 49 [.null, .null, .int y2] [.int z1, .ref 3] h (f_X11_steps_J49 y2 z1 h) := by
  unfold f_X11_steps_J49
  refine B_iload_n dX11_steps_49 rfl rfl ?_
  refine B_Vp (st := []) dX11_steps_50 cl_X11_193 (t_X1_apart 3 shC_3 z1 y2 h) (Nat.le_of_ble_eq_true rfl) shC_3 rfl rfl (Nat.le_of_ble_eq_true rfl) (fun v5 _ => ?_)
  exact B_ireturn dX11_steps_53 rfl rfl
def f_X11_steps_J29 (y1 : Int32) (y2 : Int32) (h : dH) : Option (Int32) :=
  if y1 = (-1) then
  f_X11_steps_J49 y2 (f_X8_place h) h
  else
  f_X11_steps_J49 y2 y1 h
set_option maxRecDepth 20000 in
set_option maxHeartbeats 4000000 in
theorem b_X11_steps_J29 (h : dH) (y1 : Int32) (y2 : Int32) : B XC 1 RX11 cX11_steps 3 (some .int) (fiP h) 29 [.ref 0, .int y1, .int y2] [] h (f_X11_steps_J29 y1 y2 h) := by
  unfold f_X11_steps_J29
  refine B_aload_n dX11_steps_29 rfl rfl ?_
  refine B_getR dX11_steps_30 fl_X11_19 shC_0 rfl (rfC_0_1 _) ?_
  refine B_iload_n dX11_steps_33 rfl rfl ?_
  refine B_iconst dX11_steps_34 ic_m1 ?_
  refine C_icmp_ne (tgt := 48) dX11_steps_35 (by decide) (fun q4 => ?_) (fun q4 => ?_)
  · refine B_iload_n dX11_steps_48 rfl rfl ?_
    refine B_drop 0 (ls' := [.null, .int y1, .int y2]) rfl ?_
    refine B_drop 1 (ls' := [.null, .null, .int y2]) rfl ?_
    exact b_X11_steps_J49 h y2 y1
  · refine B_aload_n dX11_steps_38 rfl rfl ?_
    refine B_getR dX11_steps_39 fl_X11_56 shC_0 rfl (rfC_0_6 _) ?_
    refine B_Vt (st := [.ref 3]) dX11_steps_42 cl_X11_190 (t_X8_place h) (Nat.le_of_ble_eq_true rfl) shC_66 rfl rfl (Nat.le_of_ble_eq_true rfl) ?_
    refine B_goto (tgt := 49) dX11_steps_45 (by decide) ?_
    refine B_drop 0 (ls' := [.null, .int y1, .int y2]) rfl ?_
    refine B_drop 1 (ls' := [.null, .null, .int y2]) rfl ?_
    exact b_X11_steps_J49 h y2 (f_X8_place h)
def f_X11_steps (x1 : Int32) (x2 : Int32) (h : dH) : Option (Int32) :=
  if (f_X1_isPlace 3 x2 h) then
  if x1 = (-1) then
  f_X11_steps_J29 x1 x2 h
  else
  if (f_X1_isPlace 3 x1 h) then
  f_X11_steps_J29 x1 x2 h
  else
  some (-1)
  else
  some (-1)
set_option maxRecDepth 20000 in
set_option maxHeartbeats 4000000 in
theorem t_X11_steps (x1 : Int32) (x2 : Int32) (h : dH) : T XC 1 yX11_steps cX11_steps 3 (some .int) (fiP h) [.ref 0, .int x1, .int x2] h (f_X11_steps x1 x2 h) := by
  refine T_of [.ref 0, .int x1, .int x2] (by decide) (fun _ => rfl) (fun _ => Nat.le_of_ble_eq_true rfl) ?_
  show B XC 1 RX11 cX11_steps 3 (some .int) (fiP h) 0 [.ref 0, .int x1, .int x2] [] h (f_X11_steps x1 x2 h)
  unfold f_X11_steps
  refine B_aload_n dX11_steps_0 rfl rfl ?_
  refine B_getR dX11_steps_1 fl_X11_19 shC_0 rfl (rfC_0_1 _) ?_
  refine B_iload_n dX11_steps_4 rfl rfl ?_
  refine B_VTb (st := []) dX11_steps_5 cl_X11_164 (t_X1_isPlace 3 shC_3 x2 h) (Nat.le_of_ble_eq_true rfl) shC_3 rfl rfl (Nat.le_of_ble_eq_true rfl) ?_
  refine C_ifb_eq (tgt := 27) dX11_steps_8 (by decide) (fun q3 => ?_) (fun q3 => ?_)
  · refine B_iconst dX11_steps_27 ic_m1 ?_
    exact B_ireturn dX11_steps_28 rfl rfl
  · refine B_iload_n dX11_steps_11 rfl rfl ?_
    refine B_iconst dX11_steps_12 ic_m1 ?_
    refine C_icmp_eq (tgt := 29) dX11_steps_13 (by decide) (fun q2 => ?_) (fun q2 => ?_)
    · exact b_X11_steps_J29 h x1 x2
    · refine B_aload_n dX11_steps_16 rfl rfl ?_
      refine B_getR dX11_steps_17 fl_X11_19 shC_0 rfl (rfC_0_1 _) ?_
      refine B_iload_n dX11_steps_20 rfl rfl ?_
      refine B_VTb (st := []) dX11_steps_21 cl_X11_164 (t_X1_isPlace 3 shC_3 x1 h) (Nat.le_of_ble_eq_true rfl) shC_3 rfl rfl (Nat.le_of_ble_eq_true rfl) ?_
      refine C_ifb_ne (tgt := 29) dX11_steps_24 (by decide) (fun q1 => ?_) (fun q1 => ?_)
      · exact b_X11_steps_J29 h x1 x2
      · refine B_iconst dX11_steps_27 ic_m1 ?_
        exact B_ireturn dX11_steps_28 rfl rfl
def f_X11_doAsAct_J41 (y1 : Int32) (y2 : Int32) (h : dH) : Option (Int32 × dH) :=
  (f_X8_carryOut 66 y1 y2 h).bind fun rv8 =>
  some (rv8.1, rv8.2)
set_option maxRecDepth 20000 in
set_option maxHeartbeats 4000000 in
theorem b_X11_doAsAct_J41 (y1 : Int32) (y2 : Int32) (h : dH) : B XC 5 RX11 cX11_doAsAct 3 (some .int) fiI 41 [.ref 0, .int y1, .int y2] [] h (f_X11_doAsAct_J41 y1 y2 h) := by
  unfold f_X11_doAsAct_J41
  refine B_aload_n dX11_doAsAct_41 rfl rfl ?_
  refine B_getR dX11_doAsAct_42 fl_X11_56 shC_0 rfl (rfC_0_6 _) ?_
  refine B_iload_n dX11_doAsAct_45 rfl rfl ?_
  refine B_iload_n dX11_doAsAct_46 rfl rfl ?_
  refine B_VI (st := []) dX11_doAsAct_47 cl_X11_214 (t_X8_carryOut 66 shC_66 y1 y2 h) (Nat.le_of_ble_eq_true rfl) shC_66 rfl rfl (Nat.le_of_ble_eq_true rfl) (fun v8 h9 _ => ?_)
  exact B_ireturn dX11_doAsAct_50 rfl rfl
def f_X11_doAsAct (x1 : Int32) (x2 : Int32) (h : dH) : Option (Int32 × dH) :=
  (f_X8_canDo 66 x1 x2 h).bind fun v1 =>
  if v1 then
  (f_X0_keep h).bind fun h3 =>
  if x1 = 3 then
  (f_X4_write h3).bind fun h5 =>
  f_X11_doAsAct_J41 x1 x2 h5
  else
  f_X11_doAsAct_J41 x1 x2 h3
  else
  some ((-1), h)
set_option maxRecDepth 20000 in
set_option maxHeartbeats 4000000 in
theorem t_X11_doAsAct (x1 : Int32) (x2 : Int32) (h : dH) : T XC 5 yX11_doAsAct cX11_doAsAct 3 (some .int) fiI [.ref 0, .int x1, .int x2] h (f_X11_doAsAct x1 x2 h) := by
  refine T_of [.ref 0, .int x1, .int x2] (by decide) (fun _ => rfl) (fun _ => Nat.le_of_ble_eq_true rfl) ?_
  show B XC 5 RX11 cX11_doAsAct 3 (some .int) fiI 0 [.ref 0, .int x1, .int x2] [] h (f_X11_doAsAct x1 x2 h)
  unfold f_X11_doAsAct
  refine B_aload_n dX11_doAsAct_0 rfl rfl ?_
  refine B_getR dX11_doAsAct_1 fl_X11_56 shC_0 rfl (rfC_0_6 _) ?_
  refine B_iload_n dX11_doAsAct_4 rfl rfl ?_
  refine B_iload_n dX11_doAsAct_5 rfl rfl ?_
  refine B_Vpb (st := []) dX11_doAsAct_6 cl_X11_207 (t_X8_canDo 66 shC_66 x1 x2 h) (Nat.le_of_ble_eq_true rfl) shC_66 rfl rfl (Nat.le_of_ble_eq_true rfl) (fun v1 _ => ?_)
  refine C_ifb_ne (tgt := 14) dX11_doAsAct_9 (by decide) (fun q7 => ?_) (fun q7 => ?_)
  · refine B_aload_n dX11_doAsAct_14 rfl rfl ?_
    refine B_getR dX11_doAsAct_15 fl_X11_66 shC_0 rfl (rfC_0_8 _) ?_
    refine B_aload_n dX11_doAsAct_18 rfl rfl ?_
    refine B_getR dX11_doAsAct_19 fl_X11_56 shC_0 rfl (rfC_0_6 _) ?_
    refine B_VV (st := []) dX11_doAsAct_22 cl_X11_199 (t_X0_keep h) (Nat.le_of_ble_eq_true rfl) shC_70 rfl rfl (Nat.le_of_ble_eq_true rfl) (fun h3 _ => ?_)
    refine B_iload_n dX11_doAsAct_25 rfl rfl ?_
    refine B_iconst dX11_doAsAct_26 ic_3 ?_
    refine C_icmp_ne (tgt := 41) dX11_doAsAct_27 (by decide) (fun q6 => ?_) (fun q6 => ?_)
    · exact b_X11_doAsAct_J41 x1 x2 h3
    · refine B_aload_n dX11_doAsAct_30 rfl rfl ?_
      refine B_getR dX11_doAsAct_31 fl_X11_73 shC_0 rfl (rfC_0_9 _) ?_
      refine B_aload_n dX11_doAsAct_34 rfl rfl ?_
      refine B_getR dX11_doAsAct_35 fl_X11_56 shC_0 rfl (rfC_0_6 _) ?_
      refine B_VV (st := []) dX11_doAsAct_38 cl_X11_211 (t_X4_write h3) (Nat.le_of_ble_eq_true rfl) shC_72 rfl rfl (Nat.le_of_ble_eq_true rfl) (fun h5 _ => ?_)
      exact b_X11_doAsAct_J41 x1 x2 h5
  · refine B_iconst dX11_doAsAct_12 ic_m1 ?_
    exact B_ireturn dX11_doAsAct_13 rfl rfl
def f_X11_walk (x1 : Int32) (h : dH) : Option (Int32 × dH) :=
  (f_X11_doAsAct 0 x1 h).bind fun rv1 =>
  some (rv1.1, rv1.2)
set_option maxRecDepth 20000 in
set_option maxHeartbeats 4000000 in
theorem t_X11_walk (x1 : Int32) (h : dH) : T XC 6 yX11_walk cX11_walk 2 (some .int) fiI [.ref 0, .int x1] h (f_X11_walk x1 h) := by
  refine T_of [.ref 0, .int x1] (by decide) (fun _ => rfl) (fun _ => Nat.le_of_ble_eq_true rfl) ?_
  show B XC 6 RX11 cX11_walk 2 (some .int) fiI 0 [.ref 0, .int x1] [] h (f_X11_walk x1 h)
  unfold f_X11_walk
  refine B_aload_n dX11_walk_0 rfl rfl ?_
  refine B_iconst dX11_walk_1 ic_0 ?_
  refine B_iload_n dX11_walk_2 rfl rfl ?_
  refine B_VI (st := []) dX11_walk_3 cl_X11_196 (t_X11_doAsAct 0 x1 h) (Nat.le_of_ble_eq_true rfl) shC_0 rfl rfl (Nat.le_of_ble_eq_true rfl) (fun v1 h2 _ => ?_)
  exact B_ireturn dX11_walk_6 rfl rfl
def f_X11_ledge (h : dH) : Option (Int32 × dH) :=
  (f_X11_doAsAct 1 (-1) h).bind fun rv1 =>
  some (rv1.1, rv1.2)
set_option maxRecDepth 20000 in
set_option maxHeartbeats 4000000 in
theorem t_X11_ledge (h : dH) : T XC 6 yX11_ledge cX11_ledge 1 (some .int) fiI [.ref 0] h (f_X11_ledge h) := by
  refine T_of [.ref 0] (by decide) (fun _ => rfl) (fun _ => Nat.le_of_ble_eq_true rfl) ?_
  show B XC 6 RX11 cX11_ledge 1 (some .int) fiI 0 [.ref 0] [] h (f_X11_ledge h)
  unfold f_X11_ledge
  refine B_aload_n dX11_ledge_0 rfl rfl ?_
  refine B_iconst dX11_ledge_1 ic_1 ?_
  refine B_iconst dX11_ledge_2 ic_m1 ?_
  refine B_VI (st := []) dX11_ledge_3 cl_X11_196 (t_X11_doAsAct 1 (-1) h) (Nat.le_of_ble_eq_true rfl) shC_0 rfl rfl (Nat.le_of_ble_eq_true rfl) (fun v1 h2 _ => ?_)
  exact B_ireturn dX11_ledge_6 rfl rfl
def f_X11_restore (x1 : Int32) (h : dH) : Option (Int32 × dH) :=
  (f_X11_doAsAct 2 x1 h).bind fun rv1 =>
  some (rv1.1, rv1.2)
set_option maxRecDepth 20000 in
set_option maxHeartbeats 4000000 in
theorem t_X11_restore (x1 : Int32) (h : dH) : T XC 6 yX11_restore cX11_restore 2 (some .int) fiI [.ref 0, .int x1] h (f_X11_restore x1 h) := by
  refine T_of [.ref 0, .int x1] (by decide) (fun _ => rfl) (fun _ => Nat.le_of_ble_eq_true rfl) ?_
  show B XC 6 RX11 cX11_restore 2 (some .int) fiI 0 [.ref 0, .int x1] [] h (f_X11_restore x1 h)
  unfold f_X11_restore
  refine B_aload_n dX11_restore_0 rfl rfl ?_
  refine B_iconst dX11_restore_1 ic_2 ?_
  refine B_iload_n dX11_restore_2 rfl rfl ?_
  refine B_VI (st := []) dX11_restore_3 cl_X11_196 (t_X11_doAsAct 2 x1 h) (Nat.le_of_ble_eq_true rfl) shC_0 rfl rfl (Nat.le_of_ble_eq_true rfl) (fun v1 h2 _ => ?_)
  exact B_ireturn dX11_restore_6 rfl rfl
def f_X11_patience (x1 : Int32) (x2 : Int32) (h : dH) : Option (Int32 × dH) :=
  if (f_X1_isPlace 3 x1 h) then
  if x2 < 0 then
  some ((-1), h)
  else
  if 30 < x2 then
  some ((-1), h)
  else
  (f_X8_patienceOf 66 x1 h).bind fun v1 =>
  if x2 = v1 then
  some ((-1), h)
  else
  (f_X8_patienceOf 66 x1 h).bind fun v2 =>
  (f_X0_keep h).bind fun h4 =>
  (f_X8_setPatience x1 x2 h4).bind fun h6 =>
  some (v2, h6)
  else
  some ((-1), h)
set_option maxRecDepth 20000 in
set_option maxHeartbeats 4000000 in
theorem t_X11_patience (x1 : Int32) (x2 : Int32) (h : dH) : T XC 3 yX11_patience cX11_patience 4 (some .int) fiI [.ref 0, .int x1, .int x2] h (f_X11_patience x1 x2 h) := by
  refine T_of [.ref 0, .int x1, .int x2, .null] (by decide) (fun _ => rfl) (fun _ => Nat.le_of_ble_eq_true rfl) ?_
  show B XC 3 RX11 cX11_patience 4 (some .int) fiI 0 [.ref 0, .int x1, .int x2, .null] [] h (f_X11_patience x1 x2 h)
  unfold f_X11_patience
  refine B_aload_n dX11_patience_0 rfl rfl ?_
  refine B_getR dX11_patience_1 fl_X11_19 shC_0 rfl (rfC_0_1 _) ?_
  refine B_iload_n dX11_patience_4 rfl rfl ?_
  refine B_VTb (st := []) dX11_patience_5 cl_X11_164 (t_X1_isPlace 3 shC_3 x1 h) (Nat.le_of_ble_eq_true rfl) shC_3 rfl rfl (Nat.le_of_ble_eq_true rfl) ?_
  refine C_ifb_eq (tgt := 33) dX11_patience_8 (by decide) (fun q10 => ?_) (fun q10 => ?_)
  · refine B_iconst dX11_patience_33 ic_m1 ?_
    exact B_ireturn dX11_patience_34 rfl rfl
  · refine B_iload_n dX11_patience_11 rfl rfl ?_
    refine C_if_lt (tgt := 33) dX11_patience_12 (by decide) (fun q9 => ?_) (fun q9 => ?_)
    · refine B_iconst dX11_patience_33 ic_m1 ?_
      exact B_ireturn dX11_patience_34 rfl rfl
    · refine B_iload_n dX11_patience_15 rfl rfl ?_
      refine B_bipush dX11_patience_16 bp_30 ?_
      refine C_icmp_gt (tgt := 33) dX11_patience_18 (by decide) (fun q8 => ?_) (fun q8 => ?_)
      · refine B_iconst dX11_patience_33 ic_m1 ?_
        exact B_ireturn dX11_patience_34 rfl rfl
      · refine B_iload_n dX11_patience_21 rfl rfl ?_
        refine B_aload_n dX11_patience_22 rfl rfl ?_
        refine B_getR dX11_patience_23 fl_X11_56 shC_0 rfl (rfC_0_6 _) ?_
        refine B_iload_n dX11_patience_26 rfl rfl ?_
        refine B_Vp (st := [.int x2]) dX11_patience_27 cl_X11_171 (t_X8_patienceOf 66 shC_66 x1 h) (Nat.le_of_ble_eq_true rfl) shC_66 rfl rfl (Nat.le_of_ble_eq_true rfl) (fun v1 _ => ?_)
        refine C_icmp_ne (tgt := 35) dX11_patience_30 (by decide) (fun q7 => ?_) (fun q7 => ?_)
        · refine B_aload_n dX11_patience_35 rfl rfl ?_
          refine B_getR dX11_patience_36 fl_X11_56 shC_0 rfl (rfC_0_6 _) ?_
          refine B_iload_n dX11_patience_39 rfl rfl ?_
          refine B_Vp (st := []) dX11_patience_40 cl_X11_171 (t_X8_patienceOf 66 shC_66 x1 h) (Nat.le_of_ble_eq_true rfl) shC_66 rfl rfl (Nat.le_of_ble_eq_true rfl) (fun v2 _ => ?_)
          refine B_istore_n (ls' := [.ref 0, .int x1, .int x2, .int v2]) dX11_patience_43 rfl (Nat.le_of_ble_eq_true rfl) rfl rfl ?_
          refine B_aload_n dX11_patience_44 rfl rfl ?_
          refine B_getR dX11_patience_45 fl_X11_66 shC_0 rfl (rfC_0_8 _) ?_
          refine B_aload_n dX11_patience_48 rfl rfl ?_
          refine B_getR dX11_patience_49 fl_X11_56 shC_0 rfl (rfC_0_6 _) ?_
          refine B_VV (st := []) dX11_patience_52 cl_X11_199 (t_X0_keep h) (Nat.le_of_ble_eq_true rfl) shC_70 rfl rfl (Nat.le_of_ble_eq_true rfl) (fun h4 _ => ?_)
          refine B_aload_n dX11_patience_55 rfl rfl ?_
          refine B_getR dX11_patience_56 fl_X11_56 shC_0 rfl (rfC_0_6 _) ?_
          refine B_iload_n dX11_patience_59 rfl rfl ?_
          refine B_iload_n dX11_patience_60 rfl rfl ?_
          refine B_VV (st := []) dX11_patience_61 cl_X11_203 (t_X8_setPatience x1 x2 h4) (Nat.le_of_ble_eq_true rfl) shC_66 rfl rfl (Nat.le_of_ble_eq_true rfl) (fun h6 _ => ?_)
          refine B_iload_n dX11_patience_64 rfl rfl ?_
          exact B_ireturn dX11_patience_65 rfl rfl
        · refine B_iconst dX11_patience_33 ic_m1 ?_
          exact B_ireturn dX11_patience_34 rfl rfl
def f_X11_day (h : dH) : Option (Int32 × dH) :=
  (f_X11_doAsAct 3 (-1) h).bind fun rv1 =>
  some (rv1.1, rv1.2)
set_option maxRecDepth 20000 in
set_option maxHeartbeats 4000000 in
theorem t_X11_day (h : dH) : T XC 6 yX11_day cX11_day 1 (some .int) fiI [.ref 0] h (f_X11_day h) := by
  refine T_of [.ref 0] (by decide) (fun _ => rfl) (fun _ => Nat.le_of_ble_eq_true rfl) ?_
  show B XC 6 RX11 cX11_day 1 (some .int) fiI 0 [.ref 0] [] h (f_X11_day h)
  unfold f_X11_day
  refine B_aload_n dX11_day_0 rfl rfl ?_
  refine B_iconst dX11_day_1 ic_3 ?_
  refine B_iconst dX11_day_2 ic_m1 ?_
  refine B_VI (st := []) dX11_day_3 cl_X11_196 (t_X11_doAsAct 3 (-1) h) (Nat.le_of_ble_eq_true rfl) shC_0 rfl rfl (Nat.le_of_ble_eq_true rfl) (fun v1 h2 _ => ?_)
  exact B_ireturn dX11_day_6 rfl rfl
def f_X11_draw (x0 : Int64) (x2 : Int32) (h : dH) : Option (Int32) :=
  if 0 < x2 then
  if ¬ (x2 : Int32).toInt64 = 0 then
  some (((((x0).toUInt64 >>> ((33 : Int32).toInt64.toUInt64 &&& Int64.toUInt64 63)).toInt64 - ((x0).toUInt64 >>> ((33 : Int32).toInt64.toUInt64 &&& Int64.toUInt64 63)).toInt64 / (x2 : Int32).toInt64 * (x2 : Int32).toInt64) : Int64).toInt32)
  else none
  else
  some 0
set_option maxRecDepth 20000 in
set_option maxHeartbeats 4000000 in
theorem t_X11_draw (x0 : Int64) (x2 : Int32) (h : dH) : T XC 0 yX11_draw cX11_draw 3 (some .int) (fiP h) [.long x0, .int x2] h (f_X11_draw x0 x2 h) := by
  refine T_of [.long x0, .null, .int x2] (by decide) (fun _ => rfl) (fun _ => Nat.le_of_ble_eq_true rfl) ?_
  show B XC 0 RX11 cX11_draw 3 (some .int) (fiP h) 0 [.long x0, .null, .int x2] [] h (f_X11_draw x0 x2 h)
  unfold f_X11_draw
  refine B_iload_n dX11_draw_0 rfl rfl ?_
  refine C_if_le (tgt := 15) dX11_draw_1 (by decide) (fun q2 => ?_) (fun q2 => ?_)
  · refine B_iconst dX11_draw_15 ic_0 ?_
    exact B_ireturn dX11_draw_16 rfl rfl
  · refine B_lload_n dX11_draw_4 rfl rfl ?_
    refine B_bipush dX11_draw_5 bp_33 ?_
    refine B_lushr dX11_draw_7 ?_
    refine B_iload_n dX11_draw_8 rfl rfl ?_
    refine B_i2l dX11_draw_9 ?_
    refine C_chk (fun q1 => ?_)
    refine B_lrem dX11_draw_10 q1 ?_
    refine B_l2i dX11_draw_11 ?_
    refine B_goto (tgt := 16) dX11_draw_12 (by decide) ?_
    exact B_ireturn dX11_draw_16 rfl rfl
def f_X11_walkOrRead (x1 : Int32) (h : dH) : Option (Int32 × dH) :=
  (f_X8_canDo 66 0 x1 h).bind fun v1 =>
  if v1 then
  (f_X8_carryOut 66 0 x1 h).bind fun rv6 =>
  some (1, rv6.2)
  else
  (f_X8_canDo 66 1 (-1) h).bind fun v2 =>
  if v2 then
  (f_X8_carryOut 66 1 (-1) h).bind fun rv3 =>
  some (0, rv3.2)
  else
  some (0, h)
set_option maxRecDepth 20000 in
set_option maxHeartbeats 4000000 in
theorem t_X11_walkOrRead (x1 : Int32) (h : dH) : T XC 5 yX11_walkOrRead cX11_walkOrRead 2 (some .int) fiI [.ref 0, .int x1] h (f_X11_walkOrRead x1 h) := by
  refine T_of [.ref 0, .int x1] (by decide) (fun _ => rfl) (fun _ => Nat.le_of_ble_eq_true rfl) ?_
  show B XC 5 RX11 cX11_walkOrRead 2 (some .int) fiI 0 [.ref 0, .int x1] [] h (f_X11_walkOrRead x1 h)
  unfold f_X11_walkOrRead
  refine B_aload_n dX11_walkOrRead_0 rfl rfl ?_
  refine B_getR dX11_walkOrRead_1 fl_X11_56 shC_0 rfl (rfC_0_6 _) ?_
  refine B_iconst dX11_walkOrRead_4 ic_0 ?_
  refine B_iload_n dX11_walkOrRead_5 rfl rfl ?_
  refine B_Vpb (st := []) dX11_walkOrRead_6 cl_X11_207 (t_X8_canDo 66 shC_66 0 x1 h) (Nat.le_of_ble_eq_true rfl) shC_66 rfl rfl (Nat.le_of_ble_eq_true rfl) (fun v1 _ => ?_)
  refine C_ifb_eq (tgt := 24) dX11_walkOrRead_9 (by decide) (fun q8 => ?_) (fun q8 => ?_)
  · refine B_aload_n dX11_walkOrRead_24 rfl rfl ?_
    refine B_getR dX11_walkOrRead_25 fl_X11_56 shC_0 rfl (rfC_0_6 _) ?_
    refine B_iconst dX11_walkOrRead_28 ic_1 ?_
    refine B_iconst dX11_walkOrRead_29 ic_m1 ?_
    refine B_Vpb (st := []) dX11_walkOrRead_30 cl_X11_207 (t_X8_canDo 66 shC_66 1 (-1) h) (Nat.le_of_ble_eq_true rfl) shC_66 rfl rfl (Nat.le_of_ble_eq_true rfl) (fun v2 _ => ?_)
    refine C_ifb_eq (tgt := 46) dX11_walkOrRead_33 (by decide) (fun q5 => ?_) (fun q5 => ?_)
    · refine B_iconst dX11_walkOrRead_46 ic_0 ?_
      exact B_ireturn dX11_walkOrRead_47 rfl rfl
    · refine B_aload_n dX11_walkOrRead_36 rfl rfl ?_
      refine B_getR dX11_walkOrRead_37 fl_X11_56 shC_0 rfl (rfC_0_6 _) ?_
      refine B_iconst dX11_walkOrRead_40 ic_1 ?_
      refine B_iconst dX11_walkOrRead_41 ic_m1 ?_
      refine B_VI (st := []) dX11_walkOrRead_42 cl_X11_214 (t_X8_carryOut 66 shC_66 1 (-1) h) (Nat.le_of_ble_eq_true rfl) shC_66 rfl rfl (Nat.le_of_ble_eq_true rfl) (fun v3 h4 _ => ?_)
      refine B_pop dX11_walkOrRead_45 rfl ?_
      refine B_iconst dX11_walkOrRead_46 ic_0 ?_
      exact B_ireturn dX11_walkOrRead_47 rfl rfl
  · refine B_aload_n dX11_walkOrRead_12 rfl rfl ?_
    refine B_getR dX11_walkOrRead_13 fl_X11_56 shC_0 rfl (rfC_0_6 _) ?_
    refine B_iconst dX11_walkOrRead_16 ic_0 ?_
    refine B_iload_n dX11_walkOrRead_17 rfl rfl ?_
    refine B_VI (st := []) dX11_walkOrRead_18 cl_X11_214 (t_X8_carryOut 66 shC_66 0 x1 h) (Nat.le_of_ble_eq_true rfl) shC_66 rfl rfl (Nat.le_of_ble_eq_true rfl) (fun v6 h7 _ => ?_)
    refine B_pop dX11_walkOrRead_21 rfl ?_
    refine B_iconst dX11_walkOrRead_22 ic_1 ?_
    exact B_ireturn dX11_walkOrRead_23 rfl rfl
def f_X11_letDayGoBy (h : dH) : Option (dH) :=
  (f_X8_canDo 66 3 (-1) h).bind fun v1 =>
  if v1 then
  (f_X4_write h).bind fun h3 =>
  (f_X8_carryOut 66 3 (-1) h3).bind fun rv4 =>
  some rv4.2
  else
  some h
set_option maxRecDepth 20000 in
set_option maxHeartbeats 4000000 in
theorem t_X11_letDayGoBy (h : dH) : T XC 5 yX11_letDayGoBy cX11_letDayGoBy 1 none fiV [.ref 0] h (f_X11_letDayGoBy h) := by
  refine T_of [.ref 0] (by decide) (fun _ => rfl) (fun _ => Nat.le_of_ble_eq_true rfl) ?_
  show B XC 5 RX11 cX11_letDayGoBy 1 none fiV 0 [.ref 0] [] h (f_X11_letDayGoBy h)
  unfold f_X11_letDayGoBy
  refine B_aload_n dX11_letDayGoBy_0 rfl rfl ?_
  refine B_getR dX11_letDayGoBy_1 fl_X11_56 shC_0 rfl (rfC_0_6 _) ?_
  refine B_iconst dX11_letDayGoBy_4 ic_3 ?_
  refine B_iconst dX11_letDayGoBy_5 ic_m1 ?_
  refine B_Vpb (st := []) dX11_letDayGoBy_6 cl_X11_207 (t_X8_canDo 66 shC_66 3 (-1) h) (Nat.le_of_ble_eq_true rfl) shC_66 rfl rfl (Nat.le_of_ble_eq_true rfl) (fun v1 _ => ?_)
  refine C_ifb_eq (tgt := 33) dX11_letDayGoBy_9 (by decide) (fun q6 => ?_) (fun q6 => ?_)
  · exact B_return dX11_letDayGoBy_33 rfl rfl
  · refine B_aload_n dX11_letDayGoBy_12 rfl rfl ?_
    refine B_getR dX11_letDayGoBy_13 fl_X11_73 shC_0 rfl (rfC_0_9 _) ?_
    refine B_aload_n dX11_letDayGoBy_16 rfl rfl ?_
    refine B_getR dX11_letDayGoBy_17 fl_X11_56 shC_0 rfl (rfC_0_6 _) ?_
    refine B_VV (st := []) dX11_letDayGoBy_20 cl_X11_211 (t_X4_write h) (Nat.le_of_ble_eq_true rfl) shC_72 rfl rfl (Nat.le_of_ble_eq_true rfl) (fun h3 _ => ?_)
    refine B_aload_n dX11_letDayGoBy_23 rfl rfl ?_
    refine B_getR dX11_letDayGoBy_24 fl_X11_56 shC_0 rfl (rfC_0_6 _) ?_
    refine B_iconst dX11_letDayGoBy_27 ic_3 ?_
    refine B_iconst dX11_letDayGoBy_28 ic_m1 ?_
    refine B_VI (st := []) dX11_letDayGoBy_29 cl_X11_214 (t_X8_carryOut 66 shC_66 3 (-1) h3) (Nat.le_of_ble_eq_true rfl) shC_66 rfl rfl (Nat.le_of_ble_eq_true rfl) (fun v4 h5 _ => ?_)
    refine B_pop dX11_letDayGoBy_32 rfl ?_
    exact B_return dX11_letDayGoBy_33 rfl rfl
def f_X11_drawnBehind (x0 : Int64) (h : dH) : Int64 :=
  ((x0 * 6364136223846793005) + 1442695040888963407)
set_option maxRecDepth 20000 in
set_option maxHeartbeats 4000000 in
theorem t_X11_drawnBehind (x0 : Int64) (h : dH) : T XC 0 yX11_drawnBehind cX11_drawnBehind 2 (some .long) (fiJ h) [.long x0] h (some (f_X11_drawnBehind x0 h)) := by
  refine T_of [.long x0, .null] (by decide) (fun _ => rfl) (fun _ => Nat.le_of_ble_eq_true rfl) ?_
  show B XC 0 RX11 cX11_drawnBehind 2 (some .long) (fiJ h) 0 [.long x0, .null] [] h (some (f_X11_drawnBehind x0 h))
  unfold f_X11_drawnBehind
  refine B_lload_n dX11_drawnBehind_0 rfl rfl ?_
  refine B_ldc2 dX11_drawnBehind_1 kc_X11_231 ?_
  refine B_lmul dX11_drawnBehind_4 ?_
  refine B_ldc2 dX11_drawnBehind_5 kc_X11_233 ?_
  refine B_ladd dX11_drawnBehind_8 ?_
  exact B_lreturn dX11_drawnBehind_9 rfl rfl
def f_X11_years_J105 (kL32 : Int32 → Int64 → Int32 → Int32 → dH → Option (Int32 × dH)) (y1 : Int32) (y4 : Int64) (y6 : Int32) (y7 : Int32) (h : dH) : Option (Int32 × dH) :=
  kL32 y1 y4 y6 (y7 + 1) h
set_option maxRecDepth 20000 in
set_option maxHeartbeats 4000000 in
theorem b_X11_years_J105 {kL32 : Int32 → Int64 → Int32 → Int32 → dH → Option (Int32 × dH)} (hkL32 : ∀ (y1 : Int32) (y4 : Int64) (y6 : Int32) (y7 : Int32) (h : dH), B XC 6 RX11 cX11_years 8 (some .int) fiI 32 [.ref 0, .int y1, .null, .null, .long y4, .null, .int y6, .int y7] [] h (kL32 y1 y4 y6 y7 h)) (y1 : Int32) (y4 : Int64) (y6 : Int32) (y7 : Int32) (h : dH) : B XC 6 RX11 cX11_years 8 (some .int) fiI 105 [.ref 0, .int y1, .null, .null, .long y4, .null, .int y6, .int y7] [] h (f_X11_years_J105 kL32 y1 y4 y6 y7 h) := by
  unfold f_X11_years_J105
  refine B_iinc (w := (y7 + 1)) (ls' := [.ref 0, .int y1, .null, .null, .long y4, .null, .int y6, .int (y7 + 1)]) dX11_years_105 rfl (congrArg (fun z => y7 + z) ic_1) (Nat.le_of_ble_eq_true rfl) rfl rfl ?_
  refine B_goto (tgt := 32) dX11_years_108 (by decide) ?_
  exact hkL32 y1 y4 y6 (y7 + 1)  h
def f_X11_years_L32 : Nat → Int32 → Int64 → Int32 → Int32 → dH → Option (Int32 × dH)
  | 0, _, _, _, _, _ => none
  | n + 1, y1, y4, y6, y7, h =>
    if y7 < y1 then
    (f_X0_keep h).bind fun h5 =>
    (some ((f_X11_drawnBehind y4 h5))).bind fun v6 =>
    (f_X11_draw v6 10 h5).bind fun v7 =>
    if v7 < (h5.1 0 16) then
    (f_X11_letDayGoBy h5).bind fun h14 =>
    f_X11_years_J105 (f_X11_years_L32 n) y1 v6 y6 y7 h14
    else
    (some ((f_X11_drawnBehind v6 h5))).bind fun v8 =>
    (f_X11_draw v8 (h5.1 3 2) h5).bind fun v9 =>
    (f_X11_walkOrRead v9 h5).bind fun rv10 =>
    (some ((y6 + rv10.1))).bind fun v12 =>
    f_X11_years_J105 (f_X11_years_L32 n) y1 v8 v12 y7 rv10.2
    else
    some (y6, h)
set_option maxRecDepth 20000 in
set_option maxHeartbeats 4000000 in
theorem b_X11_years_L32 : ∀ (n : Nat) (y1 : Int32) (y4 : Int64) (y6 : Int32) (y7 : Int32) (h : dH), B XC 6 RX11 cX11_years 8 (some .int) fiI 32 [.ref 0, .int y1, .null, .null, .long y4, .null, .int y6, .int y7] [] h (f_X11_years_L32 n y1 y4 y6 y7 h) := by
  intro n
  induction n with
  | zero =>
    intro y1 y4 y6 y7 h
    exact B_none
  | succ n ih =>
    intro y1 y4 y6 y7 h
    rw [f_X11_years_L32]
    refine B_iload dX11_years_32 rfl ?_
    refine B_iload_n dX11_years_34 rfl rfl ?_
    refine C_icmp_ge (tgt := 111) dX11_years_35 (by decide) (fun q16 => ?_) (fun q16 => ?_)
    · refine B_iload dX11_years_111 rfl ?_
      exact B_ireturn dX11_years_113 rfl rfl
    · refine B_aload_n dX11_years_38 rfl rfl ?_
      refine B_getR dX11_years_39 fl_X11_66 shC_0 rfl (rfC_0_8 _) ?_
      refine B_aload_n dX11_years_42 rfl rfl ?_
      refine B_getR dX11_years_43 fl_X11_56 shC_0 rfl (rfC_0_6 _) ?_
      refine B_VV (st := []) dX11_years_46 cl_X11_199 (t_X0_keep h) (Nat.le_of_ble_eq_true rfl) shC_70 rfl rfl (Nat.le_of_ble_eq_true rfl) (fun h5 _ => ?_)
      refine B_lload dX11_years_49 rfl ?_
      refine B_SJ (st := []) dX11_years_51 cl_X11_217 (t_X11_drawnBehind y4 h5) (Nat.le_of_ble_eq_true rfl) rfl rfl (Nat.le_of_ble_eq_true rfl) ?_
      refine B_lj (fun v6 => ?_)
      refine B_lstore (ls' := [.ref 0, .int y1, .null, .null, .long v6, .null, .int y6, .int y7]) dX11_years_54 (Nat.le_of_ble_eq_true rfl) rfl rfl ?_
      refine B_lload dX11_years_56 rfl ?_
      refine B_bipush dX11_years_58 bp_10 ?_
      refine B_Sp (st := []) dX11_years_60 cl_X11_221 (t_X11_draw v6 10 h5) (Nat.le_of_ble_eq_true rfl) rfl rfl (Nat.le_of_ble_eq_true rfl) (fun v7 _ => ?_)
      refine B_aload_n dX11_years_63 rfl rfl ?_
      refine B_getI dX11_years_64 fl_X11_109 shC_0 rfl ?_
      refine C_icmp_ge (tgt := 77) dX11_years_67 (by decide) (fun q15 => ?_) (fun q15 => ?_)
      · refine B_lload dX11_years_77 rfl ?_
        refine B_SJ (st := []) dX11_years_79 cl_X11_217 (t_X11_drawnBehind v6 h5) (Nat.le_of_ble_eq_true rfl) rfl rfl (Nat.le_of_ble_eq_true rfl) ?_
        refine B_lj (fun v8 => ?_)
        refine B_lstore (ls' := [.ref 0, .int y1, .null, .null, .long v8, .null, .int y6, .int y7]) dX11_years_82 (Nat.le_of_ble_eq_true rfl) rfl rfl ?_
        refine B_iload dX11_years_84 rfl ?_
        refine B_aload_n dX11_years_86 rfl rfl ?_
        refine B_lload dX11_years_87 rfl ?_
        refine B_aload_n dX11_years_89 rfl rfl ?_
        refine B_getR dX11_years_90 fl_X11_19 shC_0 rfl (rfC_0_1 _) ?_
        refine B_getI dX11_years_93 fl_X11_154 shC_3 rfl ?_
        refine B_Sp (st := [.ref 0, .int y6]) dX11_years_96 cl_X11_221 (t_X11_draw v8 (h5.1 3 2) h5) (Nat.le_of_ble_eq_true rfl) rfl rfl (Nat.le_of_ble_eq_true rfl) (fun v9 _ => ?_)
        refine B_VI (st := [.int y6]) dX11_years_99 cl_X11_228 (t_X11_walkOrRead v9 h5) (Nat.le_of_ble_eq_true rfl) shC_0 rfl rfl (Nat.le_of_ble_eq_true rfl) (fun v10 h11 _ => ?_)
        refine B_iadd dX11_years_102 ?_
        refine B_lv (fun v12 => ?_)
        refine B_istore (ls' := [.ref 0, .int y1, .null, .null, .long v8, .null, .int v12, .int y7]) dX11_years_103 (Nat.le_of_ble_eq_true rfl) rfl rfl ?_
        exact b_X11_years_J105 (fun qy1 qy4 qy6 qy7 qh => ih qy1 qy4 qy6 qy7 qh) y1 v8 v12 y7 h11
      · refine B_aload_n dX11_years_70 rfl rfl ?_
        refine B_VV (st := []) dX11_years_71 cl_X11_225 (t_X11_letDayGoBy h5) (Nat.le_of_ble_eq_true rfl) shC_0 rfl rfl (Nat.le_of_ble_eq_true rfl) (fun h14 _ => ?_)
        refine B_goto (tgt := 105) dX11_years_74 (by decide) ?_
        exact b_X11_years_J105 (fun qy1 qy4 qy6 qy7 qh => ih qy1 qy4 qy6 qy7 qh) y1 v6 y6 y7 h14
def f_X11_years (x1 : Int32) (x2 : Int64) (h : dH) : Option (Int32 × dH) :=
  if (f_X1_isThere h) then
  if x1 < 1 then
  some ((-1), h)
  else
  if 60 < x1 then
  some ((-1), h)
  else
  f_X11_years_L32 dFu x1 x2 0 0 h
  else
  some ((-1), h)
set_option maxRecDepth 20000 in
set_option maxHeartbeats 4000000 in
theorem t_X11_years (x1 : Int32) (x2 : Int64) (h : dH) : T XC 6 yX11_years cX11_years 8 (some .int) fiI [.ref 0, .int x1, .long x2] h (f_X11_years x1 x2 h) := by
  refine T_of [.ref 0, .int x1, .long x2, .null, .null, .null, .null, .null] (by decide) (fun _ => rfl) (fun _ => Nat.le_of_ble_eq_true rfl) ?_
  show B XC 6 RX11 cX11_years 8 (some .int) fiI 0 [.ref 0, .int x1, .long x2, .null, .null, .null, .null, .null] [] h (f_X11_years x1 x2 h)
  unfold f_X11_years
  refine B_aload_n dX11_years_0 rfl rfl ?_
  refine B_getR dX11_years_1 fl_X11_19 shC_0 rfl (rfC_0_1 _) ?_
  refine B_VTb (st := []) dX11_years_4 cl_X11_157 (t_X1_isThere h) (Nat.le_of_ble_eq_true rfl) shC_3 rfl rfl (Nat.le_of_ble_eq_true rfl) ?_
  refine C_ifb_eq (tgt := 21) dX11_years_7 (by decide) (fun q3 => ?_) (fun q3 => ?_)
  · refine B_iconst dX11_years_21 ic_m1 ?_
    exact B_ireturn dX11_years_22 rfl rfl
  · refine B_iload_n dX11_years_10 rfl rfl ?_
    refine B_iconst dX11_years_11 ic_1 ?_
    refine C_icmp_lt (tgt := 21) dX11_years_12 (by decide) (fun q2 => ?_) (fun q2 => ?_)
    · refine B_iconst dX11_years_21 ic_m1 ?_
      exact B_ireturn dX11_years_22 rfl rfl
    · refine B_iload_n dX11_years_15 rfl rfl ?_
      refine B_bipush dX11_years_16 bp_60 ?_
      refine C_icmp_le (tgt := 23) dX11_years_18 (by decide) (fun q1 => ?_) (fun q1 => ?_)
      · refine B_lload_n dX11_years_23 rfl rfl ?_
        refine B_lstore (ls' := [.ref 0, .int x1, .long x2, .null, .long x2, .null, .null, .null]) dX11_years_24 (Nat.le_of_ble_eq_true rfl) rfl rfl ?_
        refine B_iconst dX11_years_26 ic_0 ?_
        refine B_istore (ls' := [.ref 0, .int x1, .long x2, .null, .long x2, .null, .int 0, .null]) dX11_years_27 (Nat.le_of_ble_eq_true rfl) rfl rfl ?_
        refine B_iconst dX11_years_29 ic_0 ?_
        refine B_istore (ls' := [.ref 0, .int x1, .long x2, .null, .long x2, .null, .int 0, .int 0]) dX11_years_30 (Nat.le_of_ble_eq_true rfl) rfl rfl ?_
        refine B_drop 2 (ls' := [.ref 0, .int x1, .null, .null, .long x2, .null, .int 0, .int 0]) rfl ?_
        exact b_X11_years_L32 dFu x1 x2 0 0 h
      · refine B_iconst dX11_years_21 ic_m1 ?_
        exact B_ireturn dX11_years_22 rfl rfl
def f_X11_undo (h : dH) : Option (Int32 × dH) :=
  (f_X0_takeBack h).bind fun rv1 =>
  some (rv1.1, rv1.2)
set_option maxRecDepth 20000 in
set_option maxHeartbeats 4000000 in
theorem t_X11_undo (h : dH) : T XC 3 yX11_undo cX11_undo 1 (some .int) fiI [.ref 0] h (f_X11_undo h) := by
  refine T_of [.ref 0] (by decide) (fun _ => rfl) (fun _ => Nat.le_of_ble_eq_true rfl) ?_
  show B XC 3 RX11 cX11_undo 1 (some .int) fiI 0 [.ref 0] [] h (f_X11_undo h)
  unfold f_X11_undo
  refine B_aload_n dX11_undo_0 rfl rfl ?_
  refine B_getR dX11_undo_1 fl_X11_66 shC_0 rfl (rfC_0_8 _) ?_
  refine B_aload_n dX11_undo_4 rfl rfl ?_
  refine B_getR dX11_undo_5 fl_X11_56 shC_0 rfl (rfC_0_6 _) ?_
  refine B_VI (st := []) dX11_undo_8 cl_X11_235 (t_X0_takeBack h) (Nat.le_of_ble_eq_true rfl) shC_70 rfl rfl (Nat.le_of_ble_eq_true rfl) (fun v1 h2 _ => ?_)
  exact B_ireturn dX11_undo_11 rfl rfl
def f_X11_log (x1 : Int32) (x2 : Int32) (h : dH) : Option (Int32) :=
  (f_X4_read (f_X8_daysGone h) x1 x2 h).bind fun v1 =>
  some v1
set_option maxRecDepth 20000 in
set_option maxHeartbeats 4000000 in
theorem t_X11_log (x1 : Int32) (x2 : Int32) (h : dH) : T XC 3 yX11_log cX11_log 3 (some .int) (fiP h) [.ref 0, .int x1, .int x2] h (f_X11_log x1 x2 h) := by
  refine T_of [.ref 0, .int x1, .int x2] (by decide) (fun _ => rfl) (fun _ => Nat.le_of_ble_eq_true rfl) ?_
  show B XC 3 RX11 cX11_log 3 (some .int) (fiP h) 0 [.ref 0, .int x1, .int x2] [] h (f_X11_log x1 x2 h)
  unfold f_X11_log
  refine B_aload_n dX11_log_0 rfl rfl ?_
  refine B_getR dX11_log_1 fl_X11_73 shC_0 rfl (rfC_0_9 _) ?_
  refine B_aload_n dX11_log_4 rfl rfl ?_
  refine B_getR dX11_log_5 fl_X11_56 shC_0 rfl (rfC_0_6 _) ?_
  refine B_Vt (st := [.ref 72]) dX11_log_8 cl_X11_239 (t_X8_daysGone h) (Nat.le_of_ble_eq_true rfl) shC_66 rfl rfl (Nat.le_of_ble_eq_true rfl) ?_
  refine B_iload_n dX11_log_11 rfl rfl ?_
  refine B_iload_n dX11_log_12 rfl rfl ?_
  refine B_Vp (st := []) dX11_log_13 cl_X11_242 (t_X4_read (f_X8_daysGone h) x1 x2 h) (Nat.le_of_ble_eq_true rfl) shC_72 rfl rfl (Nat.le_of_ble_eq_true rfl) (fun v1 _ => ?_)
  exact B_ireturn dX11_log_16 rfl rfl
def f_X11_step (x1 : Int32) (x2 : Int32) (x3 : Int32) (h : dH) : Option (Int32) :=
  if x2 < 0 then
  some (-1000000)
  else
  (f_X3_sizeOf x1 h).bind fun v1 =>
  if x2 < v1 then
  if x3 < 0 then
  some (-1000000)
  else
  if 1 < x3 then
  some (-1000000)
  else
  if x3 = 0 then
  (f_X3_whatOf x1 x2 h).bind fun v3 =>
  some v3
  else
  (f_X3_digitOf x1 x2 h).bind fun v2 =>
  some v2
  else
  some (-1000000)
set_option maxRecDepth 20000 in
set_option maxHeartbeats 4000000 in
theorem t_X11_step (x1 : Int32) (x2 : Int32) (x3 : Int32) (h : dH) : T XC 3 yX11_step cX11_step 4 (some .int) (fiP h) [.ref 0, .int x1, .int x2, .int x3] h (f_X11_step x1 x2 x3 h) := by
  refine T_of [.ref 0, .int x1, .int x2, .int x3] (by decide) (fun _ => rfl) (fun _ => Nat.le_of_ble_eq_true rfl) ?_
  show B XC 3 RX11 cX11_step 4 (some .int) (fiP h) 0 [.ref 0, .int x1, .int x2, .int x3] [] h (f_X11_step x1 x2 x3 h)
  unfold f_X11_step
  refine B_iload_n dX11_step_0 rfl rfl ?_
  refine C_if_lt (tgt := 25) dX11_step_1 (by decide) (fun q8 => ?_) (fun q8 => ?_)
  · refine B_ldc dX11_step_25 kc_X11_249 ?_
    exact B_ireturn dX11_step_27 rfl rfl
  · refine B_iload_n dX11_step_4 rfl rfl ?_
    refine B_aload_n dX11_step_5 rfl rfl ?_
    refine B_getR dX11_step_6 fl_X11_47 shC_0 rfl (rfC_0_5 _) ?_
    refine B_iload_n dX11_step_9 rfl rfl ?_
    refine B_Vp (st := [.int x2]) dX11_step_10 cl_X11_246 (t_X3_sizeOf x1 h) (Nat.le_of_ble_eq_true rfl) shC_52 rfl rfl (Nat.le_of_ble_eq_true rfl) (fun v1 _ => ?_)
    refine C_icmp_ge (tgt := 25) dX11_step_13 (by decide) (fun q7 => ?_) (fun q7 => ?_)
    · refine B_ldc dX11_step_25 kc_X11_249 ?_
      exact B_ireturn dX11_step_27 rfl rfl
    · refine B_iload_n dX11_step_16 rfl rfl ?_
      refine C_if_lt (tgt := 25) dX11_step_17 (by decide) (fun q6 => ?_) (fun q6 => ?_)
      · refine B_ldc dX11_step_25 kc_X11_249 ?_
        exact B_ireturn dX11_step_27 rfl rfl
      · refine B_iload_n dX11_step_20 rfl rfl ?_
        refine B_iconst dX11_step_21 ic_1 ?_
        refine C_icmp_le (tgt := 28) dX11_step_22 (by decide) (fun q5 => ?_) (fun q5 => ?_)
        · refine B_iload_n dX11_step_28 rfl rfl ?_
          refine C_if_ne (tgt := 44) dX11_step_29 (by decide) (fun q4 => ?_) (fun q4 => ?_)
          · refine B_aload_n dX11_step_44 rfl rfl ?_
            refine B_getR dX11_step_45 fl_X11_47 shC_0 rfl (rfC_0_5 _) ?_
            refine B_iload_n dX11_step_48 rfl rfl ?_
            refine B_iload_n dX11_step_49 rfl rfl ?_
            refine B_Vp (st := []) dX11_step_50 cl_X11_253 (t_X3_digitOf x1 x2 h) (Nat.le_of_ble_eq_true rfl) shC_52 rfl rfl (Nat.le_of_ble_eq_true rfl) (fun v2 _ => ?_)
            exact B_ireturn dX11_step_53 rfl rfl
          · refine B_aload_n dX11_step_32 rfl rfl ?_
            refine B_getR dX11_step_33 fl_X11_47 shC_0 rfl (rfC_0_5 _) ?_
            refine B_iload_n dX11_step_36 rfl rfl ?_
            refine B_iload_n dX11_step_37 rfl rfl ?_
            refine B_Vp (st := []) dX11_step_38 cl_X11_250 (t_X3_whatOf x1 x2 h) (Nat.le_of_ble_eq_true rfl) shC_52 rfl rfl (Nat.le_of_ble_eq_true rfl) (fun v3 _ => ?_)
            refine B_goto (tgt := 53) dX11_step_41 (by decide) ?_
            exact B_ireturn dX11_step_53 rfl rfl
        · refine B_ldc dX11_step_25 kc_X11_249 ?_
          exact B_ireturn dX11_step_27 rfl rfl
def f_X11_tryStep (x1 : Int32) (x2 : Int32) (h : dH) : Option (Bool × dH) :=
  (f_X3_whatOf x1 x2 h).bind fun v1 =>
  (f_X3_digitOf x1 x2 h).bind fun v2 =>
  (f_X8_canDo 68 v1 v2 h).bind fun v3 =>
  if v3 then
  (f_X8_carryOut 68 v1 v2 h).bind fun rv4 =>
  some (true, rv4.2)
  else
  some (false, h)
set_option maxRecDepth 20000 in
set_option maxHeartbeats 4000000 in
theorem t_X11_tryStep (x1 : Int32) (x2 : Int32) (h : dH) : T XC 5 yX11_tryStep cX11_tryStep 5 (some .boolean) fiC [.ref 0, .int x1, .int x2] h (f_X11_tryStep x1 x2 h) := by
  refine T_of [.ref 0, .int x1, .int x2, .null, .null] (by decide) (fun _ => rfl) (fun _ => Nat.le_of_ble_eq_true rfl) ?_
  show B XC 5 RX11 cX11_tryStep 5 (some .boolean) fiC 0 [.ref 0, .int x1, .int x2, .null, .null] [] h (f_X11_tryStep x1 x2 h)
  unfold f_X11_tryStep
  refine B_aload_n dX11_tryStep_0 rfl rfl ?_
  refine B_getR dX11_tryStep_1 fl_X11_47 shC_0 rfl (rfC_0_5 _) ?_
  refine B_iload_n dX11_tryStep_4 rfl rfl ?_
  refine B_iload_n dX11_tryStep_5 rfl rfl ?_
  refine B_Vp (st := []) dX11_tryStep_6 cl_X11_250 (t_X3_whatOf x1 x2 h) (Nat.le_of_ble_eq_true rfl) shC_52 rfl rfl (Nat.le_of_ble_eq_true rfl) (fun v1 _ => ?_)
  refine B_istore_n (ls' := [.ref 0, .int x1, .int x2, .int v1, .null]) dX11_tryStep_9 rfl (Nat.le_of_ble_eq_true rfl) rfl rfl ?_
  refine B_aload_n dX11_tryStep_10 rfl rfl ?_
  refine B_getR dX11_tryStep_11 fl_X11_47 shC_0 rfl (rfC_0_5 _) ?_
  refine B_iload_n dX11_tryStep_14 rfl rfl ?_
  refine B_iload_n dX11_tryStep_15 rfl rfl ?_
  refine B_Vp (st := []) dX11_tryStep_16 cl_X11_253 (t_X3_digitOf x1 x2 h) (Nat.le_of_ble_eq_true rfl) shC_52 rfl rfl (Nat.le_of_ble_eq_true rfl) (fun v2 _ => ?_)
  refine B_istore (ls' := [.ref 0, .int x1, .int x2, .int v1, .int v2]) dX11_tryStep_19 (Nat.le_of_ble_eq_true rfl) rfl rfl ?_
  refine B_aload_n dX11_tryStep_21 rfl rfl ?_
  refine B_getR dX11_tryStep_22 fl_X11_60 shC_0 rfl (rfC_0_7 _) ?_
  refine B_iload_n dX11_tryStep_25 rfl rfl ?_
  refine B_iload dX11_tryStep_26 rfl ?_
  refine B_Vpb (st := []) dX11_tryStep_28 cl_X11_207 (t_X8_canDo 68 shC_68 v1 v2 h) (Nat.le_of_ble_eq_true rfl) shC_68 rfl rfl (Nat.le_of_ble_eq_true rfl) (fun v3 _ => ?_)
  refine C_ifb_ne (tgt := 36) dX11_tryStep_31 (by decide) (fun q6 => ?_) (fun q6 => ?_)
  · refine B_aload_n dX11_tryStep_36 rfl rfl ?_
    refine B_getR dX11_tryStep_37 fl_X11_60 shC_0 rfl (rfC_0_7 _) ?_
    refine B_iload_n dX11_tryStep_40 rfl rfl ?_
    refine B_iload dX11_tryStep_41 rfl ?_
    refine B_VI (st := []) dX11_tryStep_43 cl_X11_214 (t_X8_carryOut 68 shC_68 v1 v2 h) (Nat.le_of_ble_eq_true rfl) shC_68 rfl rfl (Nat.le_of_ble_eq_true rfl) (fun v4 h5 _ => ?_)
    refine B_pop dX11_tryStep_46 rfl ?_
    refine B_iconst dX11_tryStep_47 ic_1 ?_
    exact B_zreturn dX11_tryStep_48 rfl rfl rfl
  · refine B_iconst dX11_tryStep_34 ic_0 ?_
    exact B_zreturn dX11_tryStep_35 rfl rfl rfl
def f_X11_run_J82 (y2 : Int32) (y3 : Int32) (y4 : Int32) (h : dH) : Option (Int32 × dH) :=
  if y2 = 1 then
  some (((f_X8_seenInAll 68 h) - (f_X8_seenInAll 66 h)), h)
  else
  if y4 < y3 then
  some (y4, h)
  else
  some ((-1), h)
set_option maxRecDepth 20000 in
set_option maxHeartbeats 4000000 in
theorem b_X11_run_J82 (y2 : Int32) (y3 : Int32) (y4 : Int32) (h : dH) : B XC 6 RX11 cX11_run 5 (some .int) fiI 82 [.ref 0, .null, .int y2, .int y3, .int y4] [] h (f_X11_run_J82 y2 y3 y4 h) := by
  unfold f_X11_run_J82
  refine B_iload_n dX11_run_82 rfl rfl ?_
  refine B_iconst dX11_run_83 ic_1 ?_
  refine C_icmp_ne (tgt := 103) dX11_run_84 (by decide) (fun q13 => ?_) (fun q13 => ?_)
  · refine B_iload dX11_run_103 rfl ?_
    refine B_iload_n dX11_run_105 rfl rfl ?_
    refine C_icmp_ge (tgt := 114) dX11_run_106 (by decide) (fun q12 => ?_) (fun q12 => ?_)
    · refine B_iconst dX11_run_114 ic_m1 ?_
      exact B_ireturn dX11_run_115 rfl rfl
    · refine B_iload dX11_run_109 rfl ?_
      refine B_goto (tgt := 115) dX11_run_111 (by decide) ?_
      exact B_ireturn dX11_run_115 rfl rfl
  · refine B_aload_n dX11_run_87 rfl rfl ?_
    refine B_getR dX11_run_88 fl_X11_60 shC_0 rfl (rfC_0_7 _) ?_
    refine B_Vt (st := []) dX11_run_91 cl_X11_269 (t_X8_seenInAll 68 shC_68 h) (Nat.le_of_ble_eq_true rfl) shC_68 rfl rfl (Nat.le_of_ble_eq_true rfl) ?_
    refine B_aload_n dX11_run_94 rfl rfl ?_
    refine B_getR dX11_run_95 fl_X11_56 shC_0 rfl (rfC_0_6 _) ?_
    refine B_Vt (st := [.int (f_X8_seenInAll 68 h)]) dX11_run_98 cl_X11_269 (t_X8_seenInAll 66 shC_66 h) (Nat.le_of_ble_eq_true rfl) shC_66 rfl rfl (Nat.le_of_ble_eq_true rfl) ?_
    refine B_isub dX11_run_101 ?_
    exact B_ireturn dX11_run_102 rfl rfl
def f_X11_run_L60 : Nat → Int32 → Int32 → Int32 → Int32 → dH → Option (Int32 × dH)
  | 0, _, _, _, _, _ => none
  | n + 1, y1, y2, y3, y4, h =>
    if y4 < y3 then
    (f_X11_tryStep y1 y4 h).bind fun rv8 =>
    if rv8.1 then
    (f_X11_run_L60 n) y1 y2 y3 (y4 + 1) rv8.2
    else
    f_X11_run_J82 y2 y3 y4 rv8.2
    else
    f_X11_run_J82 y2 y3 y4 h
set_option maxRecDepth 20000 in
set_option maxHeartbeats 4000000 in
theorem b_X11_run_L60 : ∀ (n : Nat) (y1 : Int32) (y2 : Int32) (y3 : Int32) (y4 : Int32) (h : dH), B XC 6 RX11 cX11_run 5 (some .int) fiI 60 [.ref 0, .int y1, .int y2, .int y3, .int y4] [] h (f_X11_run_L60 n y1 y2 y3 y4 h) := by
  intro n
  induction n with
  | zero =>
    intro y1 y2 y3 y4 h
    exact B_none
  | succ n ih =>
    intro y1 y2 y3 y4 h
    rw [f_X11_run_L60]
    refine B_iload dX11_run_60 rfl ?_
    refine B_iload_n dX11_run_62 rfl rfl ?_
    refine C_icmp_ge (tgt := 82) dX11_run_63 (by decide) (fun q11 => ?_) (fun q11 => ?_)
    · refine B_drop 1 (ls' := [.ref 0, .null, .int y2, .int y3, .int y4]) rfl ?_
      exact b_X11_run_J82 y2 y3 y4 h
    · refine B_aload_n dX11_run_66 rfl rfl ?_
      refine B_iload_n dX11_run_67 rfl rfl ?_
      refine B_iload dX11_run_68 rfl ?_
      refine B_VC (st := []) dX11_run_70 cl_X11_266 (t_X11_tryStep y1 y4 h) (Nat.le_of_ble_eq_true rfl) shC_0 rfl rfl (Nat.le_of_ble_eq_true rfl) (fun v8 h9 _ => ?_)
      refine C_ifb_eq (tgt := 82) dX11_run_73 (by decide) (fun q10 => ?_) (fun q10 => ?_)
      · refine B_drop 1 (ls' := [.ref 0, .null, .int y2, .int y3, .int y4]) rfl ?_
        exact b_X11_run_J82 y2 y3 y4 h9
      · refine B_iinc (w := (y4 + 1)) (ls' := [.ref 0, .int y1, .int y2, .int y3, .int (y4 + 1)]) dX11_run_76 rfl (congrArg (fun z => y4 + z) ic_1) (Nat.le_of_ble_eq_true rfl) rfl rfl ?_
        refine B_goto (tgt := 60) dX11_run_79 (by decide) ?_
        exact ih y1 y2 y3 (y4 + 1)  h9
def f_X11_run (x1 : Int32) (x2 : Int32) (h : dH) : Option (Int32 × dH) :=
  if (f_X1_isThere h) then
  if (f_X3_isKept x1 h) then
  if x2 < 0 then
  some ((-1000000), h)
  else
  if 1 < x2 then
  some ((-1000000), h)
  else
  (f_X8_loadFrom 68 67 28 0 h).bind fun h2 =>
  (f_X3_sizeOf x1 h2).bind fun v3 =>
  f_X11_run_L60 dFu x1 x2 v3 0 h2
  else
  some ((-1000000), h)
  else
  some ((-1000000), h)
set_option maxRecDepth 20000 in
set_option maxHeartbeats 4000000 in
theorem t_X11_run (x1 : Int32) (x2 : Int32) (h : dH) : T XC 6 yX11_run cX11_run 5 (some .int) fiI [.ref 0, .int x1, .int x2] h (f_X11_run x1 x2 h) := by
  refine T_of [.ref 0, .int x1, .int x2, .null, .null] (by decide) (fun _ => rfl) (fun _ => Nat.le_of_ble_eq_true rfl) ?_
  show B XC 6 RX11 cX11_run 5 (some .int) fiI 0 [.ref 0, .int x1, .int x2, .null, .null] [] h (f_X11_run x1 x2 h)
  unfold f_X11_run
  refine B_aload_n dX11_run_0 rfl rfl ?_
  refine B_getR dX11_run_1 fl_X11_19 shC_0 rfl (rfC_0_1 _) ?_
  refine B_VTb (st := []) dX11_run_4 cl_X11_157 (t_X1_isThere h) (Nat.le_of_ble_eq_true rfl) shC_3 rfl rfl (Nat.le_of_ble_eq_true rfl) ?_
  refine C_ifb_eq (tgt := 30) dX11_run_7 (by decide) (fun q7 => ?_) (fun q7 => ?_)
  · refine B_ldc dX11_run_30 kc_X11_249 ?_
    exact B_ireturn dX11_run_32 rfl rfl
  · refine B_aload_n dX11_run_10 rfl rfl ?_
    refine B_getR dX11_run_11 fl_X11_47 shC_0 rfl (rfC_0_5 _) ?_
    refine B_iload_n dX11_run_14 rfl rfl ?_
    refine B_VTb (st := []) dX11_run_15 cl_X11_256 (t_X3_isKept x1 h) (Nat.le_of_ble_eq_true rfl) shC_52 rfl rfl (Nat.le_of_ble_eq_true rfl) ?_
    refine C_ifb_eq (tgt := 30) dX11_run_18 (by decide) (fun q6 => ?_) (fun q6 => ?_)
    · refine B_ldc dX11_run_30 kc_X11_249 ?_
      exact B_ireturn dX11_run_32 rfl rfl
    · refine B_iload_n dX11_run_21 rfl rfl ?_
      refine C_if_lt (tgt := 30) dX11_run_22 (by decide) (fun q5 => ?_) (fun q5 => ?_)
      · refine B_ldc dX11_run_30 kc_X11_249 ?_
        exact B_ireturn dX11_run_32 rfl rfl
      · refine B_iload_n dX11_run_25 rfl rfl ?_
        refine B_iconst dX11_run_26 ic_1 ?_
        refine C_icmp_le (tgt := 33) dX11_run_27 (by decide) (fun q4 => ?_) (fun q4 => ?_)
        · refine B_aload_n dX11_run_33 rfl rfl ?_
          refine B_getR dX11_run_34 fl_X11_60 shC_0 rfl (rfC_0_7 _) ?_
          refine B_aload_n dX11_run_37 rfl rfl ?_
          refine B_getR dX11_run_38 fl_X11_56 shC_0 rfl (rfC_0_6 _) ?_
          refine B_getR dX11_run_41 fl_X11_259 shC_66 rfl (rfC_66_2 _) ?_
          refine B_iconst dX11_run_44 ic_0 ?_
          refine B_VV (st := []) dX11_run_45 cl_X11_262 (t_X8_loadFrom 68 shC_68 67 28 shC_67 0 h) (Nat.le_of_ble_eq_true rfl) shC_68 rfl rfl (Nat.le_of_ble_eq_true rfl) (fun h2 _ => ?_)
          refine B_aload_n dX11_run_48 rfl rfl ?_
          refine B_getR dX11_run_49 fl_X11_47 shC_0 rfl (rfC_0_5 _) ?_
          refine B_iload_n dX11_run_52 rfl rfl ?_
          refine B_Vp (st := []) dX11_run_53 cl_X11_246 (t_X3_sizeOf x1 h2) (Nat.le_of_ble_eq_true rfl) shC_52 rfl rfl (Nat.le_of_ble_eq_true rfl) (fun v3 _ => ?_)
          refine B_istore_n (ls' := [.ref 0, .int x1, .int x2, .int v3, .null]) dX11_run_56 rfl (Nat.le_of_ble_eq_true rfl) rfl rfl ?_
          refine B_iconst dX11_run_57 ic_0 ?_
          refine B_istore (ls' := [.ref 0, .int x1, .int x2, .int v3, .int 0]) dX11_run_58 (Nat.le_of_ble_eq_true rfl) rfl rfl ?_
          exact b_X11_run_L60 dFu x1 x2 v3 0 h2
        · refine B_ldc dX11_run_30 kc_X11_249 ?_
          exact B_ireturn dX11_run_32 rfl rfl
def f_X11_perform_L34 : Nat → Int32 → Int32 → Int32 → dH → Option (Int32 × dH)
  | 0, _, _, _, _ => none
  | n + 1, y1, y2, y3, h =>
    if y3 < y2 then
    (f_X3_whatOf y1 y3 h).bind fun v4 =>
    (f_X3_digitOf y1 y3 h).bind fun v5 =>
    (f_X11_doAsAct v4 v5 h).bind fun rv6 =>
    if rv6.1 = (-1) then
    some (y3, rv6.2)
    else
    (f_X11_perform_L34 n) y1 y2 (y3 + 1) rv6.2
    else
    some (y3, h)
set_option maxRecDepth 20000 in
set_option maxHeartbeats 4000000 in
theorem b_X11_perform_L34 : ∀ (n : Nat) (y1 : Int32) (y2 : Int32) (y3 : Int32) (h : dH), B XC 6 RX11 cX11_perform 4 (some .int) fiI 34 [.ref 0, .int y1, .int y2, .int y3] [] h (f_X11_perform_L34 n y1 y2 y3 h) := by
  intro n
  induction n with
  | zero =>
    intro y1 y2 y3 h
    exact B_none
  | succ n ih =>
    intro y1 y2 y3 h
    rw [f_X11_perform_L34]
    refine B_iload_n dX11_perform_34 rfl rfl ?_
    refine B_iload_n dX11_perform_35 rfl rfl ?_
    refine C_icmp_ge (tgt := 71) dX11_perform_36 (by decide) (fun q9 => ?_) (fun q9 => ?_)
    · refine B_iload_n dX11_perform_71 rfl rfl ?_
      exact B_ireturn dX11_perform_72 rfl rfl
    · refine B_aload_n dX11_perform_39 rfl rfl ?_
      refine B_aload_n dX11_perform_40 rfl rfl ?_
      refine B_getR dX11_perform_41 fl_X11_47 shC_0 rfl (rfC_0_5 _) ?_
      refine B_iload_n dX11_perform_44 rfl rfl ?_
      refine B_iload_n dX11_perform_45 rfl rfl ?_
      refine B_Vp (st := [.ref 0]) dX11_perform_46 cl_X11_250 (t_X3_whatOf y1 y3 h) (Nat.le_of_ble_eq_true rfl) shC_52 rfl rfl (Nat.le_of_ble_eq_true rfl) (fun v4 _ => ?_)
      refine B_aload_n dX11_perform_49 rfl rfl ?_
      refine B_getR dX11_perform_50 fl_X11_47 shC_0 rfl (rfC_0_5 _) ?_
      refine B_iload_n dX11_perform_53 rfl rfl ?_
      refine B_iload_n dX11_perform_54 rfl rfl ?_
      refine B_Vp (st := [.int v4, .ref 0]) dX11_perform_55 cl_X11_253 (t_X3_digitOf y1 y3 h) (Nat.le_of_ble_eq_true rfl) shC_52 rfl rfl (Nat.le_of_ble_eq_true rfl) (fun v5 _ => ?_)
      refine B_VI (st := []) dX11_perform_58 cl_X11_196 (t_X11_doAsAct v4 v5 h) (Nat.le_of_ble_eq_true rfl) shC_0 rfl rfl (Nat.le_of_ble_eq_true rfl) (fun v6 h7 _ => ?_)
      refine B_iconst dX11_perform_61 ic_m1 ?_
      refine C_icmp_eq (tgt := 71) dX11_perform_62 (by decide) (fun q8 => ?_) (fun q8 => ?_)
      · refine B_iload_n dX11_perform_71 rfl rfl ?_
        exact B_ireturn dX11_perform_72 rfl rfl
      · refine B_iinc (w := (y3 + 1)) (ls' := [.ref 0, .int y1, .int y2, .int (y3 + 1)]) dX11_perform_65 rfl (congrArg (fun z => y3 + z) ic_1) (Nat.le_of_ble_eq_true rfl) rfl rfl ?_
        refine B_goto (tgt := 34) dX11_perform_68 (by decide) ?_
        exact ih y1 y2 (y3 + 1)  h7
def f_X11_perform (x1 : Int32) (h : dH) : Option (Int32 × dH) :=
  if (f_X1_isThere h) then
  if (f_X3_isKept x1 h) then
  (f_X3_sizeOf x1 h).bind fun v1 =>
  f_X11_perform_L34 dFu x1 v1 0 h
  else
  some ((-1), h)
  else
  some ((-1), h)
set_option maxRecDepth 20000 in
set_option maxHeartbeats 4000000 in
theorem t_X11_perform (x1 : Int32) (h : dH) : T XC 6 yX11_perform cX11_perform 4 (some .int) fiI [.ref 0, .int x1] h (f_X11_perform x1 h) := by
  refine T_of [.ref 0, .int x1, .null, .null] (by decide) (fun _ => rfl) (fun _ => Nat.le_of_ble_eq_true rfl) ?_
  show B XC 6 RX11 cX11_perform 4 (some .int) fiI 0 [.ref 0, .int x1, .null, .null] [] h (f_X11_perform x1 h)
  unfold f_X11_perform
  refine B_aload_n dX11_perform_0 rfl rfl ?_
  refine B_getR dX11_perform_1 fl_X11_19 shC_0 rfl (rfC_0_1 _) ?_
  refine B_VTb (st := []) dX11_perform_4 cl_X11_157 (t_X1_isThere h) (Nat.le_of_ble_eq_true rfl) shC_3 rfl rfl (Nat.le_of_ble_eq_true rfl) ?_
  refine C_ifb_eq (tgt := 21) dX11_perform_7 (by decide) (fun q3 => ?_) (fun q3 => ?_)
  · refine B_iconst dX11_perform_21 ic_m1 ?_
    exact B_ireturn dX11_perform_22 rfl rfl
  · refine B_aload_n dX11_perform_10 rfl rfl ?_
    refine B_getR dX11_perform_11 fl_X11_47 shC_0 rfl (rfC_0_5 _) ?_
    refine B_iload_n dX11_perform_14 rfl rfl ?_
    refine B_VTb (st := []) dX11_perform_15 cl_X11_256 (t_X3_isKept x1 h) (Nat.le_of_ble_eq_true rfl) shC_52 rfl rfl (Nat.le_of_ble_eq_true rfl) ?_
    refine C_ifb_ne (tgt := 23) dX11_perform_18 (by decide) (fun q2 => ?_) (fun q2 => ?_)
    · refine B_aload_n dX11_perform_23 rfl rfl ?_
      refine B_getR dX11_perform_24 fl_X11_47 shC_0 rfl (rfC_0_5 _) ?_
      refine B_iload_n dX11_perform_27 rfl rfl ?_
      refine B_Vp (st := []) dX11_perform_28 cl_X11_246 (t_X3_sizeOf x1 h) (Nat.le_of_ble_eq_true rfl) shC_52 rfl rfl (Nat.le_of_ble_eq_true rfl) (fun v1 _ => ?_)
      refine B_istore_n (ls' := [.ref 0, .int x1, .int v1, .null]) dX11_perform_31 rfl (Nat.le_of_ble_eq_true rfl) rfl rfl ?_
      refine B_iconst dX11_perform_32 ic_0 ?_
      refine B_istore_n (ls' := [.ref 0, .int x1, .int v1, .int 0]) dX11_perform_33 rfl (Nat.le_of_ble_eq_true rfl) rfl rfl ?_
      exact b_X11_perform_L34 dFu x1 v1 0 h
    · refine B_iconst dX11_perform_21 ic_m1 ?_
      exact B_ireturn dX11_perform_22 rfl rfl
def f_X11_troubles (x1 : Int32) (h : dH) : Option (Int32 × dH) :=
  if (f_X1_isPlace 3 x1 h) then
  (f_X8_troubleNow x1 0 h).bind fun rv1 =>
  some (rv1.1, rv1.2)
  else
  some ((-1), h)
set_option maxRecDepth 20000 in
set_option maxHeartbeats 4000000 in
theorem t_X11_troubles (x1 : Int32) (h : dH) : T XC 4 yX11_troubles cX11_troubles 2 (some .int) fiI [.ref 0, .int x1] h (f_X11_troubles x1 h) := by
  refine T_of [.ref 0, .int x1] (by decide) (fun _ => rfl) (fun _ => Nat.le_of_ble_eq_true rfl) ?_
  show B XC 4 RX11 cX11_troubles 2 (some .int) fiI 0 [.ref 0, .int x1] [] h (f_X11_troubles x1 h)
  unfold f_X11_troubles
  refine B_aload_n dX11_troubles_0 rfl rfl ?_
  refine B_getR dX11_troubles_1 fl_X11_19 shC_0 rfl (rfC_0_1 _) ?_
  refine B_iload_n dX11_troubles_4 rfl rfl ?_
  refine B_VTb (st := []) dX11_troubles_5 cl_X11_164 (t_X1_isPlace 3 shC_3 x1 h) (Nat.le_of_ble_eq_true rfl) shC_3 rfl rfl (Nat.le_of_ble_eq_true rfl) ?_
  refine C_ifb_eq (tgt := 23) dX11_troubles_8 (by decide) (fun q3 => ?_) (fun q3 => ?_)
  · refine B_iconst dX11_troubles_23 ic_m1 ?_
    exact B_ireturn dX11_troubles_24 rfl rfl
  · refine B_aload_n dX11_troubles_11 rfl rfl ?_
    refine B_getR dX11_troubles_12 fl_X11_56 shC_0 rfl (rfC_0_6 _) ?_
    refine B_iload_n dX11_troubles_15 rfl rfl ?_
    refine B_iconst dX11_troubles_16 ic_0 ?_
    refine B_VI (st := []) dX11_troubles_17 cl_X11_272 (t_X8_troubleNow x1 0 h) (Nat.le_of_ble_eq_true rfl) shC_66 rfl rfl (Nat.le_of_ble_eq_true rfl) (fun v1 h2 _ => ?_)
    refine B_goto (tgt := 24) dX11_troubles_20 (by decide) ?_
    exact B_ireturn dX11_troubles_24 rfl rfl
def f_X11_manners_L36 (h : dH) : Nat → Int32 → Int32 → Int32 → Option (Int32)
  | 0, _, _, _ => none
  | n + 1, y1, y2, y3 =>
    if 9 < y3 then
    some (-1)
    else
    (f_X7_isBorne y1 y3 h).bind fun v3 =>
    if v3 then
    some (y3 - y2)
    else
    (f_X11_manners_L36 h n) y1 y2 (y3 + 1)
set_option maxRecDepth 20000 in
set_option maxHeartbeats 4000000 in
theorem b_X11_manners_L36 (h : dH) : ∀ (n : Nat) (y1 : Int32) (y2 : Int32) (y3 : Int32), B XC 4 RX11 cX11_manners 4 (some .int) (fiP h) 36 [.ref 0, .int y1, .int y2, .int y3] [] h (f_X11_manners_L36 h n y1 y2 y3) := by
  intro n
  induction n with
  | zero =>
    intro y1 y2 y3
    exact B_none
  | succ n ih =>
    intro y1 y2 y3
    rw [f_X11_manners_L36]
    refine B_iload_n dX11_manners_36 rfl rfl ?_
    refine B_bipush dX11_manners_37 bp_9 ?_
    refine C_icmp_gt (tgt := 64) dX11_manners_39 (by decide) (fun q5 => ?_) (fun q5 => ?_)
    · refine B_iconst dX11_manners_64 ic_m1 ?_
      exact B_ireturn dX11_manners_65 rfl rfl
    · refine B_aload_n dX11_manners_42 rfl rfl ?_
      refine B_getR dX11_manners_43 fl_X11_98 shC_0 rfl (rfC_0_13 _) ?_
      refine B_iload_n dX11_manners_46 rfl rfl ?_
      refine B_iload_n dX11_manners_47 rfl rfl ?_
      refine B_Vpb (st := []) dX11_manners_48 cl_X11_293 (t_X7_isBorne y1 y3 h) (Nat.le_of_ble_eq_true rfl) shC_83 rfl rfl (Nat.le_of_ble_eq_true rfl) (fun v3 _ => ?_)
      refine C_ifb_eq (tgt := 58) dX11_manners_51 (by decide) (fun q4 => ?_) (fun q4 => ?_)
      · refine B_iinc (w := (y3 + 1)) (ls' := [.ref 0, .int y1, .int y2, .int (y3 + 1)]) dX11_manners_58 rfl (congrArg (fun z => y3 + z) ic_1) (Nat.le_of_ble_eq_true rfl) rfl rfl ?_
        refine B_goto (tgt := 36) dX11_manners_61 (by decide) ?_
        exact ih y1 y2 (y3 + 1)  
      · refine B_iload_n dX11_manners_54 rfl rfl ?_
        refine B_iload_n dX11_manners_55 rfl rfl ?_
        refine B_isub dX11_manners_56 ?_
        exact B_ireturn dX11_manners_57 rfl rfl
def f_X11_manners (x1 : Int32) (h : dH) : Option (Int32) :=
  if (f_X1_isSet x1 h) then
  if (h.1 42 2) = (-1) then
  f_X11_manners_L36 h dFu x1 (h.1 4 2) (h.1 4 2)
  else
  some (-1)
  else
  some (-1)
set_option maxRecDepth 20000 in
set_option maxHeartbeats 4000000 in
theorem t_X11_manners (x1 : Int32) (h : dH) : T XC 4 yX11_manners cX11_manners 4 (some .int) (fiP h) [.ref 0, .int x1] h (f_X11_manners x1 h) := by
  refine T_of [.ref 0, .int x1, .null, .null] (by decide) (fun _ => rfl) (fun _ => Nat.le_of_ble_eq_true rfl) ?_
  show B XC 4 RX11 cX11_manners 4 (some .int) (fiP h) 0 [.ref 0, .int x1, .null, .null] [] h (f_X11_manners x1 h)
  unfold f_X11_manners
  refine B_aload_n dX11_manners_0 rfl rfl ?_
  refine B_getR dX11_manners_1 fl_X11_19 shC_0 rfl (rfC_0_1 _) ?_
  refine B_iload_n dX11_manners_4 rfl rfl ?_
  refine B_VTb (st := []) dX11_manners_5 cl_X11_287 (t_X1_isSet x1 h) (Nat.le_of_ble_eq_true rfl) shC_3 rfl rfl (Nat.le_of_ble_eq_true rfl) ?_
  refine C_ifb_eq (tgt := 22) dX11_manners_8 (by decide) (fun q2 => ?_) (fun q2 => ?_)
  · refine B_iconst dX11_manners_22 ic_m1 ?_
    exact B_ireturn dX11_manners_23 rfl rfl
  · refine B_aload_n dX11_manners_11 rfl rfl ?_
    refine B_getR dX11_manners_12 fl_X11_40 shC_0 rfl (rfC_0_4 _) ?_
    refine B_getI dX11_manners_15 fl_X11_187 shC_42 rfl ?_
    refine B_iconst dX11_manners_18 ic_m1 ?_
    refine C_icmp_eq (tgt := 24) dX11_manners_19 (by decide) (fun q1 => ?_) (fun q1 => ?_)
    · refine B_aload_n dX11_manners_24 rfl rfl ?_
      refine B_getR dX11_manners_25 fl_X11_19 shC_0 rfl (rfC_0_1 _) ?_
      refine B_getR dX11_manners_28 fl_X11_161 shC_3 rfl (rfC_3_0 _) ?_
      refine B_iconst dX11_manners_31 ic_2 ?_
      refine L_iald dX11_manners_32 shC_4 (by decide) di_2 ?_
      refine B_istore_n (ls' := [.ref 0, .int x1, .int (h.1 4 2), .null]) dX11_manners_33 rfl (Nat.le_of_ble_eq_true rfl) rfl rfl ?_
      refine B_iload_n dX11_manners_34 rfl rfl ?_
      refine B_istore_n (ls' := [.ref 0, .int x1, .int (h.1 4 2), .int (h.1 4 2)]) dX11_manners_35 rfl (Nat.le_of_ble_eq_true rfl) rfl rfl ?_
      exact b_X11_manners_L36 h dFu x1 (h.1 4 2) (h.1 4 2)
    · refine B_iconst dX11_manners_22 ic_m1 ?_
      exact B_ireturn dX11_manners_23 rfl rfl
def f_X11_noted (x1 : Int32) (x2 : Int32) (x3 : Bool) (h : dH) : Option (Int32 × dH) :=
  if (f_X1_isPlace 3 x1 h) then
  if x2 < 0 then
  some ((-1), h)
  else
  if 60 < x2 then
  some ((-1), h)
  else
  (f_X10_put x1 x2 x3 h).bind fun rv1 =>
  some (rv1.1, rv1.2)
  else
  some ((-1), h)
set_option maxRecDepth 20000 in
set_option maxHeartbeats 4000000 in
theorem t_X11_noted (x1 : Int32) (x2 : Int32) (x3 : Bool) (h : dH) : T XC 1 yX11_noted cX11_noted 4 (some .int) fiI [.ref 0, .int x1, .int x2, .int (bi x3)] h (f_X11_noted x1 x2 x3 h) := by
  refine T_of [.ref 0, .int x1, .int x2, .int (bi x3)] (by decide) (fun _ => rfl) (fun _ => Nat.le_of_ble_eq_true rfl) ?_
  show B XC 1 RX11 cX11_noted 4 (some .int) fiI 0 [.ref 0, .int x1, .int x2, .int (bi x3)] [] h (f_X11_noted x1 x2 x3 h)
  unfold f_X11_noted
  refine B_aload_n dX11_noted_0 rfl rfl ?_
  refine B_getR dX11_noted_1 fl_X11_19 shC_0 rfl (rfC_0_1 _) ?_
  refine B_iload_n dX11_noted_4 rfl rfl ?_
  refine B_VTb (st := []) dX11_noted_5 cl_X11_164 (t_X1_isPlace 3 shC_3 x1 h) (Nat.le_of_ble_eq_true rfl) shC_3 rfl rfl (Nat.le_of_ble_eq_true rfl) ?_
  refine C_ifb_eq (tgt := 21) dX11_noted_8 (by decide) (fun q5 => ?_) (fun q5 => ?_)
  · refine B_iconst dX11_noted_21 ic_m1 ?_
    exact B_ireturn dX11_noted_22 rfl rfl
  · refine B_iload_n dX11_noted_11 rfl rfl ?_
    refine C_if_lt (tgt := 21) dX11_noted_12 (by decide) (fun q4 => ?_) (fun q4 => ?_)
    · refine B_iconst dX11_noted_21 ic_m1 ?_
      exact B_ireturn dX11_noted_22 rfl rfl
    · refine B_iload_n dX11_noted_15 rfl rfl ?_
      refine B_bipush dX11_noted_16 bp_60 ?_
      refine C_icmp_le (tgt := 23) dX11_noted_18 (by decide) (fun q3 => ?_) (fun q3 => ?_)
      · refine B_aload_n dX11_noted_23 rfl rfl ?_
        refine B_getR dX11_noted_24 fl_X11_89 shC_0 rfl (rfC_0_12 _) ?_
        refine B_iload_n dX11_noted_27 rfl rfl ?_
        refine B_iload_n dX11_noted_28 rfl rfl ?_
        refine B_iload_n dX11_noted_29 rfl rfl ?_
        refine B_VI (st := []) dX11_noted_30 cl_X11_296 (t_X10_put x1 x2 x3 h) (Nat.le_of_ble_eq_true rfl) shC_77 rfl rfl (Nat.le_of_ble_eq_true rfl) (fun v1 h2 _ => ?_)
        exact B_ireturn dX11_noted_33 rfl rfl
      · refine B_iconst dX11_noted_21 ic_m1 ?_
        exact B_ireturn dX11_noted_22 rfl rfl
def f_X11_canGather (x1 : Int32) (h : dH) : Bool :=
  if (f_X1_isThere h) then
  if x1 < 1 then
  false
  else
  if 4 < x1 then
  false
  else
  true
  else
  false
set_option maxRecDepth 20000 in
set_option maxHeartbeats 4000000 in
theorem t_X11_canGather (x1 : Int32) (h : dH) : T XC 1 yX11_canGather cX11_canGather 2 (some .boolean) (fiB h) [.ref 0, .int x1] h (some (f_X11_canGather x1 h)) := by
  refine T_of [.ref 0, .int x1] (by decide) (fun _ => rfl) (fun _ => Nat.le_of_ble_eq_true rfl) ?_
  show B XC 1 RX11 cX11_canGather 2 (some .boolean) (fiB h) 0 [.ref 0, .int x1] [] h (some (f_X11_canGather x1 h))
  unfold f_X11_canGather
  refine B_aload_n dX11_canGather_0 rfl rfl ?_
  refine B_getR dX11_canGather_1 fl_X11_19 shC_0 rfl (rfC_0_1 _) ?_
  refine B_VTb (st := []) dX11_canGather_4 cl_X11_157 (t_X1_isThere h) (Nat.le_of_ble_eq_true rfl) shC_3 rfl rfl (Nat.le_of_ble_eq_true rfl) ?_
  refine C_some ?_
  refine C_ifb_eq (tgt := 24) dX11_canGather_7 (by decide) (fun q3 => ?_) (fun q3 => ?_)
  · refine B_iconst dX11_canGather_24 ic_0 ?_
    exact B_zreturn dX11_canGather_25 rfl rfl rfl
  · refine B_iload_n dX11_canGather_10 rfl rfl ?_
    refine B_iconst dX11_canGather_11 ic_1 ?_
    refine C_some ?_
    refine C_icmp_lt (tgt := 24) dX11_canGather_12 (by decide) (fun q2 => ?_) (fun q2 => ?_)
    · refine B_iconst dX11_canGather_24 ic_0 ?_
      exact B_zreturn dX11_canGather_25 rfl rfl rfl
    · refine B_iload_n dX11_canGather_15 rfl rfl ?_
      refine B_iconst dX11_canGather_16 ic_4 ?_
      refine C_some ?_
      refine C_icmp_gt (tgt := 24) dX11_canGather_17 (by decide) (fun q1 => ?_) (fun q1 => ?_)
      · refine B_iconst dX11_canGather_24 ic_0 ?_
        exact B_zreturn dX11_canGather_25 rfl rfl rfl
      · refine B_iconst dX11_canGather_20 ic_1 ?_
        refine B_goto (tgt := 25) dX11_canGather_21 (by decide) ?_
        exact B_zreturn dX11_canGather_25 rfl rfl rfl
def f_X11_round (x1 : Int32) (h : dH) : Option (Int32) :=
  (f_X1_roundComes x1 h).bind fun v1 =>
  some v1
set_option maxRecDepth 20000 in
set_option maxHeartbeats 4000000 in
theorem t_X11_round (x1 : Int32) (h : dH) : T XC 3 yX11_round cX11_round 2 (some .int) (fiP h) [.ref 0, .int x1] h (f_X11_round x1 h) := by
  refine T_of [.ref 0, .int x1] (by decide) (fun _ => rfl) (fun _ => Nat.le_of_ble_eq_true rfl) ?_
  show B XC 3 RX11 cX11_round 2 (some .int) (fiP h) 0 [.ref 0, .int x1] [] h (f_X11_round x1 h)
  unfold f_X11_round
  refine B_aload_n dX11_round_0 rfl rfl ?_
  refine B_getR dX11_round_1 fl_X11_19 shC_0 rfl (rfC_0_1 _) ?_
  refine B_iload_n dX11_round_4 rfl rfl ?_
  refine B_Vp (st := []) dX11_round_5 cl_X11_319 (t_X1_roundComes x1 h) (Nat.le_of_ble_eq_true rfl) shC_3 rfl rfl (Nat.le_of_ble_eq_true rfl) (fun v1 _ => ?_)
  exact B_ireturn dX11_round_8 rfl rfl
def f_X11_meets (x1 : Int32) (x2 : Int32) (h : dH) : Option (Int32 × dH) :=
  (f_X6_read x1 x2 h).bind fun rv1 =>
  if rv1.1 then
  (f_X6_meetingPlace rv1.2).bind fun v3 =>
  some (v3, rv1.2)
  else
  some ((-1), rv1.2)
set_option maxRecDepth 20000 in
set_option maxHeartbeats 4000000 in
theorem t_X11_meets (x1 : Int32) (x2 : Int32) (h : dH) : T XC 4 yX11_meets cX11_meets 3 (some .int) fiI [.ref 0, .int x1, .int x2] h (f_X11_meets x1 x2 h) := by
  refine T_of [.ref 0, .int x1, .int x2] (by decide) (fun _ => rfl) (fun _ => Nat.le_of_ble_eq_true rfl) ?_
  show B XC 4 RX11 cX11_meets 3 (some .int) fiI 0 [.ref 0, .int x1, .int x2] [] h (f_X11_meets x1 x2 h)
  unfold f_X11_meets
  refine B_aload_n dX11_meets_0 rfl rfl ?_
  refine B_getR dX11_meets_1 fl_X11_105 shC_0 rfl (rfC_0_14 _) ?_
  refine B_iload_n dX11_meets_4 rfl rfl ?_
  refine B_iload_n dX11_meets_5 rfl rfl ?_
  refine B_VC (st := []) dX11_meets_6 cl_X11_322 (t_X6_read x1 x2 h) (Nat.le_of_ble_eq_true rfl) shC_84 rfl rfl (Nat.le_of_ble_eq_true rfl) (fun v1 h2 _ => ?_)
  refine C_ifb_eq (tgt := 22) dX11_meets_9 (by decide) (fun q4 => ?_) (fun q4 => ?_)
  · refine B_iconst dX11_meets_22 ic_m1 ?_
    exact B_ireturn dX11_meets_23 rfl rfl
  · refine B_aload_n dX11_meets_12 rfl rfl ?_
    refine B_getR dX11_meets_13 fl_X11_105 shC_0 rfl (rfC_0_14 _) ?_
    refine B_Vp (st := []) dX11_meets_16 cl_X11_324 (t_X6_meetingPlace h2) (Nat.le_of_ble_eq_true rfl) shC_84 rfl rfl (Nat.le_of_ble_eq_true rfl) (fun v3 _ => ?_)
    refine B_goto (tgt := 23) dX11_meets_19 (by decide) ?_
    exact B_ireturn dX11_meets_23 rfl rfl
def f_X11_isShown (x0 : Int32) (h : dH) : Bool :=
  if x0 < 0 then
  false
  else
  if 3 < x0 then
  false
  else
  true
set_option maxRecDepth 20000 in
set_option maxHeartbeats 4000000 in
theorem t_X11_isShown (x0 : Int32) (h : dH) : T XC 0 yX11_isShown cX11_isShown 1 (some .boolean) (fiB h) [.int x0] h (some (f_X11_isShown x0 h)) := by
  refine T_of [.int x0] (by decide) (fun _ => rfl) (fun _ => Nat.le_of_ble_eq_true rfl) ?_
  show B XC 0 RX11 cX11_isShown 1 (some .boolean) (fiB h) 0 [.int x0] [] h (some (f_X11_isShown x0 h))
  unfold f_X11_isShown
  refine B_iload_n dX11_isShown_0 rfl rfl ?_
  refine C_some ?_
  refine C_if_lt (tgt := 13) dX11_isShown_1 (by decide) (fun q2 => ?_) (fun q2 => ?_)
  · refine B_iconst dX11_isShown_13 ic_0 ?_
    exact B_zreturn dX11_isShown_14 rfl rfl rfl
  · refine B_iload_n dX11_isShown_4 rfl rfl ?_
    refine B_iconst dX11_isShown_5 ic_3 ?_
    refine C_some ?_
    refine C_icmp_gt (tgt := 13) dX11_isShown_6 (by decide) (fun q1 => ?_) (fun q1 => ?_)
    · refine B_iconst dX11_isShown_13 ic_0 ?_
      exact B_zreturn dX11_isShown_14 rfl rfl rfl
    · refine B_iconst dX11_isShown_9 ic_1 ?_
      refine B_goto (tgt := 14) dX11_isShown_10 (by decide) ?_
      exact B_zreturn dX11_isShown_14 rfl rfl rfl
def f_X11_areTwo (x1 : Int32) (x2 : Int32) (h : dH) : Bool :=
  if (f_X1_isPlace 3 x1 h) then
  if (f_X1_isPlace 3 x2 h) then
  if x1 = x2 then
  false
  else
  true
  else
  false
  else
  false
set_option maxRecDepth 20000 in
set_option maxHeartbeats 4000000 in
theorem t_X11_areTwo (x1 : Int32) (x2 : Int32) (h : dH) : T XC 1 yX11_areTwo cX11_areTwo 3 (some .boolean) (fiB h) [.ref 0, .int x1, .int x2] h (some (f_X11_areTwo x1 x2 h)) := by
  refine T_of [.ref 0, .int x1, .int x2] (by decide) (fun _ => rfl) (fun _ => Nat.le_of_ble_eq_true rfl) ?_
  show B XC 1 RX11 cX11_areTwo 3 (some .boolean) (fiB h) 0 [.ref 0, .int x1, .int x2] [] h (some (f_X11_areTwo x1 x2 h))
  unfold f_X11_areTwo
  refine B_aload_n dX11_areTwo_0 rfl rfl ?_
  refine B_getR dX11_areTwo_1 fl_X11_19 shC_0 rfl (rfC_0_1 _) ?_
  refine B_iload_n dX11_areTwo_4 rfl rfl ?_
  refine B_VTb (st := []) dX11_areTwo_5 cl_X11_164 (t_X1_isPlace 3 shC_3 x1 h) (Nat.le_of_ble_eq_true rfl) shC_3 rfl rfl (Nat.le_of_ble_eq_true rfl) ?_
  refine C_some ?_
  refine C_ifb_eq (tgt := 31) dX11_areTwo_8 (by decide) (fun q3 => ?_) (fun q3 => ?_)
  · refine B_iconst dX11_areTwo_31 ic_0 ?_
    exact B_zreturn dX11_areTwo_32 rfl rfl rfl
  · refine B_aload_n dX11_areTwo_11 rfl rfl ?_
    refine B_getR dX11_areTwo_12 fl_X11_19 shC_0 rfl (rfC_0_1 _) ?_
    refine B_iload_n dX11_areTwo_15 rfl rfl ?_
    refine B_VTb (st := []) dX11_areTwo_16 cl_X11_164 (t_X1_isPlace 3 shC_3 x2 h) (Nat.le_of_ble_eq_true rfl) shC_3 rfl rfl (Nat.le_of_ble_eq_true rfl) ?_
    refine C_some ?_
    refine C_ifb_eq (tgt := 31) dX11_areTwo_19 (by decide) (fun q2 => ?_) (fun q2 => ?_)
    · refine B_iconst dX11_areTwo_31 ic_0 ?_
      exact B_zreturn dX11_areTwo_32 rfl rfl rfl
    · refine B_iload_n dX11_areTwo_22 rfl rfl ?_
      refine B_iload_n dX11_areTwo_23 rfl rfl ?_
      refine C_some ?_
      refine C_icmp_eq (tgt := 31) dX11_areTwo_24 (by decide) (fun q1 => ?_) (fun q1 => ?_)
      · refine B_iconst dX11_areTwo_31 ic_0 ?_
        exact B_zreturn dX11_areTwo_32 rfl rfl rfl
      · refine B_iconst dX11_areTwo_27 ic_1 ?_
        refine B_goto (tgt := 32) dX11_areTwo_28 (by decide) ?_
        exact B_zreturn dX11_areTwo_32 rfl rfl rfl
def f_X11_comesTo (x1 : Int32) (x2 : Int32) (x3 : Int32) (x4 : Int32) (h : dH) : Option (Bool) :=
  (f_X1_toldOf 3 x1 3 h).bind fun v1 =>
  (f_X1_toldOf 3 x3 3 h).bind fun v2 =>
  if (v1 + x2) = (v2 + x4) then
  (f_X1_apart 3 (f_X8_place h) x1 h).bind fun v3 =>
  (f_X1_apart 3 (f_X8_place h) x3 h).bind fun v4 =>
  if v3 = v4 then
  if x1 < x3 then
  some true
  else
  some false
  else
  if v3 < v4 then
  some true
  else
  some false
  else
  if (v2 + x4) < (v1 + x2) then
  some true
  else
  some false
set_option maxRecDepth 20000 in
set_option maxHeartbeats 4000000 in
theorem t_X11_comesTo (x1 : Int32) (x2 : Int32) (x3 : Int32) (x4 : Int32) (h : dH) : T XC 2 yX11_comesTo cX11_comesTo 9 (some .boolean) (fiB h) [.ref 0, .int x1, .int x2, .int x3, .int x4] h (f_X11_comesTo x1 x2 x3 x4 h) := by
  refine T_of [.ref 0, .int x1, .int x2, .int x3, .int x4, .null, .null, .null, .null] (by decide) (fun _ => rfl) (fun _ => Nat.le_of_ble_eq_true rfl) ?_
  show B XC 2 RX11 cX11_comesTo 9 (some .boolean) (fiB h) 0 [.ref 0, .int x1, .int x2, .int x3, .int x4, .null, .null, .null, .null] [] h (f_X11_comesTo x1 x2 x3 x4 h)
  unfold f_X11_comesTo
  refine B_aload_n dX11_comesTo_0 rfl rfl ?_
  refine B_getR dX11_comesTo_1 fl_X11_19 shC_0 rfl (rfC_0_1 _) ?_
  refine B_iload_n dX11_comesTo_4 rfl rfl ?_
  refine B_iconst dX11_comesTo_5 ic_3 ?_
  refine B_Vp (st := []) dX11_comesTo_6 cl_X11_180 (t_X1_toldOf 3 shC_3 x1 3 h) (Nat.le_of_ble_eq_true rfl) shC_3 rfl rfl (Nat.le_of_ble_eq_true rfl) (fun v1 _ => ?_)
  refine B_iload_n dX11_comesTo_9 rfl rfl ?_
  refine B_iadd dX11_comesTo_10 ?_
  refine B_istore (ls' := [.ref 0, .int x1, .int x2, .int x3, .int x4, .int (v1 + x2), .null, .null, .null]) dX11_comesTo_11 (Nat.le_of_ble_eq_true rfl) rfl rfl ?_
  refine B_aload_n dX11_comesTo_13 rfl rfl ?_
  refine B_getR dX11_comesTo_14 fl_X11_19 shC_0 rfl (rfC_0_1 _) ?_
  refine B_iload_n dX11_comesTo_17 rfl rfl ?_
  refine B_iconst dX11_comesTo_18 ic_3 ?_
  refine B_Vp (st := []) dX11_comesTo_19 cl_X11_180 (t_X1_toldOf 3 shC_3 x3 3 h) (Nat.le_of_ble_eq_true rfl) shC_3 rfl rfl (Nat.le_of_ble_eq_true rfl) (fun v2 _ => ?_)
  refine B_iload dX11_comesTo_22 rfl ?_
  refine B_iadd dX11_comesTo_24 ?_
  refine B_istore (ls' := [.ref 0, .int x1, .int x2, .int x3, .int x4, .int (v1 + x2), .int (v2 + x4), .null, .null]) dX11_comesTo_25 (Nat.le_of_ble_eq_true rfl) rfl rfl ?_
  refine B_iload dX11_comesTo_27 rfl ?_
  refine B_iload dX11_comesTo_29 rfl ?_
  refine C_icmp_eq (tgt := 47) dX11_comesTo_31 (by decide) (fun q9 => ?_) (fun q9 => ?_)
  · refine B_aload_n dX11_comesTo_47 rfl rfl ?_
    refine B_getR dX11_comesTo_48 fl_X11_19 shC_0 rfl (rfC_0_1 _) ?_
    refine B_aload_n dX11_comesTo_51 rfl rfl ?_
    refine B_getR dX11_comesTo_52 fl_X11_56 shC_0 rfl (rfC_0_6 _) ?_
    refine B_Vt (st := [.ref 3]) dX11_comesTo_55 cl_X11_190 (t_X8_place h) (Nat.le_of_ble_eq_true rfl) shC_66 rfl rfl (Nat.le_of_ble_eq_true rfl) ?_
    refine B_iload_n dX11_comesTo_58 rfl rfl ?_
    refine B_Vp (st := []) dX11_comesTo_59 cl_X11_193 (t_X1_apart 3 shC_3 (f_X8_place h) x1 h) (Nat.le_of_ble_eq_true rfl) shC_3 rfl rfl (Nat.le_of_ble_eq_true rfl) (fun v3 _ => ?_)
    refine B_istore (ls' := [.ref 0, .int x1, .int x2, .int x3, .int x4, .int (v1 + x2), .int (v2 + x4), .int v3, .null]) dX11_comesTo_62 (Nat.le_of_ble_eq_true rfl) rfl rfl ?_
    refine B_aload_n dX11_comesTo_64 rfl rfl ?_
    refine B_getR dX11_comesTo_65 fl_X11_19 shC_0 rfl (rfC_0_1 _) ?_
    refine B_aload_n dX11_comesTo_68 rfl rfl ?_
    refine B_getR dX11_comesTo_69 fl_X11_56 shC_0 rfl (rfC_0_6 _) ?_
    refine B_Vt (st := [.ref 3]) dX11_comesTo_72 cl_X11_190 (t_X8_place h) (Nat.le_of_ble_eq_true rfl) shC_66 rfl rfl (Nat.le_of_ble_eq_true rfl) ?_
    refine B_iload_n dX11_comesTo_75 rfl rfl ?_
    refine B_Vp (st := []) dX11_comesTo_76 cl_X11_193 (t_X1_apart 3 shC_3 (f_X8_place h) x3 h) (Nat.le_of_ble_eq_true rfl) shC_3 rfl rfl (Nat.le_of_ble_eq_true rfl) (fun v4 _ => ?_)
    refine B_istore (ls' := [.ref 0, .int x1, .int x2, .int x3, .int x4, .int (v1 + x2), .int (v2 + x4), .int v3, .int v4]) dX11_comesTo_79 (Nat.le_of_ble_eq_true rfl) rfl rfl ?_
    refine B_iload dX11_comesTo_81 rfl ?_
    refine B_iload dX11_comesTo_83 rfl ?_
    refine C_icmp_eq (tgt := 103) dX11_comesTo_85 (by decide) (fun q7 => ?_) (fun q7 => ?_)
    · refine B_iload_n dX11_comesTo_103 rfl rfl ?_
      refine B_iload_n dX11_comesTo_104 rfl rfl ?_
      refine C_icmp_ge (tgt := 112) dX11_comesTo_105 (by decide) (fun q5 => ?_) (fun q5 => ?_)
      · refine B_iconst dX11_comesTo_112 ic_0 ?_
        exact B_zreturn dX11_comesTo_113 rfl rfl rfl
      · refine B_iconst dX11_comesTo_108 ic_1 ?_
        refine B_goto (tgt := 113) dX11_comesTo_109 (by decide) ?_
        exact B_zreturn dX11_comesTo_113 rfl rfl rfl
    · refine B_iload dX11_comesTo_88 rfl ?_
      refine B_iload dX11_comesTo_90 rfl ?_
      refine C_icmp_ge (tgt := 99) dX11_comesTo_92 (by decide) (fun q6 => ?_) (fun q6 => ?_)
      · refine B_iconst dX11_comesTo_99 ic_0 ?_
        refine B_goto (tgt := 113) dX11_comesTo_100 (by decide) ?_
        exact B_zreturn dX11_comesTo_113 rfl rfl rfl
      · refine B_iconst dX11_comesTo_95 ic_1 ?_
        refine B_goto (tgt := 113) dX11_comesTo_96 (by decide) ?_
        exact B_zreturn dX11_comesTo_113 rfl rfl rfl
  · refine B_iload dX11_comesTo_34 rfl ?_
    refine B_iload dX11_comesTo_36 rfl ?_
    refine C_icmp_le (tgt := 45) dX11_comesTo_38 (by decide) (fun q8 => ?_) (fun q8 => ?_)
    · refine B_iconst dX11_comesTo_45 ic_0 ?_
      exact B_zreturn dX11_comesTo_46 rfl rfl rfl
    · refine B_iconst dX11_comesTo_41 ic_1 ?_
      refine B_goto (tgt := 46) dX11_comesTo_42 (by decide) ?_
      exact B_zreturn dX11_comesTo_46 rfl rfl rfl
def f_X11_has (x1 : Int32) (x2 : Int32) (x3 : Int32) (x4 : Int32) (h : dH) : Option (Int32 × dH) :=
  (f_X11_comesTo x1 x2 x3 x4 h).bind fun v1 =>
  if v1 then
  (f_X8_troubleNow x1 x2 h).bind fun rv2 =>
  some (((8 - rv2.1) - x2), rv2.2)
  else
  some ((-x2), h)
set_option maxRecDepth 20000 in
set_option maxHeartbeats 4000000 in
theorem t_X11_has (x1 : Int32) (x2 : Int32) (x3 : Int32) (x4 : Int32) (h : dH) : T XC 4 yX11_has cX11_has 5 (some .int) fiI [.ref 0, .int x1, .int x2, .int x3, .int x4] h (f_X11_has x1 x2 x3 x4 h) := by
  refine T_of [.ref 0, .int x1, .int x2, .int x3, .int x4] (by decide) (fun _ => rfl) (fun _ => Nat.le_of_ble_eq_true rfl) ?_
  show B XC 4 RX11 cX11_has 5 (some .int) fiI 0 [.ref 0, .int x1, .int x2, .int x3, .int x4] [] h (f_X11_has x1 x2 x3 x4 h)
  unfold f_X11_has
  refine B_aload_n dX11_has_0 rfl rfl ?_
  refine B_iload_n dX11_has_1 rfl rfl ?_
  refine B_iload_n dX11_has_2 rfl rfl ?_
  refine B_iload_n dX11_has_3 rfl rfl ?_
  refine B_iload dX11_has_4 rfl ?_
  refine B_Vpb (st := []) dX11_has_6 cl_X11_340 (t_X11_comesTo x1 x2 x3 x4 h) (Nat.le_of_ble_eq_true rfl) shC_0 rfl rfl (Nat.le_of_ble_eq_true rfl) (fun v1 _ => ?_)
  refine C_ifb_ne (tgt := 15) dX11_has_9 (by decide) (fun q4 => ?_) (fun q4 => ?_)
  · refine B_bipush dX11_has_15 bp_8 ?_
    refine B_aload_n dX11_has_17 rfl rfl ?_
    refine B_getR dX11_has_18 fl_X11_56 shC_0 rfl (rfC_0_6 _) ?_
    refine B_iload_n dX11_has_21 rfl rfl ?_
    refine B_iload_n dX11_has_22 rfl rfl ?_
    refine B_VI (st := [.int 8]) dX11_has_23 cl_X11_272 (t_X8_troubleNow x1 x2 h) (Nat.le_of_ble_eq_true rfl) shC_66 rfl rfl (Nat.le_of_ble_eq_true rfl) (fun v2 h3 _ => ?_)
    refine B_isub dX11_has_26 ?_
    refine B_iload_n dX11_has_27 rfl rfl ?_
    refine B_isub dX11_has_28 ?_
    exact B_ireturn dX11_has_29 rfl rfl
  · refine B_iload_n dX11_has_12 rfl rfl ?_
    refine B_ineg dX11_has_13 ?_
    exact B_ireturn dX11_has_14 rfl rfl
def f_X11_game (x1 : Int32) (x2 : Int32) (x3 : Int32) (x4 : Int32) (x5 : Int32) (h : dH) : Option (Int32 × dH) :=
  if (f_X11_areTwo x1 x2 h) then
  if (f_X11_isShown x3 h) then
  if (f_X11_isShown x4 h) then
  if x5 < 0 then
  some ((-1000000), h)
  else
  if 1 < x5 then
  some ((-1000000), h)
  else
  if x5 = 0 then
  (f_X11_has x1 x3 x2 x4 h).bind fun rv3 =>
  some (rv3.1, rv3.2)
  else
  (f_X11_has x2 x4 x1 x3 h).bind fun rv1 =>
  some (rv1.1, rv1.2)
  else
  some ((-1000000), h)
  else
  some ((-1000000), h)
  else
  some ((-1000000), h)
set_option maxRecDepth 20000 in
set_option maxHeartbeats 4000000 in
theorem t_X11_game (x1 : Int32) (x2 : Int32) (x3 : Int32) (x4 : Int32) (x5 : Int32) (h : dH) : T XC 5 yX11_game cX11_game 6 (some .int) fiI [.ref 0, .int x1, .int x2, .int x3, .int x4, .int x5] h (f_X11_game x1 x2 x3 x4 x5 h) := by
  refine T_of [.ref 0, .int x1, .int x2, .int x3, .int x4, .int x5] (by decide) (fun _ => rfl) (fun _ => Nat.le_of_ble_eq_true rfl) ?_
  show B XC 5 RX11 cX11_game 6 (some .int) fiI 0 [.ref 0, .int x1, .int x2, .int x3, .int x4, .int x5] [] h (f_X11_game x1 x2 x3 x4 x5 h)
  unfold f_X11_game
  refine B_aload_n dX11_game_0 rfl rfl ?_
  refine B_iload_n dX11_game_1 rfl rfl ?_
  refine B_iload_n dX11_game_2 rfl rfl ?_
  refine B_VTb (st := []) dX11_game_3 cl_X11_330 (t_X11_areTwo x1 x2 h) (Nat.le_of_ble_eq_true rfl) shC_0 rfl rfl (Nat.le_of_ble_eq_true rfl) ?_
  refine C_ifb_eq (tgt := 35) dX11_game_6 (by decide) (fun q10 => ?_) (fun q10 => ?_)
  · refine B_ldc dX11_game_35 kc_X11_249 ?_
    exact B_ireturn dX11_game_37 rfl rfl
  · refine B_iload_n dX11_game_9 rfl rfl ?_
    refine B_STb (st := []) dX11_game_10 cl_X11_333 (t_X11_isShown x3 h) (Nat.le_of_ble_eq_true rfl) rfl rfl (Nat.le_of_ble_eq_true rfl) ?_
    refine C_ifb_eq (tgt := 35) dX11_game_13 (by decide) (fun q9 => ?_) (fun q9 => ?_)
    · refine B_ldc dX11_game_35 kc_X11_249 ?_
      exact B_ireturn dX11_game_37 rfl rfl
    · refine B_iload dX11_game_16 rfl ?_
      refine B_STb (st := []) dX11_game_18 cl_X11_333 (t_X11_isShown x4 h) (Nat.le_of_ble_eq_true rfl) rfl rfl (Nat.le_of_ble_eq_true rfl) ?_
      refine C_ifb_eq (tgt := 35) dX11_game_21 (by decide) (fun q8 => ?_) (fun q8 => ?_)
      · refine B_ldc dX11_game_35 kc_X11_249 ?_
        exact B_ireturn dX11_game_37 rfl rfl
      · refine B_iload dX11_game_24 rfl ?_
        refine C_if_lt (tgt := 35) dX11_game_26 (by decide) (fun q7 => ?_) (fun q7 => ?_)
        · refine B_ldc dX11_game_35 kc_X11_249 ?_
          exact B_ireturn dX11_game_37 rfl rfl
        · refine B_iload dX11_game_29 rfl ?_
          refine B_iconst dX11_game_31 ic_1 ?_
          refine C_icmp_le (tgt := 38) dX11_game_32 (by decide) (fun q6 => ?_) (fun q6 => ?_)
          · refine B_iload dX11_game_38 rfl ?_
            refine C_if_ne (tgt := 55) dX11_game_40 (by decide) (fun q5 => ?_) (fun q5 => ?_)
            · refine B_aload_n dX11_game_55 rfl rfl ?_
              refine B_iload_n dX11_game_56 rfl rfl ?_
              refine B_iload dX11_game_57 rfl ?_
              refine B_iload_n dX11_game_59 rfl rfl ?_
              refine B_iload_n dX11_game_60 rfl rfl ?_
              refine B_VI (st := []) dX11_game_61 cl_X11_336 (t_X11_has x2 x4 x1 x3 h) (Nat.le_of_ble_eq_true rfl) shC_0 rfl rfl (Nat.le_of_ble_eq_true rfl) (fun v1 h2 _ => ?_)
              exact B_ireturn dX11_game_64 rfl rfl
            · refine B_aload_n dX11_game_43 rfl rfl ?_
              refine B_iload_n dX11_game_44 rfl rfl ?_
              refine B_iload_n dX11_game_45 rfl rfl ?_
              refine B_iload_n dX11_game_46 rfl rfl ?_
              refine B_iload dX11_game_47 rfl ?_
              refine B_VI (st := []) dX11_game_49 cl_X11_336 (t_X11_has x1 x3 x2 x4 h) (Nat.le_of_ble_eq_true rfl) shC_0 rfl rfl (Nat.le_of_ble_eq_true rfl) (fun v3 h4 _ => ?_)
              refine B_goto (tgt := 64) dX11_game_52 (by decide) ?_
              exact B_ireturn dX11_game_64 rfl rfl
          · refine B_ldc dX11_game_35 kc_X11_249 ?_
            exact B_ireturn dX11_game_37 rfl rfl
def f_X11_hasNoBetter_L14 : Nat → Int32 → Int32 → Int32 → Int32 → Int32 → dH → Option (Bool × dH)
  | 0, _, _, _, _, _, _ => none
  | n + 1, y1, y3, y4, y5, y6, h =>
    if 3 < y6 then
    some (true, h)
    else
    (f_X11_has y1 y6 y3 y4 h).bind fun rv3 =>
    if y5 < rv3.1 then
    some (false, rv3.2)
    else
    (f_X11_hasNoBetter_L14 n) y1 y3 y4 y5 (y6 + 1) rv3.2
set_option maxRecDepth 20000 in
set_option maxHeartbeats 4000000 in
theorem b_X11_hasNoBetter_L14 : ∀ (n : Nat) (y1 : Int32) (y3 : Int32) (y4 : Int32) (y5 : Int32) (y6 : Int32) (h : dH), B XC 5 RX11 cX11_hasNoBetter 7 (some .boolean) fiC 14 [.ref 0, .int y1, .null, .int y3, .int y4, .int y5, .int y6] [] h (f_X11_hasNoBetter_L14 n y1 y3 y4 y5 y6 h) := by
  intro n
  induction n with
  | zero =>
    intro y1 y3 y4 y5 y6 h
    exact B_none
  | succ n ih =>
    intro y1 y3 y4 y5 y6 h
    rw [f_X11_hasNoBetter_L14]
    refine B_iload dX11_hasNoBetter_14 rfl ?_
    refine B_iconst dX11_hasNoBetter_16 ic_3 ?_
    refine C_icmp_gt (tgt := 43) dX11_hasNoBetter_17 (by decide) (fun q6 => ?_) (fun q6 => ?_)
    · refine B_iconst dX11_hasNoBetter_43 ic_1 ?_
      exact B_zreturn dX11_hasNoBetter_44 rfl rfl rfl
    · refine B_aload_n dX11_hasNoBetter_20 rfl rfl ?_
      refine B_iload_n dX11_hasNoBetter_21 rfl rfl ?_
      refine B_iload dX11_hasNoBetter_22 rfl ?_
      refine B_iload_n dX11_hasNoBetter_24 rfl rfl ?_
      refine B_iload dX11_hasNoBetter_25 rfl ?_
      refine B_VI (st := []) dX11_hasNoBetter_27 cl_X11_336 (t_X11_has y1 y6 y3 y4 h) (Nat.le_of_ble_eq_true rfl) shC_0 rfl rfl (Nat.le_of_ble_eq_true rfl) (fun v3 h4 _ => ?_)
      refine B_iload dX11_hasNoBetter_30 rfl ?_
      refine C_icmp_le (tgt := 37) dX11_hasNoBetter_32 (by decide) (fun q5 => ?_) (fun q5 => ?_)
      · refine B_iinc (w := (y6 + 1)) (ls' := [.ref 0, .int y1, .null, .int y3, .int y4, .int y5, .int (y6 + 1)]) dX11_hasNoBetter_37 rfl (congrArg (fun z => y6 + z) ic_1) (Nat.le_of_ble_eq_true rfl) rfl rfl ?_
        refine B_goto (tgt := 14) dX11_hasNoBetter_40 (by decide) ?_
        exact ih y1 y3 y4 y5 (y6 + 1)  h4
      · refine B_iconst dX11_hasNoBetter_35 ic_0 ?_
        exact B_zreturn dX11_hasNoBetter_36 rfl rfl rfl
def f_X11_hasNoBetter (x1 : Int32) (x2 : Int32) (x3 : Int32) (x4 : Int32) (h : dH) : Option (Bool × dH) :=
  (f_X11_has x1 x2 x3 x4 h).bind fun rv1 =>
  f_X11_hasNoBetter_L14 dFu x1 x3 x4 rv1.1 0 rv1.2
set_option maxRecDepth 20000 in
set_option maxHeartbeats 4000000 in
theorem t_X11_hasNoBetter (x1 : Int32) (x2 : Int32) (x3 : Int32) (x4 : Int32) (h : dH) : T XC 5 yX11_hasNoBetter cX11_hasNoBetter 7 (some .boolean) fiC [.ref 0, .int x1, .int x2, .int x3, .int x4] h (f_X11_hasNoBetter x1 x2 x3 x4 h) := by
  refine T_of [.ref 0, .int x1, .int x2, .int x3, .int x4, .null, .null] (by decide) (fun _ => rfl) (fun _ => Nat.le_of_ble_eq_true rfl) ?_
  show B XC 5 RX11 cX11_hasNoBetter 7 (some .boolean) fiC 0 [.ref 0, .int x1, .int x2, .int x3, .int x4, .null, .null] [] h (f_X11_hasNoBetter x1 x2 x3 x4 h)
  unfold f_X11_hasNoBetter
  refine B_aload_n dX11_hasNoBetter_0 rfl rfl ?_
  refine B_iload_n dX11_hasNoBetter_1 rfl rfl ?_
  refine B_iload_n dX11_hasNoBetter_2 rfl rfl ?_
  refine B_iload_n dX11_hasNoBetter_3 rfl rfl ?_
  refine B_iload dX11_hasNoBetter_4 rfl ?_
  refine B_VI (st := []) dX11_hasNoBetter_6 cl_X11_336 (t_X11_has x1 x2 x3 x4 h) (Nat.le_of_ble_eq_true rfl) shC_0 rfl rfl (Nat.le_of_ble_eq_true rfl) (fun v1 h2 _ => ?_)
  refine B_istore (ls' := [.ref 0, .int x1, .int x2, .int x3, .int x4, .int v1, .null]) dX11_hasNoBetter_9 (Nat.le_of_ble_eq_true rfl) rfl rfl ?_
  refine B_iconst dX11_hasNoBetter_11 ic_0 ?_
  refine B_istore (ls' := [.ref 0, .int x1, .int x2, .int x3, .int x4, .int v1, .int 0]) dX11_hasNoBetter_12 (Nat.le_of_ble_eq_true rfl) rfl rfl ?_
  refine B_drop 2 (ls' := [.ref 0, .int x1, .null, .int x3, .int x4, .int v1, .int 0]) rfl ?_
  exact b_X11_hasNoBetter_L14 dFu x1 x3 x4 v1 0 h2
def f_X11_rests_J81 (kL22 : Int32 → Int32 → Int32 → Int32 → Int32 → dH → Option (Int32 × dH)) (kL31 : Int32 → Int32 → Int32 → Int32 → Int32 → Int32 → dH → Option (Int32 × dH)) (y1 : Int32) (y2 : Int32) (y3 : Int32) (y4 : Int32) (y5 : Int32) (y6 : Int32) (h : dH) : Option (Int32 × dH) :=
  kL31 y1 y2 y3 y4 y5 (y6 + 1) h
set_option maxRecDepth 20000 in
set_option maxHeartbeats 4000000 in
theorem b_X11_rests_J81 {kL22 : Int32 → Int32 → Int32 → Int32 → Int32 → dH → Option (Int32 × dH)} {kL31 : Int32 → Int32 → Int32 → Int32 → Int32 → Int32 → dH → Option (Int32 × dH)} (hkL22 : ∀ (y1 : Int32) (y2 : Int32) (y3 : Int32) (y4 : Int32) (y5 : Int32) (h : dH), B XC 6 RX11 cX11_rests 7 (some .int) fiI 22 [.ref 0, .int y1, .int y2, .int y3, .int y4, .int y5, .null] [] h (kL22 y1 y2 y3 y4 y5 h)) (hkL31 : ∀ (y1 : Int32) (y2 : Int32) (y3 : Int32) (y4 : Int32) (y5 : Int32) (y6 : Int32) (h : dH), B XC 6 RX11 cX11_rests 7 (some .int) fiI 31 [.ref 0, .int y1, .int y2, .int y3, .int y4, .int y5, .int y6] [] h (kL31 y1 y2 y3 y4 y5 y6 h)) (y1 : Int32) (y2 : Int32) (y3 : Int32) (y4 : Int32) (y5 : Int32) (y6 : Int32) (h : dH) : B XC 6 RX11 cX11_rests 7 (some .int) fiI 81 [.ref 0, .int y1, .int y2, .int y3, .int y4, .int y5, .int y6] [] h (f_X11_rests_J81 kL22 kL31 y1 y2 y3 y4 y5 y6 h) := by
  unfold f_X11_rests_J81
  refine B_iinc (w := (y6 + 1)) (ls' := [.ref 0, .int y1, .int y2, .int y3, .int y4, .int y5, .int (y6 + 1)]) dX11_rests_81 rfl (congrArg (fun z => y6 + z) ic_1) (Nat.le_of_ble_eq_true rfl) rfl rfl ?_
  refine B_goto (tgt := 31) dX11_rests_84 (by decide) ?_
  exact hkL31 y1 y2 y3 y4 y5 (y6 + 1)  h
def f_X11_rests_L31 (kL22 : Int32 → Int32 → Int32 → Int32 → Int32 → dH → Option (Int32 × dH)) : Nat → Int32 → Int32 → Int32 → Int32 → Int32 → Int32 → dH → Option (Int32 × dH)
  | 0, _, _, _, _, _, _, _ => none
  | n + 1, y1, y2, y3, y4, y5, y6, h =>
    if 3 < y6 then
    kL22 y1 y2 y3 y4 (y5 + 1) h
    else
    (f_X11_hasNoBetter y1 y5 y2 y6 h).bind fun rv5 =>
    if rv5.1 then
    (f_X11_hasNoBetter y2 y6 y1 y5 rv5.2).bind fun rv7 =>
    if rv7.1 then
    if y4 = y3 then
    some (((10 * y5) + y6), rv7.2)
    else
    f_X11_rests_J81 kL22 (f_X11_rests_L31 kL22 n) y1 y2 y3 (y4 + 1) y5 y6 rv7.2
    else
    f_X11_rests_J81 kL22 (f_X11_rests_L31 kL22 n) y1 y2 y3 y4 y5 y6 rv7.2
    else
    f_X11_rests_J81 kL22 (f_X11_rests_L31 kL22 n) y1 y2 y3 y4 y5 y6 rv5.2
set_option maxRecDepth 20000 in
set_option maxHeartbeats 4000000 in
theorem b_X11_rests_L31 {kL22 : Int32 → Int32 → Int32 → Int32 → Int32 → dH → Option (Int32 × dH)} (hkL22 : ∀ (y1 : Int32) (y2 : Int32) (y3 : Int32) (y4 : Int32) (y5 : Int32) (h : dH), B XC 6 RX11 cX11_rests 7 (some .int) fiI 22 [.ref 0, .int y1, .int y2, .int y3, .int y4, .int y5, .null] [] h (kL22 y1 y2 y3 y4 y5 h)) : ∀ (n : Nat) (y1 : Int32) (y2 : Int32) (y3 : Int32) (y4 : Int32) (y5 : Int32) (y6 : Int32) (h : dH), B XC 6 RX11 cX11_rests 7 (some .int) fiI 31 [.ref 0, .int y1, .int y2, .int y3, .int y4, .int y5, .int y6] [] h (f_X11_rests_L31 kL22 n y1 y2 y3 y4 y5 y6 h) := by
  intro n
  induction n with
  | zero =>
    intro y1 y2 y3 y4 y5 y6 h
    exact B_none
  | succ n ih =>
    intro y1 y2 y3 y4 y5 y6 h
    rw [f_X11_rests_L31]
    refine B_iload dX11_rests_31 rfl ?_
    refine B_iconst dX11_rests_33 ic_3 ?_
    refine C_icmp_gt (tgt := 87) dX11_rests_34 (by decide) (fun q12 => ?_) (fun q12 => ?_)
    · refine B_iinc (w := (y5 + 1)) (ls' := [.ref 0, .int y1, .int y2, .int y3, .int y4, .int (y5 + 1), .int y6]) dX11_rests_87 rfl (congrArg (fun z => y5 + z) ic_1) (Nat.le_of_ble_eq_true rfl) rfl rfl ?_
      refine B_goto (tgt := 22) dX11_rests_90 (by decide) ?_
      refine B_drop 6 (ls' := [.ref 0, .int y1, .int y2, .int y3, .int y4, .int (y5 + 1), .null]) rfl ?_
      exact hkL22 y1 y2 y3 y4 (y5 + 1)  h
    · refine B_aload_n dX11_rests_37 rfl rfl ?_
      refine B_iload_n dX11_rests_38 rfl rfl ?_
      refine B_iload dX11_rests_39 rfl ?_
      refine B_iload_n dX11_rests_41 rfl rfl ?_
      refine B_iload dX11_rests_42 rfl ?_
      refine B_VC (st := []) dX11_rests_44 cl_X11_344 (t_X11_hasNoBetter y1 y5 y2 y6 h) (Nat.le_of_ble_eq_true rfl) shC_0 rfl rfl (Nat.le_of_ble_eq_true rfl) (fun v5 h6 _ => ?_)
      refine C_ifb_eq (tgt := 81) dX11_rests_47 (by decide) (fun q11 => ?_) (fun q11 => ?_)
      · exact b_X11_rests_J81 hkL22 (fun qy1 qy2 qy3 qy4 qy5 qy6 qh => ih qy1 qy2 qy3 qy4 qy5 qy6 qh) y1 y2 y3 y4 y5 y6 h6
      · refine B_aload_n dX11_rests_50 rfl rfl ?_
        refine B_iload_n dX11_rests_51 rfl rfl ?_
        refine B_iload dX11_rests_52 rfl ?_
        refine B_iload_n dX11_rests_54 rfl rfl ?_
        refine B_iload dX11_rests_55 rfl ?_
        refine B_VC (st := []) dX11_rests_57 cl_X11_344 (t_X11_hasNoBetter y2 y6 y1 y5 h6) (Nat.le_of_ble_eq_true rfl) shC_0 rfl rfl (Nat.le_of_ble_eq_true rfl) (fun v7 h8 _ => ?_)
        refine C_ifb_eq (tgt := 81) dX11_rests_60 (by decide) (fun q10 => ?_) (fun q10 => ?_)
        · exact b_X11_rests_J81 hkL22 (fun qy1 qy2 qy3 qy4 qy5 qy6 qh => ih qy1 qy2 qy3 qy4 qy5 qy6 qh) y1 y2 y3 y4 y5 y6 h8
        · refine B_iload dX11_rests_63 rfl ?_
          refine B_iload_n dX11_rests_65 rfl rfl ?_
          refine C_icmp_ne (tgt := 78) dX11_rests_66 (by decide) (fun q9 => ?_) (fun q9 => ?_)
          · refine B_iinc (w := (y4 + 1)) (ls' := [.ref 0, .int y1, .int y2, .int y3, .int (y4 + 1), .int y5, .int y6]) dX11_rests_78 rfl (congrArg (fun z => y4 + z) ic_1) (Nat.le_of_ble_eq_true rfl) rfl rfl ?_
            exact b_X11_rests_J81 hkL22 (fun qy1 qy2 qy3 qy4 qy5 qy6 qh => ih qy1 qy2 qy3 qy4 qy5 qy6 qh) y1 y2 y3 (y4 + 1) y5 y6 h8
          · refine B_bipush dX11_rests_69 bp_10 ?_
            refine B_iload dX11_rests_71 rfl ?_
            refine B_imul dX11_rests_73 ?_
            refine B_iload dX11_rests_74 rfl ?_
            refine B_iadd dX11_rests_76 ?_
            exact B_ireturn dX11_rests_77 rfl rfl
def f_X11_rests_L22 : Nat → Int32 → Int32 → Int32 → Int32 → Int32 → dH → Option (Int32 × dH)
  | 0, _, _, _, _, _, _ => none
  | n + 1, y1, y2, y3, y4, y5, h =>
    if 3 < y5 then
    if y3 = (-1) then
    some (y4, h)
    else
    some ((-1), h)
    else
    f_X11_rests_L31 (f_X11_rests_L22 n) dFu y1 y2 y3 y4 y5 0 h
set_option maxRecDepth 20000 in
set_option maxHeartbeats 4000000 in
theorem b_X11_rests_L22 : ∀ (n : Nat) (y1 : Int32) (y2 : Int32) (y3 : Int32) (y4 : Int32) (y5 : Int32) (h : dH), B XC 6 RX11 cX11_rests 7 (some .int) fiI 22 [.ref 0, .int y1, .int y2, .int y3, .int y4, .int y5, .null] [] h (f_X11_rests_L22 n y1 y2 y3 y4 y5 h) := by
  intro n
  induction n with
  | zero =>
    intro y1 y2 y3 y4 y5 h
    exact B_none
  | succ n ih =>
    intro y1 y2 y3 y4 y5 h
    rw [f_X11_rests_L22]
    refine B_iload dX11_rests_22 rfl ?_
    refine B_iconst dX11_rests_24 ic_3 ?_
    refine C_icmp_gt (tgt := 93) dX11_rests_25 (by decide) (fun q4 => ?_) (fun q4 => ?_)
    · refine B_iload_n dX11_rests_93 rfl rfl ?_
      refine B_iconst dX11_rests_94 ic_m1 ?_
      refine C_icmp_ne (tgt := 103) dX11_rests_95 (by decide) (fun q3 => ?_) (fun q3 => ?_)
      · refine B_iconst dX11_rests_103 ic_m1 ?_
        exact B_ireturn dX11_rests_104 rfl rfl
      · refine B_iload dX11_rests_98 rfl ?_
        refine B_goto (tgt := 104) dX11_rests_100 (by decide) ?_
        exact B_ireturn dX11_rests_104 rfl rfl
    · refine B_iconst dX11_rests_28 ic_0 ?_
      refine B_istore (ls' := [.ref 0, .int y1, .int y2, .int y3, .int y4, .int y5, .int 0]) dX11_rests_29 (Nat.le_of_ble_eq_true rfl) rfl rfl ?_
      exact b_X11_rests_L31 (fun qy1 qy2 qy3 qy4 qy5 qh => ih qy1 qy2 qy3 qy4 qy5 qh) dFu y1 y2 y3 y4 y5 0 h
def f_X11_rests (x1 : Int32) (x2 : Int32) (x3 : Int32) (h : dH) : Option (Int32 × dH) :=
  if (f_X11_areTwo x1 x2 h) then
  if x3 < (-1) then
  some ((-1), h)
  else
  f_X11_rests_L22 dFu x1 x2 x3 0 0 h
  else
  some ((-1), h)
set_option maxRecDepth 20000 in
set_option maxHeartbeats 4000000 in
theorem t_X11_rests (x1 : Int32) (x2 : Int32) (x3 : Int32) (h : dH) : T XC 6 yX11_rests cX11_rests 7 (some .int) fiI [.ref 0, .int x1, .int x2, .int x3] h (f_X11_rests x1 x2 x3 h) := by
  refine T_of [.ref 0, .int x1, .int x2, .int x3, .null, .null, .null] (by decide) (fun _ => rfl) (fun _ => Nat.le_of_ble_eq_true rfl) ?_
  show B XC 6 RX11 cX11_rests 7 (some .int) fiI 0 [.ref 0, .int x1, .int x2, .int x3, .null, .null, .null] [] h (f_X11_rests x1 x2 x3 h)
  unfold f_X11_rests
  refine B_aload_n dX11_rests_0 rfl rfl ?_
  refine B_iload_n dX11_rests_1 rfl rfl ?_
  refine B_iload_n dX11_rests_2 rfl rfl ?_
  refine B_VTb (st := []) dX11_rests_3 cl_X11_330 (t_X11_areTwo x1 x2 h) (Nat.le_of_ble_eq_true rfl) shC_0 rfl rfl (Nat.le_of_ble_eq_true rfl) ?_
  refine C_ifb_eq (tgt := 14) dX11_rests_6 (by decide) (fun q2 => ?_) (fun q2 => ?_)
  · refine B_iconst dX11_rests_14 ic_m1 ?_
    exact B_ireturn dX11_rests_15 rfl rfl
  · refine B_iload_n dX11_rests_9 rfl rfl ?_
    refine B_iconst dX11_rests_10 ic_m1 ?_
    refine C_icmp_ge (tgt := 16) dX11_rests_11 (by decide) (fun q1 => ?_) (fun q1 => ?_)
    · refine B_iconst dX11_rests_16 ic_0 ?_
      refine B_istore (ls' := [.ref 0, .int x1, .int x2, .int x3, .int 0, .null, .null]) dX11_rests_17 (Nat.le_of_ble_eq_true rfl) rfl rfl ?_
      refine B_iconst dX11_rests_19 ic_0 ?_
      refine B_istore (ls' := [.ref 0, .int x1, .int x2, .int x3, .int 0, .int 0, .null]) dX11_rests_20 (Nat.le_of_ble_eq_true rfl) rfl rfl ?_
      exact b_X11_rests_L22 dFu x1 x2 x3 0 0 h
    · refine B_iconst dX11_rests_14 ic_m1 ?_
      exact B_ireturn dX11_rests_15 rfl rfl
def f_X11_cost (x1 : Int32) (h : dH) : Option (Int32) :=
  if (f_X1_isPlace 3 x1 h) then
  (f_X1_apart 3 (f_X8_place h) x1 h).bind fun v1 =>
  (f_X1_apart 3 (-1) x1 h).bind fun v2 =>
  some (v1 + v2)
  else
  some (-1)
set_option maxRecDepth 20000 in
set_option maxHeartbeats 4000000 in
theorem t_X11_cost (x1 : Int32) (h : dH) : T XC 1 yX11_cost cX11_cost 2 (some .int) (fiP h) [.ref 0, .int x1] h (f_X11_cost x1 h) := by
  refine T_of [.ref 0, .int x1] (by decide) (fun _ => rfl) (fun _ => Nat.le_of_ble_eq_true rfl) ?_
  show B XC 1 RX11 cX11_cost 2 (some .int) (fiP h) 0 [.ref 0, .int x1] [] h (f_X11_cost x1 h)
  unfold f_X11_cost
  refine B_aload_n dX11_cost_0 rfl rfl ?_
  refine B_getR dX11_cost_1 fl_X11_19 shC_0 rfl (rfC_0_1 _) ?_
  refine B_iload_n dX11_cost_4 rfl rfl ?_
  refine B_VTb (st := []) dX11_cost_5 cl_X11_164 (t_X1_isPlace 3 shC_3 x1 h) (Nat.le_of_ble_eq_true rfl) shC_3 rfl rfl (Nat.le_of_ble_eq_true rfl) ?_
  refine C_ifb_eq (tgt := 39) dX11_cost_8 (by decide) (fun q3 => ?_) (fun q3 => ?_)
  · refine B_iconst dX11_cost_39 ic_m1 ?_
    exact B_ireturn dX11_cost_40 rfl rfl
  · refine B_aload_n dX11_cost_11 rfl rfl ?_
    refine B_getR dX11_cost_12 fl_X11_19 shC_0 rfl (rfC_0_1 _) ?_
    refine B_aload_n dX11_cost_15 rfl rfl ?_
    refine B_getR dX11_cost_16 fl_X11_56 shC_0 rfl (rfC_0_6 _) ?_
    refine B_Vt (st := [.ref 3]) dX11_cost_19 cl_X11_190 (t_X8_place h) (Nat.le_of_ble_eq_true rfl) shC_66 rfl rfl (Nat.le_of_ble_eq_true rfl) ?_
    refine B_iload_n dX11_cost_22 rfl rfl ?_
    refine B_Vp (st := []) dX11_cost_23 cl_X11_193 (t_X1_apart 3 shC_3 (f_X8_place h) x1 h) (Nat.le_of_ble_eq_true rfl) shC_3 rfl rfl (Nat.le_of_ble_eq_true rfl) (fun v1 _ => ?_)
    refine B_aload_n dX11_cost_26 rfl rfl ?_
    refine B_getR dX11_cost_27 fl_X11_19 shC_0 rfl (rfC_0_1 _) ?_
    refine B_iconst dX11_cost_30 ic_m1 ?_
    refine B_iload_n dX11_cost_31 rfl rfl ?_
    refine B_Vp (st := [.int v1]) dX11_cost_32 cl_X11_193 (t_X1_apart 3 shC_3 (-1) x1 h) (Nat.le_of_ble_eq_true rfl) shC_3 rfl rfl (Nat.le_of_ble_eq_true rfl) (fun v2 _ => ?_)
    refine B_iadd dX11_cost_35 ?_
    refine B_goto (tgt := 40) dX11_cost_36 (by decide) ?_
    exact B_ireturn dX11_cost_40 rfl rfl
def f_X11_merit (x1 : Int32) (x2 : Int32) (h : dH) : Option (Int32) :=
  if x1 = 2 then
  (f_X8_patienceOf 66 x2 h).bind fun v2 =>
  (f_X8_troublesOf 66 x2 h).bind fun v3 =>
  some (v2 - v3)
  else
  if x1 = 3 then
  (f_X8_troublesOf 66 x2 h).bind fun v4 =>
  some v4
  else
  if x1 = 4 then
  (f_X1_toldOf 3 x2 3 h).bind fun v5 =>
  some v5
  else
  if x1 = 5 then
  (f_X1_apart 3 (-1) x2 h).bind fun v6 =>
  some v6
  else
  if x2 = (f_X8_place h) then
  some (-100)
  else
  (f_X1_apart 3 (f_X8_place h) x2 h).bind fun v7 =>
  some (-v7)
set_option maxRecDepth 20000 in
set_option maxHeartbeats 4000000 in
theorem t_X11_merit (x1 : Int32) (x2 : Int32) (h : dH) : T XC 2 yX11_merit cX11_merit 3 (some .int) (fiP h) [.ref 0, .int x1, .int x2] h (f_X11_merit x1 x2 h) := by
  refine T_of [.ref 0, .int x1, .int x2] (by decide) (fun _ => rfl) (fun _ => Nat.le_of_ble_eq_true rfl) ?_
  show B XC 2 RX11 cX11_merit 3 (some .int) (fiP h) 0 [.ref 0, .int x1, .int x2] [] h (f_X11_merit x1 x2 h)
  unfold f_X11_merit
  refine B_iload_n dX11_merit_0 rfl rfl ?_
  refine C_ite (fun n1_2 => ?_) (fun n1_2 => ?_)
  · refine B_tswIn (tgt := 32) dX11_merit_1 (by rw [n1_2]; decide) (by rw [n1_2]; decide) (by rw [n1_2]; decide) (by decide) ?_
    refine B_aload_n dX11_merit_32 rfl rfl ?_
    refine B_getR dX11_merit_33 fl_X11_56 shC_0 rfl (rfC_0_6 _) ?_
    refine B_iload_n dX11_merit_36 rfl rfl ?_
    refine B_Vp (st := []) dX11_merit_37 cl_X11_171 (t_X8_patienceOf 66 shC_66 x2 h) (Nat.le_of_ble_eq_true rfl) shC_66 rfl rfl (Nat.le_of_ble_eq_true rfl) (fun v2 _ => ?_)
    refine B_aload_n dX11_merit_40 rfl rfl ?_
    refine B_getR dX11_merit_41 fl_X11_56 shC_0 rfl (rfC_0_6 _) ?_
    refine B_iload_n dX11_merit_44 rfl rfl ?_
    refine B_Vp (st := [.int v2]) dX11_merit_45 cl_X11_174 (t_X8_troublesOf 66 shC_66 x2 h) (Nat.le_of_ble_eq_true rfl) shC_66 rfl rfl (Nat.le_of_ble_eq_true rfl) (fun v3 _ => ?_)
    refine B_isub dX11_merit_48 ?_
    exact B_ireturn dX11_merit_49 rfl rfl
  · refine C_ite (fun n1_3 => ?_) (fun n1_3 => ?_)
    · refine B_tswIn (tgt := 50) dX11_merit_1 (by rw [n1_3]; decide) (by rw [n1_3]; decide) (by rw [n1_3]; decide) (by decide) ?_
      refine B_aload_n dX11_merit_50 rfl rfl ?_
      refine B_getR dX11_merit_51 fl_X11_56 shC_0 rfl (rfC_0_6 _) ?_
      refine B_iload_n dX11_merit_54 rfl rfl ?_
      refine B_Vp (st := []) dX11_merit_55 cl_X11_174 (t_X8_troublesOf 66 shC_66 x2 h) (Nat.le_of_ble_eq_true rfl) shC_66 rfl rfl (Nat.le_of_ble_eq_true rfl) (fun v4 _ => ?_)
      exact B_ireturn dX11_merit_58 rfl rfl
    · refine C_ite (fun n1_4 => ?_) (fun n1_4 => ?_)
      · refine B_tswIn (tgt := 59) dX11_merit_1 (by rw [n1_4]; decide) (by rw [n1_4]; decide) (by rw [n1_4]; decide) (by decide) ?_
        refine B_aload_n dX11_merit_59 rfl rfl ?_
        refine B_getR dX11_merit_60 fl_X11_19 shC_0 rfl (rfC_0_1 _) ?_
        refine B_iload_n dX11_merit_63 rfl rfl ?_
        refine B_iconst dX11_merit_64 ic_3 ?_
        refine B_Vp (st := []) dX11_merit_65 cl_X11_180 (t_X1_toldOf 3 shC_3 x2 3 h) (Nat.le_of_ble_eq_true rfl) shC_3 rfl rfl (Nat.le_of_ble_eq_true rfl) (fun v5 _ => ?_)
        exact B_ireturn dX11_merit_68 rfl rfl
      · refine C_ite (fun n1_5 => ?_) (fun n1_5 => ?_)
        · refine B_tswIn (tgt := 69) dX11_merit_1 (by rw [n1_5]; decide) (by rw [n1_5]; decide) (by rw [n1_5]; decide) (by decide) ?_
          refine B_aload_n dX11_merit_69 rfl rfl ?_
          refine B_getR dX11_merit_70 fl_X11_19 shC_0 rfl (rfC_0_1 _) ?_
          refine B_iconst dX11_merit_73 ic_m1 ?_
          refine B_iload_n dX11_merit_74 rfl rfl ?_
          refine B_Vp (st := []) dX11_merit_75 cl_X11_193 (t_X1_apart 3 shC_3 (-1) x2 h) (Nat.le_of_ble_eq_true rfl) shC_3 rfl rfl (Nat.le_of_ble_eq_true rfl) (fun v6 _ => ?_)
          exact B_ireturn dX11_merit_78 rfl rfl
        · refine B_tswOut (tgt := 79) dX11_merit_1 (dsw (fun c h1 h2 => ?_)) (by decide) ?_
          · rcases (show c = 2 ∨ c = 3 ∨ c = 4 ∨ c = 5 by omega) with rfl | rfl | rfl | rfl
            · exact n1_2
            · exact n1_3
            · exact n1_4
            · exact n1_5
          · refine B_iload_n dX11_merit_79 rfl rfl ?_
            refine B_aload_n dX11_merit_80 rfl rfl ?_
            refine B_getR dX11_merit_81 fl_X11_56 shC_0 rfl (rfC_0_6 _) ?_
            refine B_Vt (st := [.int x2]) dX11_merit_84 cl_X11_190 (t_X8_place h) (Nat.le_of_ble_eq_true rfl) shC_66 rfl rfl (Nat.le_of_ble_eq_true rfl) ?_
            refine C_icmp_ne (tgt := 95) dX11_merit_87 (by decide) (fun q8 => ?_) (fun q8 => ?_)
            · refine B_aload_n dX11_merit_95 rfl rfl ?_
              refine B_getR dX11_merit_96 fl_X11_19 shC_0 rfl (rfC_0_1 _) ?_
              refine B_aload_n dX11_merit_99 rfl rfl ?_
              refine B_getR dX11_merit_100 fl_X11_56 shC_0 rfl (rfC_0_6 _) ?_
              refine B_Vt (st := [.ref 3]) dX11_merit_103 cl_X11_190 (t_X8_place h) (Nat.le_of_ble_eq_true rfl) shC_66 rfl rfl (Nat.le_of_ble_eq_true rfl) ?_
              refine B_iload_n dX11_merit_106 rfl rfl ?_
              refine B_Vp (st := []) dX11_merit_107 cl_X11_193 (t_X1_apart 3 shC_3 (f_X8_place h) x2 h) (Nat.le_of_ble_eq_true rfl) shC_3 rfl rfl (Nat.le_of_ble_eq_true rfl) (fun v7 _ => ?_)
              refine B_ineg dX11_merit_110 ?_
              exact B_ireturn dX11_merit_111 rfl rfl
            · refine B_bipush dX11_merit_90 bp_m100 ?_
              refine B_goto (tgt := 111) dX11_merit_92 (by decide) ?_
              exact B_ireturn dX11_merit_111 rfl rfl
def f_X11_placeWithMost_J32 (kL4 : Int32 → Int32 → Int32 → Option (Int32)) (y1 : Int32) (y2 : Int32) (y3 : Int32) (h : dH) : Option (Int32) :=
  kL4 y1 y2 (y3 + 1)
set_option maxRecDepth 20000 in
set_option maxHeartbeats 4000000 in
theorem b_X11_placeWithMost_J32 {kL4 : Int32 → Int32 → Int32 → Option (Int32)} (h : dH) (hkL4 : ∀ (y1 : Int32) (y2 : Int32) (y3 : Int32), B XC 3 RX11 cX11_placeWithMost 4 (some .int) (fiP h) 4 [.ref 0, .int y1, .int y2, .int y3] [] h (kL4 y1 y2 y3)) (y1 : Int32) (y2 : Int32) (y3 : Int32) : B XC 3 RX11 cX11_placeWithMost 4 (some .int) (fiP h) 32 [.ref 0, .int y1, .int y2, .int y3] [] h (f_X11_placeWithMost_J32 kL4 y1 y2 y3 h) := by
  unfold f_X11_placeWithMost_J32
  refine B_iinc (w := (y3 + 1)) (ls' := [.ref 0, .int y1, .int y2, .int (y3 + 1)]) dX11_placeWithMost_32 rfl (congrArg (fun z => y3 + z) ic_1) (Nat.le_of_ble_eq_true rfl) rfl rfl ?_
  refine B_goto (tgt := 4) dX11_placeWithMost_35 (by decide) ?_
  exact hkL4 y1 y2 (y3 + 1)  
def f_X11_placeWithMost_L4 (h : dH) : Nat → Int32 → Int32 → Int32 → Option (Int32)
  | 0, _, _, _ => none
  | n + 1, y1, y2, y3 =>
    if y3 < (h.1 3 2) then
    (f_X11_merit y1 y3 h).bind fun v1 =>
    (f_X11_merit y1 y2 h).bind fun v2 =>
    if v2 < v1 then
    f_X11_placeWithMost_J32 (f_X11_placeWithMost_L4 h n) y1 y3 y3 h
    else
    f_X11_placeWithMost_J32 (f_X11_placeWithMost_L4 h n) y1 y2 y3 h
    else
    some y2
set_option maxRecDepth 20000 in
set_option maxHeartbeats 4000000 in
theorem b_X11_placeWithMost_L4 (h : dH) : ∀ (n : Nat) (y1 : Int32) (y2 : Int32) (y3 : Int32), B XC 3 RX11 cX11_placeWithMost 4 (some .int) (fiP h) 4 [.ref 0, .int y1, .int y2, .int y3] [] h (f_X11_placeWithMost_L4 h n y1 y2 y3) := by
  intro n
  induction n with
  | zero =>
    intro y1 y2 y3
    exact B_none
  | succ n ih =>
    intro y1 y2 y3
    rw [f_X11_placeWithMost_L4]
    refine B_iload_n dX11_placeWithMost_4 rfl rfl ?_
    refine B_aload_n dX11_placeWithMost_5 rfl rfl ?_
    refine B_getR dX11_placeWithMost_6 fl_X11_19 shC_0 rfl (rfC_0_1 _) ?_
    refine B_getI dX11_placeWithMost_9 fl_X11_154 shC_3 rfl ?_
    refine C_icmp_ge (tgt := 38) dX11_placeWithMost_12 (by decide) (fun q4 => ?_) (fun q4 => ?_)
    · refine B_iload_n dX11_placeWithMost_38 rfl rfl ?_
      exact B_ireturn dX11_placeWithMost_39 rfl rfl
    · refine B_aload_n dX11_placeWithMost_15 rfl rfl ?_
      refine B_iload_n dX11_placeWithMost_16 rfl rfl ?_
      refine B_iload_n dX11_placeWithMost_17 rfl rfl ?_
      refine B_Vp (st := []) dX11_placeWithMost_18 cl_X11_365 (t_X11_merit y1 y3 h) (Nat.le_of_ble_eq_true rfl) shC_0 rfl rfl (Nat.le_of_ble_eq_true rfl) (fun v1 _ => ?_)
      refine B_aload_n dX11_placeWithMost_21 rfl rfl ?_
      refine B_iload_n dX11_placeWithMost_22 rfl rfl ?_
      refine B_iload_n dX11_placeWithMost_23 rfl rfl ?_
      refine B_Vp (st := [.int v1]) dX11_placeWithMost_24 cl_X11_365 (t_X11_merit y1 y2 h) (Nat.le_of_ble_eq_true rfl) shC_0 rfl rfl (Nat.le_of_ble_eq_true rfl) (fun v2 _ => ?_)
      refine C_icmp_le (tgt := 32) dX11_placeWithMost_27 (by decide) (fun q3 => ?_) (fun q3 => ?_)
      · exact b_X11_placeWithMost_J32 h (fun qy1 qy2 qy3 => ih qy1 qy2 qy3) y1 y2 y3
      · refine B_iload_n dX11_placeWithMost_30 rfl rfl ?_
        refine B_istore_n (ls' := [.ref 0, .int y1, .int y3, .int y3]) dX11_placeWithMost_31 rfl (Nat.le_of_ble_eq_true rfl) rfl rfl ?_
        exact b_X11_placeWithMost_J32 h (fun qy1 qy2 qy3 => ih qy1 qy2 qy3) y1 y3 y3
def f_X11_placeWithMost (x1 : Int32) (h : dH) : Option (Int32) :=
  f_X11_placeWithMost_L4 h dFu x1 0 1
set_option maxRecDepth 20000 in
set_option maxHeartbeats 4000000 in
theorem t_X11_placeWithMost (x1 : Int32) (h : dH) : T XC 3 yX11_placeWithMost cX11_placeWithMost 4 (some .int) (fiP h) [.ref 0, .int x1] h (f_X11_placeWithMost x1 h) := by
  refine T_of [.ref 0, .int x1, .null, .null] (by decide) (fun _ => rfl) (fun _ => Nat.le_of_ble_eq_true rfl) ?_
  show B XC 3 RX11 cX11_placeWithMost 4 (some .int) (fiP h) 0 [.ref 0, .int x1, .null, .null] [] h (f_X11_placeWithMost x1 h)
  unfold f_X11_placeWithMost
  refine B_iconst dX11_placeWithMost_0 ic_0 ?_
  refine B_istore_n (ls' := [.ref 0, .int x1, .int 0, .null]) dX11_placeWithMost_1 rfl (Nat.le_of_ble_eq_true rfl) rfl rfl ?_
  refine B_iconst dX11_placeWithMost_2 ic_1 ?_
  refine B_istore_n (ls' := [.ref 0, .int x1, .int 0, .int 1]) dX11_placeWithMost_3 rfl (Nat.le_of_ble_eq_true rfl) rfl rfl ?_
  exact b_X11_placeWithMost_L4 h dFu x1 0 1
def f_X11_all (x1 : Int32) (h : dH) : Option (Int32) :=
  if (f_X1_isThere h) then
  if x1 = 0 then
  some (f_X8_secrets h)
  else
  if x1 = 1 then
  (f_X8_tooMuch h).bind fun v2 =>
  some v2
  else
  if x1 = 2 then
  (f_X11_placeWithMost x1 h).bind fun v3 =>
  some v3
  else
  if x1 = 3 then
  (f_X11_placeWithMost x1 h).bind fun v4 =>
  some v4
  else
  if x1 = 4 then
  (f_X11_placeWithMost x1 h).bind fun v5 =>
  some v5
  else
  if x1 = 5 then
  (f_X11_placeWithMost x1 h).bind fun v6 =>
  some v6
  else
  if x1 = 6 then
  (f_X11_placeWithMost x1 h).bind fun v7 =>
  some v7
  else
  if x1 = 7 then
  (f_X8_reach h).bind fun v8 =>
  some v8
  else
  if x1 = 8 then
  some ((h.1 4 0) - (f_X8_tired h))
  else
  if x1 = 9 then
  (f_X1_spread h).bind fun v9 =>
  some v9
  else
  some (-1)
  else
  some (-1)
set_option maxRecDepth 20000 in
set_option maxHeartbeats 4000000 in
theorem t_X11_all (x1 : Int32) (h : dH) : T XC 4 yX11_all cX11_all 2 (some .int) (fiP h) [.ref 0, .int x1] h (f_X11_all x1 h) := by
  refine T_of [.ref 0, .int x1] (by decide) (fun _ => rfl) (fun _ => Nat.le_of_ble_eq_true rfl) ?_
  show B XC 4 RX11 cX11_all 2 (some .int) (fiP h) 0 [.ref 0, .int x1] [] h (f_X11_all x1 h)
  unfold f_X11_all
  refine B_aload_n dX11_all_0 rfl rfl ?_
  refine B_getR dX11_all_1 fl_X11_19 shC_0 rfl (rfC_0_1 _) ?_
  refine B_VTb (st := []) dX11_all_4 cl_X11_157 (t_X1_isThere h) (Nat.le_of_ble_eq_true rfl) shC_3 rfl rfl (Nat.le_of_ble_eq_true rfl) ?_
  refine C_ifb_ne (tgt := 12) dX11_all_7 (by decide) (fun q10 => ?_) (fun q10 => ?_)
  · refine B_iload_n dX11_all_12 rfl rfl ?_
    refine C_ite (fun n1_0 => ?_) (fun n1_0 => ?_)
    · refine B_tswIn (tgt := 68) dX11_all_13 (by rw [n1_0]; decide) (by rw [n1_0]; decide) (by rw [n1_0]; decide) (by decide) ?_
      refine B_aload_n dX11_all_68 rfl rfl ?_
      refine B_getR dX11_all_69 fl_X11_56 shC_0 rfl (rfC_0_6 _) ?_
      refine B_Vt (st := []) dX11_all_72 cl_X11_347 (t_X8_secrets h) (Nat.le_of_ble_eq_true rfl) shC_66 rfl rfl (Nat.le_of_ble_eq_true rfl) ?_
      exact B_ireturn dX11_all_75 rfl rfl
    · refine C_ite (fun n1_1 => ?_) (fun n1_1 => ?_)
      · refine B_tswIn (tgt := 76) dX11_all_13 (by rw [n1_1]; decide) (by rw [n1_1]; decide) (by rw [n1_1]; decide) (by decide) ?_
        refine B_aload_n dX11_all_76 rfl rfl ?_
        refine B_getR dX11_all_77 fl_X11_56 shC_0 rfl (rfC_0_6 _) ?_
        refine B_Vp (st := []) dX11_all_80 cl_X11_350 (t_X8_tooMuch h) (Nat.le_of_ble_eq_true rfl) shC_66 rfl rfl (Nat.le_of_ble_eq_true rfl) (fun v2 _ => ?_)
        exact B_ireturn dX11_all_83 rfl rfl
      · refine C_ite (fun n1_2 => ?_) (fun n1_2 => ?_)
        · refine B_tswIn (tgt := 84) dX11_all_13 (by rw [n1_2]; decide) (by rw [n1_2]; decide) (by rw [n1_2]; decide) (by decide) ?_
          refine B_aload_n dX11_all_84 rfl rfl ?_
          refine B_iload_n dX11_all_85 rfl rfl ?_
          refine B_Vp (st := []) dX11_all_86 cl_X11_353 (t_X11_placeWithMost x1 h) (Nat.le_of_ble_eq_true rfl) shC_0 rfl rfl (Nat.le_of_ble_eq_true rfl) (fun v3 _ => ?_)
          exact B_ireturn dX11_all_89 rfl rfl
        · refine C_ite (fun n1_3 => ?_) (fun n1_3 => ?_)
          · refine B_tswIn (tgt := 84) dX11_all_13 (by rw [n1_3]; decide) (by rw [n1_3]; decide) (by rw [n1_3]; decide) (by decide) ?_
            refine B_aload_n dX11_all_84 rfl rfl ?_
            refine B_iload_n dX11_all_85 rfl rfl ?_
            refine B_Vp (st := []) dX11_all_86 cl_X11_353 (t_X11_placeWithMost x1 h) (Nat.le_of_ble_eq_true rfl) shC_0 rfl rfl (Nat.le_of_ble_eq_true rfl) (fun v4 _ => ?_)
            exact B_ireturn dX11_all_89 rfl rfl
          · refine C_ite (fun n1_4 => ?_) (fun n1_4 => ?_)
            · refine B_tswIn (tgt := 84) dX11_all_13 (by rw [n1_4]; decide) (by rw [n1_4]; decide) (by rw [n1_4]; decide) (by decide) ?_
              refine B_aload_n dX11_all_84 rfl rfl ?_
              refine B_iload_n dX11_all_85 rfl rfl ?_
              refine B_Vp (st := []) dX11_all_86 cl_X11_353 (t_X11_placeWithMost x1 h) (Nat.le_of_ble_eq_true rfl) shC_0 rfl rfl (Nat.le_of_ble_eq_true rfl) (fun v5 _ => ?_)
              exact B_ireturn dX11_all_89 rfl rfl
            · refine C_ite (fun n1_5 => ?_) (fun n1_5 => ?_)
              · refine B_tswIn (tgt := 84) dX11_all_13 (by rw [n1_5]; decide) (by rw [n1_5]; decide) (by rw [n1_5]; decide) (by decide) ?_
                refine B_aload_n dX11_all_84 rfl rfl ?_
                refine B_iload_n dX11_all_85 rfl rfl ?_
                refine B_Vp (st := []) dX11_all_86 cl_X11_353 (t_X11_placeWithMost x1 h) (Nat.le_of_ble_eq_true rfl) shC_0 rfl rfl (Nat.le_of_ble_eq_true rfl) (fun v6 _ => ?_)
                exact B_ireturn dX11_all_89 rfl rfl
              · refine C_ite (fun n1_6 => ?_) (fun n1_6 => ?_)
                · refine B_tswIn (tgt := 84) dX11_all_13 (by rw [n1_6]; decide) (by rw [n1_6]; decide) (by rw [n1_6]; decide) (by decide) ?_
                  refine B_aload_n dX11_all_84 rfl rfl ?_
                  refine B_iload_n dX11_all_85 rfl rfl ?_
                  refine B_Vp (st := []) dX11_all_86 cl_X11_353 (t_X11_placeWithMost x1 h) (Nat.le_of_ble_eq_true rfl) shC_0 rfl rfl (Nat.le_of_ble_eq_true rfl) (fun v7 _ => ?_)
                  exact B_ireturn dX11_all_89 rfl rfl
                · refine C_ite (fun n1_7 => ?_) (fun n1_7 => ?_)
                  · refine B_tswIn (tgt := 90) dX11_all_13 (by rw [n1_7]; decide) (by rw [n1_7]; decide) (by rw [n1_7]; decide) (by decide) ?_
                    refine B_aload_n dX11_all_90 rfl rfl ?_
                    refine B_getR dX11_all_91 fl_X11_56 shC_0 rfl (rfC_0_6 _) ?_
                    refine B_Vp (st := []) dX11_all_94 cl_X11_356 (t_X8_reach h) (Nat.le_of_ble_eq_true rfl) shC_66 rfl rfl (Nat.le_of_ble_eq_true rfl) (fun v8 _ => ?_)
                    exact B_ireturn dX11_all_97 rfl rfl
                  · refine C_ite (fun n1_8 => ?_) (fun n1_8 => ?_)
                    · refine B_tswIn (tgt := 98) dX11_all_13 (by rw [n1_8]; decide) (by rw [n1_8]; decide) (by rw [n1_8]; decide) (by decide) ?_
                      refine B_aload_n dX11_all_98 rfl rfl ?_
                      refine B_getR dX11_all_99 fl_X11_19 shC_0 rfl (rfC_0_1 _) ?_
                      refine B_getR dX11_all_102 fl_X11_161 shC_3 rfl (rfC_3_0 _) ?_
                      refine B_iconst dX11_all_105 ic_0 ?_
                      refine L_iald dX11_all_106 shC_4 (by decide) di_0 ?_
                      refine B_aload_n dX11_all_107 rfl rfl ?_
                      refine B_getR dX11_all_108 fl_X11_56 shC_0 rfl (rfC_0_6 _) ?_
                      refine B_Vt (st := [.int (h.1 4 0)]) dX11_all_111 cl_X11_359 (t_X8_tired h) (Nat.le_of_ble_eq_true rfl) shC_66 rfl rfl (Nat.le_of_ble_eq_true rfl) ?_
                      refine B_isub dX11_all_114 ?_
                      exact B_ireturn dX11_all_115 rfl rfl
                    · refine C_ite (fun n1_9 => ?_) (fun n1_9 => ?_)
                      · refine B_tswIn (tgt := 116) dX11_all_13 (by rw [n1_9]; decide) (by rw [n1_9]; decide) (by rw [n1_9]; decide) (by decide) ?_
                        refine B_aload_n dX11_all_116 rfl rfl ?_
                        refine B_getR dX11_all_117 fl_X11_19 shC_0 rfl (rfC_0_1 _) ?_
                        refine B_Vp (st := []) dX11_all_120 cl_X11_362 (t_X1_spread h) (Nat.le_of_ble_eq_true rfl) shC_3 rfl rfl (Nat.le_of_ble_eq_true rfl) (fun v9 _ => ?_)
                        exact B_ireturn dX11_all_123 rfl rfl
                      · refine B_tswOut (tgt := 124) dX11_all_13 (dsw (fun c h1 h2 => ?_)) (by decide) ?_
                        · rcases (show c = 0 ∨ c = 1 ∨ c = 2 ∨ c = 3 ∨ c = 4 ∨ c = 5 ∨ c = 6 ∨ c = 7 ∨ c = 8 ∨ c = 9 by omega) with rfl | rfl | rfl | rfl | rfl | rfl | rfl | rfl | rfl | rfl
                          · exact n1_0
                          · exact n1_1
                          · exact n1_2
                          · exact n1_3
                          · exact n1_4
                          · exact n1_5
                          · exact n1_6
                          · exact n1_7
                          · exact n1_8
                          · exact n1_9
                        · refine B_iconst dX11_all_124 ic_m1 ?_
                          exact B_ireturn dX11_all_125 rfl rfl
  · refine B_iconst dX11_all_10 ic_m1 ?_
    exact B_ireturn dX11_all_11 rfl rfl
def f_X11_kinds (x1 : Int32) (h : dH) : Option (Int32) :=
  if (f_X1_isThere h) then
  if x1 < 0 then
  some (-1)
  else
  if x1 < 4 then
  (f_X1_ofKind x1 h).bind fun v1 =>
  some v1
  else
  some (-1)
  else
  some (-1)
set_option maxRecDepth 20000 in
set_option maxHeartbeats 4000000 in
theorem t_X11_kinds (x1 : Int32) (h : dH) : T XC 3 yX11_kinds cX11_kinds 2 (some .int) (fiP h) [.ref 0, .int x1] h (f_X11_kinds x1 h) := by
  refine T_of [.ref 0, .int x1] (by decide) (fun _ => rfl) (fun _ => Nat.le_of_ble_eq_true rfl) ?_
  show B XC 3 RX11 cX11_kinds 2 (some .int) (fiP h) 0 [.ref 0, .int x1] [] h (f_X11_kinds x1 h)
  unfold f_X11_kinds
  refine B_aload_n dX11_kinds_0 rfl rfl ?_
  refine B_getR dX11_kinds_1 fl_X11_19 shC_0 rfl (rfC_0_1 _) ?_
  refine B_VTb (st := []) dX11_kinds_4 cl_X11_157 (t_X1_isThere h) (Nat.le_of_ble_eq_true rfl) shC_3 rfl rfl (Nat.le_of_ble_eq_true rfl) ?_
  refine C_ifb_eq (tgt := 30) dX11_kinds_7 (by decide) (fun q4 => ?_) (fun q4 => ?_)
  · refine B_iconst dX11_kinds_30 ic_m1 ?_
    exact B_ireturn dX11_kinds_31 rfl rfl
  · refine B_iload_n dX11_kinds_10 rfl rfl ?_
    refine C_if_lt (tgt := 30) dX11_kinds_11 (by decide) (fun q3 => ?_) (fun q3 => ?_)
    · refine B_iconst dX11_kinds_30 ic_m1 ?_
      exact B_ireturn dX11_kinds_31 rfl rfl
    · refine B_iload_n dX11_kinds_14 rfl rfl ?_
      refine B_iconst dX11_kinds_15 ic_4 ?_
      refine C_icmp_ge (tgt := 30) dX11_kinds_16 (by decide) (fun q2 => ?_) (fun q2 => ?_)
      · refine B_iconst dX11_kinds_30 ic_m1 ?_
        exact B_ireturn dX11_kinds_31 rfl rfl
      · refine B_aload_n dX11_kinds_19 rfl rfl ?_
        refine B_getR dX11_kinds_20 fl_X11_19 shC_0 rfl (rfC_0_1 _) ?_
        refine B_iload_n dX11_kinds_23 rfl rfl ?_
        refine B_Vp (st := []) dX11_kinds_24 cl_X11_368 (t_X1_ofKind x1 h) (Nat.le_of_ble_eq_true rfl) shC_3 rfl rfl (Nat.le_of_ble_eq_true rfl) (fun v1 _ => ?_)
        refine B_goto (tgt := 31) dX11_kinds_27 (by decide) ?_
        exact B_ireturn dX11_kinds_31 rfl rfl
def f_X11_calm_L15 (h : dH) : Nat → Int32 → Int32 → Option (Int32)
  | 0, _, _ => none
  | n + 1, y1, y2 =>
    if 60 < y2 then
    some (-1)
    else
    (f_X8_troublesOf 66 y1 h).bind fun v2 =>
    (f_X8_patienceOf 66 y1 h).bind fun v3 =>
    if v3 < (v2 - (y2 * (h.1 4 2))) then
    (f_X11_calm_L15 h n) y1 (y2 + 1)
    else
    some y2
set_option maxRecDepth 20000 in
set_option maxHeartbeats 4000000 in
theorem b_X11_calm_L15 (h : dH) : ∀ (n : Nat) (y1 : Int32) (y2 : Int32), B XC 2 RX11 cX11_calm 3 (some .int) (fiP h) 15 [.ref 0, .int y1, .int y2] [] h (f_X11_calm_L15 h n y1 y2) := by
  intro n
  induction n with
  | zero =>
    intro y1 y2
    exact B_none
  | succ n ih =>
    intro y1 y2
    rw [f_X11_calm_L15]
    refine B_iload_n dX11_calm_15 rfl rfl ?_
    refine B_bipush dX11_calm_16 bp_60 ?_
    refine C_icmp_gt (tgt := 60) dX11_calm_18 (by decide) (fun q5 => ?_) (fun q5 => ?_)
    · refine B_iconst dX11_calm_60 ic_m1 ?_
      exact B_ireturn dX11_calm_61 rfl rfl
    · refine B_aload_n dX11_calm_21 rfl rfl ?_
      refine B_getR dX11_calm_22 fl_X11_56 shC_0 rfl (rfC_0_6 _) ?_
      refine B_iload_n dX11_calm_25 rfl rfl ?_
      refine B_Vp (st := []) dX11_calm_26 cl_X11_174 (t_X8_troublesOf 66 shC_66 y1 h) (Nat.le_of_ble_eq_true rfl) shC_66 rfl rfl (Nat.le_of_ble_eq_true rfl) (fun v2 _ => ?_)
      refine B_iload_n dX11_calm_29 rfl rfl ?_
      refine B_aload_n dX11_calm_30 rfl rfl ?_
      refine B_getR dX11_calm_31 fl_X11_19 shC_0 rfl (rfC_0_1 _) ?_
      refine B_getR dX11_calm_34 fl_X11_161 shC_3 rfl (rfC_3_0 _) ?_
      refine B_iconst dX11_calm_37 ic_2 ?_
      refine L_iald dX11_calm_38 shC_4 (by decide) di_2 ?_
      refine B_imul dX11_calm_39 ?_
      refine B_isub dX11_calm_40 ?_
      refine B_aload_n dX11_calm_41 rfl rfl ?_
      refine B_getR dX11_calm_42 fl_X11_56 shC_0 rfl (rfC_0_6 _) ?_
      refine B_iload_n dX11_calm_45 rfl rfl ?_
      refine B_Vp (st := [.int (v2 - (y2 * (h.1 4 2)))]) dX11_calm_46 cl_X11_171 (t_X8_patienceOf 66 shC_66 y1 h) (Nat.le_of_ble_eq_true rfl) shC_66 rfl rfl (Nat.le_of_ble_eq_true rfl) (fun v3 _ => ?_)
      refine C_icmp_gt (tgt := 54) dX11_calm_49 (by decide) (fun q4 => ?_) (fun q4 => ?_)
      · refine B_iinc (w := (y2 + 1)) (ls' := [.ref 0, .int y1, .int (y2 + 1)]) dX11_calm_54 rfl (congrArg (fun z => y2 + z) ic_1) (Nat.le_of_ble_eq_true rfl) rfl rfl ?_
        refine B_goto (tgt := 15) dX11_calm_57 (by decide) ?_
        exact ih y1 (y2 + 1)  
      · refine B_iload_n dX11_calm_52 rfl rfl ?_
        exact B_ireturn dX11_calm_53 rfl rfl
def f_X11_calm (x1 : Int32) (h : dH) : Option (Int32) :=
  if (f_X1_isPlace 3 x1 h) then
  f_X11_calm_L15 h dFu x1 0
  else
  some (-1)
set_option maxRecDepth 20000 in
set_option maxHeartbeats 4000000 in
theorem t_X11_calm (x1 : Int32) (h : dH) : T XC 2 yX11_calm cX11_calm 3 (some .int) (fiP h) [.ref 0, .int x1] h (f_X11_calm x1 h) := by
  refine T_of [.ref 0, .int x1, .null] (by decide) (fun _ => rfl) (fun _ => Nat.le_of_ble_eq_true rfl) ?_
  show B XC 2 RX11 cX11_calm 3 (some .int) (fiP h) 0 [.ref 0, .int x1, .null] [] h (f_X11_calm x1 h)
  unfold f_X11_calm
  refine B_aload_n dX11_calm_0 rfl rfl ?_
  refine B_getR dX11_calm_1 fl_X11_19 shC_0 rfl (rfC_0_1 _) ?_
  refine B_iload_n dX11_calm_4 rfl rfl ?_
  refine B_VTb (st := []) dX11_calm_5 cl_X11_164 (t_X1_isPlace 3 shC_3 x1 h) (Nat.le_of_ble_eq_true rfl) shC_3 rfl rfl (Nat.le_of_ble_eq_true rfl) ?_
  refine C_ifb_ne (tgt := 13) dX11_calm_8 (by decide) (fun q1 => ?_) (fun q1 => ?_)
  · refine B_iconst dX11_calm_13 ic_0 ?_
    refine B_istore_n (ls' := [.ref 0, .int x1, .int 0]) dX11_calm_14 rfl (Nat.le_of_ble_eq_true rfl) rfl rfl ?_
    exact b_X11_calm_L15 h dFu x1 0
  · refine B_iconst dX11_calm_11 ic_m1 ?_
    exact B_ireturn dX11_calm_12 rfl rfl
def f_X11_image (h : dH) : Option (Int32 × dH) :=
  if (f_X1_isThere h) then
  (f_X8_saveTo 74 28 0 h).bind fun h2 =>
  (f_X4_copyFrom 75 72 h2).bind fun h4 =>
  (some (dPut h4 0 15 1)).bind fun h5 =>
  some ((f_X8_daysGone h5), h5)
  else
  some ((-1), h)
set_option maxRecDepth 20000 in
set_option maxHeartbeats 4000000 in
theorem t_X11_image (h : dH) : T XC 2 yX11_image cX11_image 1 (some .int) fiI [.ref 0] h (f_X11_image h) := by
  refine T_of [.ref 0] (by decide) (fun _ => rfl) (fun _ => Nat.le_of_ble_eq_true rfl) ?_
  show B XC 2 RX11 cX11_image 1 (some .int) fiI 0 [.ref 0] [] h (f_X11_image h)
  unfold f_X11_image
  refine B_aload_n dX11_image_0 rfl rfl ?_
  refine B_getR dX11_image_1 fl_X11_19 shC_0 rfl (rfC_0_1 _) ?_
  refine B_VTb (st := []) dX11_image_4 cl_X11_157 (t_X1_isThere h) (Nat.le_of_ble_eq_true rfl) shC_3 rfl rfl (Nat.le_of_ble_eq_true rfl) ?_
  refine C_ifb_ne (tgt := 12) dX11_image_7 (by decide) (fun q6 => ?_) (fun q6 => ?_)
  · refine B_aload_n dX11_image_12 rfl rfl ?_
    refine B_getR dX11_image_13 fl_X11_56 shC_0 rfl (rfC_0_6 _) ?_
    refine B_aload_n dX11_image_16 rfl rfl ?_
    refine B_getR dX11_image_17 fl_X11_77 shC_0 rfl (rfC_0_10 _) ?_
    refine B_iconst dX11_image_20 ic_0 ?_
    refine B_VV (st := []) dX11_image_21 cl_X11_371 (t_X8_saveTo 74 28 shC_74 0 h) (Nat.le_of_ble_eq_true rfl) shC_66 rfl rfl (Nat.le_of_ble_eq_true rfl) (fun h2 _ => ?_)
    refine B_aload_n dX11_image_24 rfl rfl ?_
    refine B_getR dX11_image_25 fl_X11_81 shC_0 rfl (rfC_0_11 _) ?_
    refine B_aload_n dX11_image_28 rfl rfl ?_
    refine B_getR dX11_image_29 fl_X11_73 shC_0 rfl (rfC_0_9 _) ?_
    refine B_VV (st := []) dX11_image_32 cl_X11_374 (t_X4_copyFrom 75 shC_75 72 shC_72 h2) (Nat.le_of_ble_eq_true rfl) shC_75 rfl rfl (Nat.le_of_ble_eq_true rfl) (fun h4 _ => ?_)
    refine B_aload_n dX11_image_35 rfl rfl ?_
    refine B_iconst dX11_image_36 ic_1 ?_
    refine B_putZ dX11_image_37 fl_X11_150 fw_X11_15 shC_0 rfl (Or.inr rfl) ?_
    refine B_lh (fun h5 => ?_)
    refine B_aload_n dX11_image_40 rfl rfl ?_
    refine B_getR dX11_image_41 fl_X11_56 shC_0 rfl (rfC_0_6 _) ?_
    refine B_Vt (st := []) dX11_image_44 cl_X11_239 (t_X8_daysGone h5) (Nat.le_of_ble_eq_true rfl) shC_66 rfl rfl (Nat.le_of_ble_eq_true rfl) ?_
    exact B_ireturn dX11_image_47 rfl rfl
  · refine B_iconst dX11_image_10 ic_m1 ?_
    exact B_ireturn dX11_image_11 rfl rfl
def f_X11_back (h : dH) : Option (Int32 × dH) :=
  if (h.1 0 15) = 0 then
  some ((-1), h)
  else
  (f_X8_loadFrom 66 74 28 0 h).bind fun h2 =>
  (f_X4_copyFrom 72 75 h2).bind fun h4 =>
  (f_X0_forget h4).bind fun h6 =>
  some ((f_X8_daysGone h6), h6)
set_option maxRecDepth 20000 in
set_option maxHeartbeats 4000000 in
theorem t_X11_back (h : dH) : T XC 2 yX11_back cX11_back 1 (some .int) fiI [.ref 0] h (f_X11_back h) := by
  refine T_of [.ref 0] (by decide) (fun _ => rfl) (fun _ => Nat.le_of_ble_eq_true rfl) ?_
  show B XC 2 RX11 cX11_back 1 (some .int) fiI 0 [.ref 0] [] h (f_X11_back h)
  unfold f_X11_back
  refine B_aload_n dX11_back_0 rfl rfl ?_
  refine B_getZ dX11_back_1 fl_X11_150 shC_0 rfl ?_
  refine C_if_ne (tgt := 9) dX11_back_4 (by decide) (fun q7 => ?_) (fun q7 => ?_)
  · refine B_aload_n dX11_back_9 rfl rfl ?_
    refine B_getR dX11_back_10 fl_X11_56 shC_0 rfl (rfC_0_6 _) ?_
    refine B_aload_n dX11_back_13 rfl rfl ?_
    refine B_getR dX11_back_14 fl_X11_77 shC_0 rfl (rfC_0_10 _) ?_
    refine B_iconst dX11_back_17 ic_0 ?_
    refine B_VV (st := []) dX11_back_18 cl_X11_262 (t_X8_loadFrom 66 shC_66 74 28 shC_74 0 h) (Nat.le_of_ble_eq_true rfl) shC_66 rfl rfl (Nat.le_of_ble_eq_true rfl) (fun h2 _ => ?_)
    refine B_aload_n dX11_back_21 rfl rfl ?_
    refine B_getR dX11_back_22 fl_X11_73 shC_0 rfl (rfC_0_9 _) ?_
    refine B_aload_n dX11_back_25 rfl rfl ?_
    refine B_getR dX11_back_26 fl_X11_81 shC_0 rfl (rfC_0_11 _) ?_
    refine B_VV (st := []) dX11_back_29 cl_X11_374 (t_X4_copyFrom 72 shC_72 75 shC_75 h2) (Nat.le_of_ble_eq_true rfl) shC_72 rfl rfl (Nat.le_of_ble_eq_true rfl) (fun h4 _ => ?_)
    refine B_aload_n dX11_back_32 rfl rfl ?_
    refine B_getR dX11_back_33 fl_X11_66 shC_0 rfl (rfC_0_8 _) ?_
    refine B_VV (st := []) dX11_back_36 cl_X11_146 (t_X0_forget h4) (Nat.le_of_ble_eq_true rfl) shC_70 rfl rfl (Nat.le_of_ble_eq_true rfl) (fun h6 _ => ?_)
    refine B_aload_n dX11_back_39 rfl rfl ?_
    refine B_getR dX11_back_40 fl_X11_56 shC_0 rfl (rfC_0_6 _) ?_
    refine B_Vt (st := []) dX11_back_43 cl_X11_239 (t_X8_daysGone h6) (Nat.le_of_ble_eq_true rfl) shC_66 rfl rfl (Nat.le_of_ble_eq_true rfl) ?_
    exact B_ireturn dX11_back_46 rfl rfl
  · refine B_iconst dX11_back_7 ic_m1 ?_
    exact B_ireturn dX11_back_8 rfl rfl
def f_X11_count (x1 : Int32) (h : dH) : Int32 :=
  if x1 = 0 then
  (h.1 3 2)
  else
  if x1 = 1 then
  (h.1 42 1)
  else
  if x1 = 2 then
  (h.1 52 0)
  else
  if x1 = 3 then
  (h.1 1 1)
  else
  if x1 = 4 then
  (h.1 42 2)
  else
  if x1 = 5 then
  (f_X8_daysGone h)
  else
  if x1 = 6 then
  (f_X8_hour h)
  else
  if x1 = 7 then
  (f_X8_tired h)
  else
  if x1 = 8 then
  (f_X8_place h)
  else
  if x1 = 9 then
  (f_X8_seenToday h)
  else
  if x1 = 10 then
  (f_X8_seenInAll 66 h)
  else
  if x1 = 11 then
  (h.1 0 16)
  else
  if x1 = 12 then
  (h.1 77 0)
  else
  if x1 = 13 then
  (f_X4_lengthOn (f_X8_daysGone h) h)
  else
  if x1 = 14 then
  (h.1 70 0)
  else
  (-1000000)
set_option maxRecDepth 20000 in
set_option maxHeartbeats 4000000 in
theorem t_X11_count (x1 : Int32) (h : dH) : T XC 2 yX11_count cX11_count 2 (some .int) (fiP h) [.ref 0, .int x1] h (some (f_X11_count x1 h)) := by
  refine T_of [.ref 0, .int x1] (by decide) (fun _ => rfl) (fun _ => Nat.le_of_ble_eq_true rfl) ?_
  show B XC 2 RX11 cX11_count 2 (some .int) (fiP h) 0 [.ref 0, .int x1] [] h (some (f_X11_count x1 h))
  unfold f_X11_count
  refine B_iload_n dX11_count_0 rfl rfl ?_
  refine C_some ?_
  refine C_ite (fun n1_0 => ?_) (fun n1_0 => ?_)
  · refine B_tswIn (tgt := 76) dX11_count_1 (by rw [n1_0]; decide) (by rw [n1_0]; decide) (by rw [n1_0]; decide) (by decide) ?_
    refine B_aload_n dX11_count_76 rfl rfl ?_
    refine B_getR dX11_count_77 fl_X11_19 shC_0 rfl (rfC_0_1 _) ?_
    refine B_getI dX11_count_80 fl_X11_154 shC_3 rfl ?_
    exact B_ireturn dX11_count_83 rfl rfl
  · refine C_some ?_
    refine C_ite (fun n1_1 => ?_) (fun n1_1 => ?_)
    · refine B_tswIn (tgt := 84) dX11_count_1 (by rw [n1_1]; decide) (by rw [n1_1]; decide) (by rw [n1_1]; decide) (by decide) ?_
      refine B_aload_n dX11_count_84 rfl rfl ?_
      refine B_getR dX11_count_85 fl_X11_40 shC_0 rfl (rfC_0_4 _) ?_
      refine B_getI dX11_count_88 fl_X11_184 shC_42 rfl ?_
      exact B_ireturn dX11_count_91 rfl rfl
    · refine C_some ?_
      refine C_ite (fun n1_2 => ?_) (fun n1_2 => ?_)
      · refine B_tswIn (tgt := 92) dX11_count_1 (by rw [n1_2]; decide) (by rw [n1_2]; decide) (by rw [n1_2]; decide) (by decide) ?_
        refine B_aload_n dX11_count_92 rfl rfl ?_
        refine B_getR dX11_count_93 fl_X11_47 shC_0 rfl (rfC_0_5 _) ?_
        refine B_getI dX11_count_96 fl_X11_377 shC_52 rfl ?_
        exact B_ireturn dX11_count_99 rfl rfl
      · refine C_some ?_
        refine C_ite (fun n1_3 => ?_) (fun n1_3 => ?_)
        · refine B_tswIn (tgt := 100) dX11_count_1 (by rw [n1_3]; decide) (by rw [n1_3]; decide) (by rw [n1_3]; decide) (by decide) ?_
          refine B_aload_n dX11_count_100 rfl rfl ?_
          refine B_getR dX11_count_101 fl_X11_10 shC_0 rfl (rfC_0_0 _) ?_
          refine B_getI dX11_count_104 fl_X11_117 shC_1 rfl ?_
          exact B_ireturn dX11_count_107 rfl rfl
        · refine C_some ?_
          refine C_ite (fun n1_4 => ?_) (fun n1_4 => ?_)
          · refine B_tswIn (tgt := 108) dX11_count_1 (by rw [n1_4]; decide) (by rw [n1_4]; decide) (by rw [n1_4]; decide) (by decide) ?_
            refine B_aload_n dX11_count_108 rfl rfl ?_
            refine B_getR dX11_count_109 fl_X11_40 shC_0 rfl (rfC_0_4 _) ?_
            refine B_getI dX11_count_112 fl_X11_187 shC_42 rfl ?_
            exact B_ireturn dX11_count_115 rfl rfl
          · refine C_some ?_
            refine C_ite (fun n1_5 => ?_) (fun n1_5 => ?_)
            · refine B_tswIn (tgt := 116) dX11_count_1 (by rw [n1_5]; decide) (by rw [n1_5]; decide) (by rw [n1_5]; decide) (by decide) ?_
              refine B_aload_n dX11_count_116 rfl rfl ?_
              refine B_getR dX11_count_117 fl_X11_56 shC_0 rfl (rfC_0_6 _) ?_
              refine B_Vt (st := []) dX11_count_120 cl_X11_239 (t_X8_daysGone h) (Nat.le_of_ble_eq_true rfl) shC_66 rfl rfl (Nat.le_of_ble_eq_true rfl) ?_
              exact B_ireturn dX11_count_123 rfl rfl
            · refine C_some ?_
              refine C_ite (fun n1_6 => ?_) (fun n1_6 => ?_)
              · refine B_tswIn (tgt := 124) dX11_count_1 (by rw [n1_6]; decide) (by rw [n1_6]; decide) (by rw [n1_6]; decide) (by decide) ?_
                refine B_aload_n dX11_count_124 rfl rfl ?_
                refine B_getR dX11_count_125 fl_X11_56 shC_0 rfl (rfC_0_6 _) ?_
                refine B_Vt (st := []) dX11_count_128 cl_X11_378 (t_X8_hour h) (Nat.le_of_ble_eq_true rfl) shC_66 rfl rfl (Nat.le_of_ble_eq_true rfl) ?_
                exact B_ireturn dX11_count_131 rfl rfl
              · refine C_some ?_
                refine C_ite (fun n1_7 => ?_) (fun n1_7 => ?_)
                · refine B_tswIn (tgt := 132) dX11_count_1 (by rw [n1_7]; decide) (by rw [n1_7]; decide) (by rw [n1_7]; decide) (by decide) ?_
                  refine B_aload_n dX11_count_132 rfl rfl ?_
                  refine B_getR dX11_count_133 fl_X11_56 shC_0 rfl (rfC_0_6 _) ?_
                  refine B_Vt (st := []) dX11_count_136 cl_X11_359 (t_X8_tired h) (Nat.le_of_ble_eq_true rfl) shC_66 rfl rfl (Nat.le_of_ble_eq_true rfl) ?_
                  exact B_ireturn dX11_count_139 rfl rfl
                · refine C_some ?_
                  refine C_ite (fun n1_8 => ?_) (fun n1_8 => ?_)
                  · refine B_tswIn (tgt := 140) dX11_count_1 (by rw [n1_8]; decide) (by rw [n1_8]; decide) (by rw [n1_8]; decide) (by decide) ?_
                    refine B_aload_n dX11_count_140 rfl rfl ?_
                    refine B_getR dX11_count_141 fl_X11_56 shC_0 rfl (rfC_0_6 _) ?_
                    refine B_Vt (st := []) dX11_count_144 cl_X11_190 (t_X8_place h) (Nat.le_of_ble_eq_true rfl) shC_66 rfl rfl (Nat.le_of_ble_eq_true rfl) ?_
                    exact B_ireturn dX11_count_147 rfl rfl
                  · refine C_some ?_
                    refine C_ite (fun n1_9 => ?_) (fun n1_9 => ?_)
                    · refine B_tswIn (tgt := 148) dX11_count_1 (by rw [n1_9]; decide) (by rw [n1_9]; decide) (by rw [n1_9]; decide) (by decide) ?_
                      refine B_aload_n dX11_count_148 rfl rfl ?_
                      refine B_getR dX11_count_149 fl_X11_56 shC_0 rfl (rfC_0_6 _) ?_
                      refine B_Vt (st := []) dX11_count_152 cl_X11_381 (t_X8_seenToday h) (Nat.le_of_ble_eq_true rfl) shC_66 rfl rfl (Nat.le_of_ble_eq_true rfl) ?_
                      exact B_ireturn dX11_count_155 rfl rfl
                    · refine C_some ?_
                      refine C_ite (fun n1_10 => ?_) (fun n1_10 => ?_)
                      · refine B_tswIn (tgt := 156) dX11_count_1 (by rw [n1_10]; decide) (by rw [n1_10]; decide) (by rw [n1_10]; decide) (by decide) ?_
                        refine B_aload_n dX11_count_156 rfl rfl ?_
                        refine B_getR dX11_count_157 fl_X11_56 shC_0 rfl (rfC_0_6 _) ?_
                        refine B_Vt (st := []) dX11_count_160 cl_X11_269 (t_X8_seenInAll 66 shC_66 h) (Nat.le_of_ble_eq_true rfl) shC_66 rfl rfl (Nat.le_of_ble_eq_true rfl) ?_
                        exact B_ireturn dX11_count_163 rfl rfl
                      · refine C_some ?_
                        refine C_ite (fun n1_11 => ?_) (fun n1_11 => ?_)
                        · refine B_tswIn (tgt := 164) dX11_count_1 (by rw [n1_11]; decide) (by rw [n1_11]; decide) (by rw [n1_11]; decide) (by decide) ?_
                          refine B_aload_n dX11_count_164 rfl rfl ?_
                          refine B_getI dX11_count_165 fl_X11_109 shC_0 rfl ?_
                          exact B_ireturn dX11_count_168 rfl rfl
                        · refine C_some ?_
                          refine C_ite (fun n1_12 => ?_) (fun n1_12 => ?_)
                          · refine B_tswIn (tgt := 169) dX11_count_1 (by rw [n1_12]; decide) (by rw [n1_12]; decide) (by rw [n1_12]; decide) (by decide) ?_
                            refine B_aload_n dX11_count_169 rfl rfl ?_
                            refine B_getR dX11_count_170 fl_X11_89 shC_0 rfl (rfC_0_12 _) ?_
                            refine B_getI dX11_count_173 fl_X11_384 shC_77 rfl ?_
                            exact B_ireturn dX11_count_176 rfl rfl
                          · refine C_some ?_
                            refine C_ite (fun n1_13 => ?_) (fun n1_13 => ?_)
                            · refine B_tswIn (tgt := 177) dX11_count_1 (by rw [n1_13]; decide) (by rw [n1_13]; decide) (by rw [n1_13]; decide) (by decide) ?_
                              refine B_aload_n dX11_count_177 rfl rfl ?_
                              refine B_getR dX11_count_178 fl_X11_56 shC_0 rfl (rfC_0_6 _) ?_
                              refine B_Vt (st := []) dX11_count_181 cl_X11_239 (t_X8_daysGone h) (Nat.le_of_ble_eq_true rfl) shC_66 rfl rfl (Nat.le_of_ble_eq_true rfl) ?_
                              refine B_St (st := []) dX11_count_184 cl_X11_387 (t_X4_lengthOn (f_X8_daysGone h) h) (Nat.le_of_ble_eq_true rfl) rfl rfl (Nat.le_of_ble_eq_true rfl) ?_
                              exact B_ireturn dX11_count_187 rfl rfl
                            · refine C_some ?_
                              refine C_ite (fun n1_14 => ?_) (fun n1_14 => ?_)
                              · refine B_tswIn (tgt := 188) dX11_count_1 (by rw [n1_14]; decide) (by rw [n1_14]; decide) (by rw [n1_14]; decide) (by decide) ?_
                                refine B_aload_n dX11_count_188 rfl rfl ?_
                                refine B_getR dX11_count_189 fl_X11_66 shC_0 rfl (rfC_0_8 _) ?_
                                refine B_getI dX11_count_192 fl_X11_390 shC_70 rfl ?_
                                exact B_ireturn dX11_count_195 rfl rfl
                              · refine B_tswOut (tgt := 196) dX11_count_1 (dsw (fun c h1 h2 => ?_)) (by decide) ?_
                                · rcases (show c = 0 ∨ c = 1 ∨ c = 2 ∨ c = 3 ∨ c = 4 ∨ c = 5 ∨ c = 6 ∨ c = 7 ∨ c = 8 ∨ c = 9 ∨ c = 10 ∨ c = 11 ∨ c = 12 ∨ c = 13 ∨ c = 14 by omega) with rfl | rfl | rfl | rfl | rfl | rfl | rfl | rfl | rfl | rfl | rfl | rfl | rfl | rfl | rfl
                                  · exact n1_0
                                  · exact n1_1
                                  · exact n1_2
                                  · exact n1_3
                                  · exact n1_4
                                  · exact n1_5
                                  · exact n1_6
                                  · exact n1_7
                                  · exact n1_8
                                  · exact n1_9
                                  · exact n1_10
                                  · exact n1_11
                                  · exact n1_12
                                  · exact n1_13
                                  · exact n1_14
                                · refine B_ldc dX11_count_196 kc_X11_249 ?_
                                  exact B_ireturn dX11_count_198 rfl rfl
def f_X12_thrown (h : dH) : Int32 :=
  (h.1 0 0)
set_option maxRecDepth 20000 in
set_option maxHeartbeats 4000000 in
theorem t_X12_thrown (h : dH) : T XM 0 yX12_thrown cX12_thrown 1 (some .int) (fiP h) [.ref 0] h (some (f_X12_thrown h)) := by
  refine T_of [.ref 0] (by decide) (fun _ => rfl) (fun _ => Nat.le_of_ble_eq_true rfl) ?_
  show B XM 0 RX12 cX12_thrown 1 (some .int) (fiP h) 0 [.ref 0] [] h (some (f_X12_thrown h))
  unfold f_X12_thrown
  refine B_aload_n dX12_thrown_0 rfl rfl ?_
  refine B_getI dX12_thrown_1 fl_X12_103 shM_0 rfl ?_
  exact B_ireturn dX12_thrown_4 rfl rfl
def f_X12_isIn (x0 : Int64) (x2 : Int64) (x4 : Int64) (h : dH) : Bool :=
  if (lg_cmp x0 x2) < 0 then
  false
  else
  if 0 < (lg_cmp x0 x4) then
  false
  else
  true
set_option maxRecDepth 20000 in
set_option maxHeartbeats 4000000 in
theorem t_X12_isIn (x0 : Int64) (x2 : Int64) (x4 : Int64) (h : dH) : T XM 0 yX12_isIn cX12_isIn 6 (some .boolean) (fiB h) [.long x0, .long x2, .long x4] h (some (f_X12_isIn x0 x2 x4 h)) := by
  refine T_of [.long x0, .null, .long x2, .null, .long x4, .null] (by decide) (fun _ => rfl) (fun _ => Nat.le_of_ble_eq_true rfl) ?_
  show B XM 0 RX12 cX12_isIn 6 (some .boolean) (fiB h) 0 [.long x0, .null, .long x2, .null, .long x4, .null] [] h (some (f_X12_isIn x0 x2 x4 h))
  unfold f_X12_isIn
  refine B_lload_n dX12_isIn_0 rfl rfl ?_
  refine B_lload_n dX12_isIn_1 rfl rfl ?_
  refine B_lcmp dX12_isIn_2 ?_
  refine C_some ?_
  refine C_if_lt (tgt := 17) dX12_isIn_3 (by decide) (fun q2 => ?_) (fun q2 => ?_)
  · refine B_iconst dX12_isIn_17 ic_0 ?_
    exact B_zreturn dX12_isIn_18 rfl rfl rfl
  · refine B_lload_n dX12_isIn_6 rfl rfl ?_
    refine B_lload dX12_isIn_7 rfl ?_
    refine B_lcmp dX12_isIn_9 ?_
    refine C_some ?_
    refine C_if_gt (tgt := 17) dX12_isIn_10 (by decide) (fun q1 => ?_) (fun q1 => ?_)
    · refine B_iconst dX12_isIn_17 ic_0 ?_
      exact B_zreturn dX12_isIn_18 rfl rfl rfl
    · refine B_iconst dX12_isIn_13 ic_1 ?_
      refine B_goto (tgt := 18) dX12_isIn_14 (by decide) ?_
      exact B_zreturn dX12_isIn_18 rfl rfl rfl
def f_X12_has (x0 : Int32) (x1 : Int32) (h : dH) : Bool :=
  if ((x0 >>> (x1 &&& 31)) &&& 1) = 1 then
  true
  else
  false
set_option maxRecDepth 20000 in
set_option maxHeartbeats 4000000 in
theorem t_X12_has (x0 : Int32) (x1 : Int32) (h : dH) : T XM 0 yX12_has cX12_has 2 (some .boolean) (fiB h) [.int x0, .int x1] h (some (f_X12_has x0 x1 h)) := by
  refine T_of [.int x0, .int x1] (by decide) (fun _ => rfl) (fun _ => Nat.le_of_ble_eq_true rfl) ?_
  show B XM 0 RX12 cX12_has 2 (some .boolean) (fiB h) 0 [.int x0, .int x1] [] h (some (f_X12_has x0 x1 h))
  unfold f_X12_has
  refine B_iload_n dX12_has_0 rfl rfl ?_
  refine B_iload_n dX12_has_1 rfl rfl ?_
  refine B_ishr dX12_has_2 ?_
  refine B_iconst dX12_has_3 ic_1 ?_
  refine B_iand dX12_has_4 ?_
  refine B_iconst dX12_has_5 ic_1 ?_
  refine C_some ?_
  refine C_icmp_ne (tgt := 13) dX12_has_6 (by decide) (fun q1 => ?_) (fun q1 => ?_)
  · refine B_iconst dX12_has_13 ic_0 ?_
    exact B_zreturn dX12_has_14 rfl rfl rfl
  · refine B_iconst dX12_has_9 ic_1 ?_
    refine B_goto (tgt := 14) dX12_has_10 (by decide) ?_
    exact B_zreturn dX12_has_14 rfl rfl rfl
def f_X12_bytesIn_J25 (kL5 : Int32 → Int32 → Int32 → Option (Int32)) (y0 : Int32) (y2 : Int32) (z0 : Int32) (z1 : Bool) (h : dH) : Option (Int32) :=
  (some ((z0 + (bi z1)))).bind fun v3 =>
  kL5 y0 v3 (y2 + (-8))
set_option maxRecDepth 20000 in
set_option maxHeartbeats 4000000 in
theorem b_X12_bytesIn_J25 {kL5 : Int32 → Int32 → Int32 → Option (Int32)} (h : dH) (hkL5 : ∀ (y0 : Int32) (y1 : Int32) (y2 : Int32), B XM 0 RX12 cX12_bytesIn 3 (some .int) (fiP h) 5 [.int y0, .int y1, .int y2] [] h (kL5 y0 y1 y2)) (y0 : Int32) (y2 : Int32) (z0 : Int32) (z1 : Bool) : B XM 0 RX12 cX12_bytesIn 3 (some .int) (fiP h) 25 [.int y0, .null, .int y2] [.int (bi z1), .int z0] h (f_X12_bytesIn_J25 kL5 y0 y2 z0 z1 h) := by
  unfold f_X12_bytesIn_J25
  refine B_iadd dX12_bytesIn_25 ?_
  refine B_lv (fun v3 => ?_)
  refine B_istore_n (ls' := [.int y0, .int v3, .int y2]) dX12_bytesIn_26 rfl (Nat.le_of_ble_eq_true rfl) rfl rfl ?_
  refine B_iinc (w := (y2 + (-8))) (ls' := [.int y0, .int v3, .int (y2 + (-8))]) dX12_bytesIn_27 rfl (congrArg (fun z => y2 + z) ic_m8) (Nat.le_of_ble_eq_true rfl) rfl rfl ?_
  refine B_goto (tgt := 5) dX12_bytesIn_30 (by decide) ?_
  exact hkL5 y0 v3 (y2 + (-8))  
def f_X12_bytesIn_L5 (h : dH) : Nat → Int32 → Int32 → Int32 → Option (Int32)
  | 0, _, _, _ => none
  | n + 1, y0, y1, y2 =>
    if y2 < 0 then
    some y1
    else
    if ((y0 >>> (y2 &&& 31)) &&& 255) = 0 then
    f_X12_bytesIn_J25 (f_X12_bytesIn_L5 h n) y0 y2 y1 false h
    else
    f_X12_bytesIn_J25 (f_X12_bytesIn_L5 h n) y0 y2 y1 true h
set_option maxRecDepth 20000 in
set_option maxHeartbeats 4000000 in
theorem b_X12_bytesIn_L5 (h : dH) : ∀ (n : Nat) (y0 : Int32) (y1 : Int32) (y2 : Int32), B XM 0 RX12 cX12_bytesIn 3 (some .int) (fiP h) 5 [.int y0, .int y1, .int y2] [] h (f_X12_bytesIn_L5 h n y0 y1 y2) := by
  intro n
  induction n with
  | zero =>
    intro y0 y1 y2
    exact B_none
  | succ n ih =>
    intro y0 y1 y2
    rw [f_X12_bytesIn_L5]
    refine B_iload_n dX12_bytesIn_5 rfl rfl ?_
    refine C_if_lt (tgt := 33) dX12_bytesIn_6 (by decide) (fun q2 => ?_) (fun q2 => ?_)
    · refine B_iload_n dX12_bytesIn_33 rfl rfl ?_
      exact B_ireturn dX12_bytesIn_34 rfl rfl
    · refine B_iload_n dX12_bytesIn_9 rfl rfl ?_
      refine B_iload_n dX12_bytesIn_10 rfl rfl ?_
      refine B_iload_n dX12_bytesIn_11 rfl rfl ?_
      refine B_ishr dX12_bytesIn_12 ?_
      refine B_sipush dX12_bytesIn_13 sp_255 ?_
      refine B_iand dX12_bytesIn_16 ?_
      refine C_if_eq (tgt := 24) dX12_bytesIn_17 (by decide) (fun q1 => ?_) (fun q1 => ?_)
      · refine B_iconst dX12_bytesIn_24 ic_0 ?_
        refine B_drop 1 (ls' := [.int y0, .null, .int y2]) rfl ?_
        exact b_X12_bytesIn_J25 h (fun qy0 qy1 qy2 => ih qy0 qy1 qy2) y0 y2 y1 false
      · refine B_iconst dX12_bytesIn_20 ic_1 ?_
        refine B_goto (tgt := 25) dX12_bytesIn_21 (by decide) ?_
        refine B_drop 1 (ls' := [.int y0, .null, .int y2]) rfl ?_
        exact b_X12_bytesIn_J25 h (fun qy0 qy1 qy2 => ih qy0 qy1 qy2) y0 y2 y1 true
def f_X12_bytesIn (x0 : Int32) (h : dH) : Option (Int32) :=
  f_X12_bytesIn_L5 h dFu x0 0 24
set_option maxRecDepth 20000 in
set_option maxHeartbeats 4000000 in
theorem t_X12_bytesIn (x0 : Int32) (h : dH) : T XM 0 yX12_bytesIn cX12_bytesIn 3 (some .int) (fiP h) [.int x0] h (f_X12_bytesIn x0 h) := by
  refine T_of [.int x0, .null, .null] (by decide) (fun _ => rfl) (fun _ => Nat.le_of_ble_eq_true rfl) ?_
  show B XM 0 RX12 cX12_bytesIn 3 (some .int) (fiP h) 0 [.int x0, .null, .null] [] h (f_X12_bytesIn x0 h)
  unfold f_X12_bytesIn
  refine B_iconst dX12_bytesIn_0 ic_0 ?_
  refine B_istore_n (ls' := [.int x0, .int 0, .null]) dX12_bytesIn_1 rfl (Nat.le_of_ble_eq_true rfl) rfl rfl ?_
  refine B_bipush dX12_bytesIn_2 bp_24 ?_
  refine B_istore_n (ls' := [.int x0, .int 0, .int 24]) dX12_bytesIn_4 rfl (Nat.le_of_ble_eq_true rfl) rfl rfl ?_
  exact b_X12_bytesIn_L5 h dFu x0 0 24
def f_X12_put_J43 (kL3 : Int32 → Int32 → dH → Option (dH)) (y1 : Int32) (y2 : Int32) (h : dH) : Option (dH) :=
  kL3 y1 (y2 + (-8)) h
set_option maxRecDepth 20000 in
set_option maxHeartbeats 4000000 in
theorem b_X12_put_J43 {kL3 : Int32 → Int32 → dH → Option (dH)} (hkL3 : ∀ (y1 : Int32) (y2 : Int32) (h : dH), B XM 0 RX12 cX12_put 3 none fiV 3 [.ref 0, .int y1, .int y2] [] h (kL3 y1 y2 h)) (y1 : Int32) (y2 : Int32) (h : dH) : B XM 0 RX12 cX12_put 3 none fiV 43 [.ref 0, .int y1, .int y2] [] h (f_X12_put_J43 kL3 y1 y2 h) := by
  unfold f_X12_put_J43
  refine B_iinc (w := (y2 + (-8))) (ls' := [.ref 0, .int y1, .int (y2 + (-8))]) dX12_put_43 rfl (congrArg (fun z => y2 + z) ic_m8) (Nat.le_of_ble_eq_true rfl) rfl rfl ?_
  refine B_goto (tgt := 3) dX12_put_46 (by decide) ?_
  exact hkL3 y1 (y2 + (-8))  h
def f_X12_put_L3 : Nat → Int32 → Int32 → dH → Option (dH)
  | 0, _, _, _ => none
  | n + 1, y1, y2, h =>
    if y2 < 0 then
    some h
    else
    if ((y1 >>> (y2 &&& 31)) &&& 255) = 0 then
    f_X12_put_J43 (f_X12_put_L3 n) y1 y2 h
    else
    if dIn (h.1 0 6) 240 then
    (some (dPut h 1 (dI (h.1 0 6)) (vp_nar .byte (((y1 >>> (y2 &&& 31)) : Int32).toInt8.toInt32)))).bind fun h2 =>
    (some (dPut h2 0 6 ((h2.1 0 6) + 1))).bind fun h3 =>
    f_X12_put_J43 (f_X12_put_L3 n) y1 y2 h3
    else none
set_option maxRecDepth 20000 in
set_option maxHeartbeats 4000000 in
theorem b_X12_put_L3 : ∀ (n : Nat) (y1 : Int32) (y2 : Int32) (h : dH), B XM 0 RX12 cX12_put 3 none fiV 3 [.ref 0, .int y1, .int y2] [] h (f_X12_put_L3 n y1 y2 h) := by
  intro n
  induction n with
  | zero =>
    intro y1 y2 h
    exact B_none
  | succ n ih =>
    intro y1 y2 h
    rw [f_X12_put_L3]
    refine B_iload_n dX12_put_3 rfl rfl ?_
    refine C_if_lt (tgt := 49) dX12_put_4 (by decide) (fun q5 => ?_) (fun q5 => ?_)
    · exact B_return dX12_put_49 rfl rfl
    · refine B_iload_n dX12_put_7 rfl rfl ?_
      refine B_iload_n dX12_put_8 rfl rfl ?_
      refine B_ishr dX12_put_9 ?_
      refine B_sipush dX12_put_10 sp_255 ?_
      refine B_iand dX12_put_13 ?_
      refine C_if_ne (tgt := 20) dX12_put_14 (by decide) (fun q4 => ?_) (fun q4 => ?_)
      · refine B_aload_n dX12_put_20 rfl rfl ?_
        refine B_getR dX12_put_21 fl_X12_9 shM_0 rfl (rfM_0_1 _) ?_
        refine B_aload_n dX12_put_24 rfl rfl ?_
        refine B_getI dX12_put_25 fl_X12_116 shM_0 rfl ?_
        refine B_iload_n dX12_put_28 rfl rfl ?_
        refine B_iload_n dX12_put_29 rfl rfl ?_
        refine B_ishr dX12_put_30 ?_
        refine B_i2b dX12_put_31 ?_
        refine C_chk (fun q1 => ?_)
        refine L_bast dX12_put_32 shM_1 q1 rfl ?_
        refine B_lh (fun h2 => ?_)
        refine B_aload_n dX12_put_33 rfl rfl ?_
        refine B_dup dX12_put_34 rfl ?_
        refine B_getI dX12_put_35 fl_X12_116 shM_0 rfl ?_
        refine B_iconst dX12_put_38 ic_1 ?_
        refine B_iadd dX12_put_39 ?_
        refine B_putI dX12_put_40 fl_X12_116 fw_X12_6 shM_0 rfl ?_
        refine B_lh (fun h3 => ?_)
        exact b_X12_put_J43 (fun qy1 qy2 qh => ih qy1 qy2 qh) y1 y2 h3
      · refine B_goto (tgt := 43) dX12_put_17 (by decide) ?_
        exact b_X12_put_J43 (fun qy1 qy2 qh => ih qy1 qy2 qh) y1 y2 h
def f_X12_put (x1 : Int32) (h : dH) : Option (dH) :=
  f_X12_put_L3 dFu x1 24 h
set_option maxRecDepth 20000 in
set_option maxHeartbeats 4000000 in
theorem t_X12_put (x1 : Int32) (h : dH) : T XM 0 yX12_put cX12_put 3 none fiV [.ref 0, .int x1] h (f_X12_put x1 h) := by
  refine T_of [.ref 0, .int x1, .null] (by decide) (fun _ => rfl) (fun _ => Nat.le_of_ble_eq_true rfl) ?_
  show B XM 0 RX12 cX12_put 3 none fiV 0 [.ref 0, .int x1, .null] [] h (f_X12_put x1 h)
  unfold f_X12_put
  refine B_bipush dX12_put_0 bp_24 ?_
  refine B_istore_n (ls' := [.ref 0, .int x1, .int 24]) dX12_put_2 rfl (Nat.le_of_ble_eq_true rfl) rfl rfl ?_
  exact b_X12_put_L3 dFu x1 24 h
def f_X12_feed (x1 : Int32) (x2 : Int32) (x3 : Int32) (x4 : Int32) (x5 : Int32) (h : dH) : Option (Int32 × dH) :=
  (some (dPut h 0 0 0)).bind fun h1 =>
  (f_X12_bytesIn x1 h1).bind fun v2 =>
  (f_X12_bytesIn x2 h1).bind fun v3 =>
  (f_X12_bytesIn x3 h1).bind fun v4 =>
  (f_X12_bytesIn x4 h1).bind fun v5 =>
  (f_X12_bytesIn x5 h1).bind fun v6 =>
  if 240 < ((((((h1.1 0 6) + v2) + v3) + v4) + v5) + v6) then
  some ((-1), h1)
  else
  (f_X12_put x1 h1).bind fun h8 =>
  (f_X12_put x2 h8).bind fun h10 =>
  (f_X12_put x3 h10).bind fun h12 =>
  (f_X12_put x4 h12).bind fun h14 =>
  (f_X12_put x5 h14).bind fun h16 =>
  some ((h16.1 0 6), h16)
set_option maxRecDepth 20000 in
set_option maxHeartbeats 4000000 in
theorem t_X12_feed (x1 : Int32) (x2 : Int32) (x3 : Int32) (x4 : Int32) (x5 : Int32) (h : dH) : T XM 1 yX12_feed cX12_feed 6 (some .int) fiI [.ref 0, .int x1, .int x2, .int x3, .int x4, .int x5] h (f_X12_feed x1 x2 x3 x4 x5 h) := by
  refine T_of [.ref 0, .int x1, .int x2, .int x3, .int x4, .int x5] (by decide) (fun _ => rfl) (fun _ => Nat.le_of_ble_eq_true rfl) ?_
  show B XM 1 RX12 cX12_feed 6 (some .int) fiI 0 [.ref 0, .int x1, .int x2, .int x3, .int x4, .int x5] [] h (f_X12_feed x1 x2 x3 x4 x5 h)
  unfold f_X12_feed
  refine B_aload_n dX12_feed_0 rfl rfl ?_
  refine B_iconst dX12_feed_1 ic_0 ?_
  refine B_putI dX12_feed_2 fl_X12_103 fw_X12_0 shM_0 rfl ?_
  refine B_lh (fun h1 => ?_)
  refine B_aload_n dX12_feed_5 rfl rfl ?_
  refine B_getI dX12_feed_6 fl_X12_116 shM_0 rfl ?_
  refine B_iload_n dX12_feed_9 rfl rfl ?_
  refine B_Sp (st := [.int (h1.1 0 6)]) dX12_feed_10 cl_X12_118 (t_X12_bytesIn x1 h1) (Nat.le_of_ble_eq_true rfl) rfl rfl (Nat.le_of_ble_eq_true rfl) (fun v2 _ => ?_)
  refine B_iadd dX12_feed_13 ?_
  refine B_iload_n dX12_feed_14 rfl rfl ?_
  refine B_Sp (st := [.int ((h1.1 0 6) + v2)]) dX12_feed_15 cl_X12_118 (t_X12_bytesIn x2 h1) (Nat.le_of_ble_eq_true rfl) rfl rfl (Nat.le_of_ble_eq_true rfl) (fun v3 _ => ?_)
  refine B_iadd dX12_feed_18 ?_
  refine B_iload_n dX12_feed_19 rfl rfl ?_
  refine B_Sp (st := [.int (((h1.1 0 6) + v2) + v3)]) dX12_feed_20 cl_X12_118 (t_X12_bytesIn x3 h1) (Nat.le_of_ble_eq_true rfl) rfl rfl (Nat.le_of_ble_eq_true rfl) (fun v4 _ => ?_)
  refine B_iadd dX12_feed_23 ?_
  refine B_iload dX12_feed_24 rfl ?_
  refine B_Sp (st := [.int ((((h1.1 0 6) + v2) + v3) + v4)]) dX12_feed_26 cl_X12_118 (t_X12_bytesIn x4 h1) (Nat.le_of_ble_eq_true rfl) rfl rfl (Nat.le_of_ble_eq_true rfl) (fun v5 _ => ?_)
  refine B_iadd dX12_feed_29 ?_
  refine B_iload dX12_feed_30 rfl ?_
  refine B_Sp (st := [.int (((((h1.1 0 6) + v2) + v3) + v4) + v5)]) dX12_feed_32 cl_X12_118 (t_X12_bytesIn x5 h1) (Nat.le_of_ble_eq_true rfl) rfl rfl (Nat.le_of_ble_eq_true rfl) (fun v6 _ => ?_)
  refine B_iadd dX12_feed_35 ?_
  refine B_sipush dX12_feed_36 sp_240 ?_
  refine C_icmp_le (tgt := 44) dX12_feed_39 (by decide) (fun q17 => ?_) (fun q17 => ?_)
  · refine B_aload_n dX12_feed_44 rfl rfl ?_
    refine B_iload_n dX12_feed_45 rfl rfl ?_
    refine B_VV (st := []) dX12_feed_46 cl_X12_122 (t_X12_put x1 h1) (Nat.le_of_ble_eq_true rfl) shM_0 rfl rfl (Nat.le_of_ble_eq_true rfl) (fun h8 _ => ?_)
    refine B_aload_n dX12_feed_49 rfl rfl ?_
    refine B_iload_n dX12_feed_50 rfl rfl ?_
    refine B_VV (st := []) dX12_feed_51 cl_X12_122 (t_X12_put x2 h8) (Nat.le_of_ble_eq_true rfl) shM_0 rfl rfl (Nat.le_of_ble_eq_true rfl) (fun h10 _ => ?_)
    refine B_aload_n dX12_feed_54 rfl rfl ?_
    refine B_iload_n dX12_feed_55 rfl rfl ?_
    refine B_VV (st := []) dX12_feed_56 cl_X12_122 (t_X12_put x3 h10) (Nat.le_of_ble_eq_true rfl) shM_0 rfl rfl (Nat.le_of_ble_eq_true rfl) (fun h12 _ => ?_)
    refine B_aload_n dX12_feed_59 rfl rfl ?_
    refine B_iload dX12_feed_60 rfl ?_
    refine B_VV (st := []) dX12_feed_62 cl_X12_122 (t_X12_put x4 h12) (Nat.le_of_ble_eq_true rfl) shM_0 rfl rfl (Nat.le_of_ble_eq_true rfl) (fun h14 _ => ?_)
    refine B_aload_n dX12_feed_65 rfl rfl ?_
    refine B_iload dX12_feed_66 rfl ?_
    refine B_VV (st := []) dX12_feed_68 cl_X12_122 (t_X12_put x5 h14) (Nat.le_of_ble_eq_true rfl) shM_0 rfl rfl (Nat.le_of_ble_eq_true rfl) (fun h16 _ => ?_)
    refine B_aload_n dX12_feed_71 rfl rfl ?_
    refine B_getI dX12_feed_72 fl_X12_116 shM_0 rfl ?_
    exact B_ireturn dX12_feed_75 rfl rfl
  · refine B_iconst dX12_feed_42 ic_m1 ?_
    exact B_ireturn dX12_feed_43 rfl rfl
def f_X12_end (x1 : Int32) (h : dH) : Option (Bool × dH) :=
  (some (dPut h 0 0 0)).bind fun h1 =>
  if x1 < 0 then
  some (false, h1)
  else
  if (h1.1 0 6) < x1 then
  some (false, h1)
  else
  some (true, (dPut h1 0 6 x1))
set_option maxRecDepth 20000 in
set_option maxHeartbeats 4000000 in
theorem t_X12_end (x1 : Int32) (h : dH) : T XM 0 yX12_end cX12_end 2 (some .boolean) fiC [.ref 0, .int x1] h (f_X12_end x1 h) := by
  refine T_of [.ref 0, .int x1] (by decide) (fun _ => rfl) (fun _ => Nat.le_of_ble_eq_true rfl) ?_
  show B XM 0 RX12 cX12_end 2 (some .boolean) fiC 0 [.ref 0, .int x1] [] h (f_X12_end x1 h)
  unfold f_X12_end
  refine B_aload_n dX12_end_0 rfl rfl ?_
  refine B_iconst dX12_end_1 ic_0 ?_
  refine B_putI dX12_end_2 fl_X12_103 fw_X12_0 shM_0 rfl ?_
  refine B_lh (fun h1 => ?_)
  refine B_iload_n dX12_end_5 rfl rfl ?_
  refine C_if_lt (tgt := 17) dX12_end_6 (by decide) (fun q3 => ?_) (fun q3 => ?_)
  · refine B_iconst dX12_end_17 ic_0 ?_
    exact B_zreturn dX12_end_18 rfl rfl rfl
  · refine B_iload_n dX12_end_9 rfl rfl ?_
    refine B_aload_n dX12_end_10 rfl rfl ?_
    refine B_getI dX12_end_11 fl_X12_116 shM_0 rfl ?_
    refine C_icmp_le (tgt := 19) dX12_end_14 (by decide) (fun q2 => ?_) (fun q2 => ?_)
    · refine B_aload_n dX12_end_19 rfl rfl ?_
      refine B_iload_n dX12_end_20 rfl rfl ?_
      refine B_putI dX12_end_21 fl_X12_116 fw_X12_6 shM_0 rfl ?_
      refine B_iconst dX12_end_24 ic_1 ?_
      exact B_zreturn dX12_end_25 rfl rfl rfl
    · refine B_iconst dX12_end_17 ic_0 ?_
      exact B_zreturn dX12_end_18 rfl rfl rfl
def f_X12_look_J43 (h : dH) : Option (Int32 × dH) :=
  if (h.1 0 10) < (h.1 0 9) then
  if dIn ((h.1 0 8) + (h.1 0 10)) (bln h.2.2) then
  some (((h.1 h.2.2 (dI ((h.1 0 8) + (h.1 0 10)))) &&& 255), h)
  else none
  else
  some ((-1), h)
set_option maxRecDepth 20000 in
set_option maxHeartbeats 4000000 in
theorem b_X12_look_J43 (h : dH) : B XM 0 RX12 cX12_look 1 (some .int) fiI 43 [.ref 0] [] h (f_X12_look_J43 h) := by
  unfold f_X12_look_J43
  refine B_aload_n dX12_look_43 rfl rfl ?_
  refine B_getI dX12_look_44 fl_X12_126 shM_0 rfl ?_
  refine B_aload_n dX12_look_47 rfl rfl ?_
  refine B_getI dX12_look_48 fl_X12_129 shM_0 rfl ?_
  refine C_icmp_ge (tgt := 75) dX12_look_51 (by decide) (fun q6 => ?_) (fun q6 => ?_)
  · refine B_iconst dX12_look_75 ic_m1 ?_
    exact B_ireturn dX12_look_76 rfl rfl
  · refine B_aload_n dX12_look_54 rfl rfl ?_
    refine B_getR dX12_look_55 fl_X12_23 shM_0 rfl (rfM_0_5 _) ?_
    refine B_aload_n dX12_look_58 rfl rfl ?_
    refine B_getI dX12_look_59 fl_X12_132 shM_0 rfl ?_
    refine B_aload_n dX12_look_62 rfl rfl ?_
    refine B_getI dX12_look_63 fl_X12_126 shM_0 rfl ?_
    refine B_iadd dX12_look_66 ?_
    refine C_chk (fun q5 => ?_)
    refine L_baldD dX12_look_67 q5 ?_
    refine B_sipush dX12_look_68 sp_255 ?_
    refine B_iand dX12_look_71 ?_
    refine B_goto (tgt := 76) dX12_look_72 (by decide) ?_
    exact B_ireturn dX12_look_76 rfl rfl
def f_X12_look_L0 : Nat → dH → Option (Int32 × dH)
  | 0, _ => none
  | n + 1, h =>
    if (h.1 0 10) < (h.1 0 9) then
    if dIn ((h.1 0 8) + (h.1 0 10)) (bln h.2.2) then
    if (h.1 h.2.2 (dI ((h.1 0 8) + (h.1 0 10)))) = 32 then
    (some (dPut h 0 10 ((h.1 0 10) + 1))).bind fun h8 =>
    (f_X12_look_L0 n) h8
    else
    f_X12_look_J43 h
    else none
    else
    f_X12_look_J43 h
set_option maxRecDepth 20000 in
set_option maxHeartbeats 4000000 in
theorem b_X12_look_L0 : ∀ (n : Nat) (h : dH), B XM 0 RX12 cX12_look 1 (some .int) fiI 0 [.ref 0] [] h (f_X12_look_L0 n h) := by
  intro n
  induction n with
  | zero =>
    intro h
    exact B_none
  | succ n ih =>
    intro h
    rw [f_X12_look_L0]
    refine B_aload_n dX12_look_0 rfl rfl ?_
    refine B_getI dX12_look_1 fl_X12_126 shM_0 rfl ?_
    refine B_aload_n dX12_look_4 rfl rfl ?_
    refine B_getI dX12_look_5 fl_X12_129 shM_0 rfl ?_
    refine C_icmp_ge (tgt := 43) dX12_look_8 (by decide) (fun q10 => ?_) (fun q10 => ?_)
    · exact b_X12_look_J43 h
    · refine B_aload_n dX12_look_11 rfl rfl ?_
      refine B_getR dX12_look_12 fl_X12_23 shM_0 rfl (rfM_0_5 _) ?_
      refine B_aload_n dX12_look_15 rfl rfl ?_
      refine B_getI dX12_look_16 fl_X12_132 shM_0 rfl ?_
      refine B_aload_n dX12_look_19 rfl rfl ?_
      refine B_getI dX12_look_20 fl_X12_126 shM_0 rfl ?_
      refine B_iadd dX12_look_23 ?_
      refine C_chk (fun q7 => ?_)
      refine L_baldD dX12_look_24 q7 ?_
      refine B_bipush dX12_look_25 bp_32 ?_
      refine C_icmp_ne (tgt := 43) dX12_look_27 (by decide) (fun q9 => ?_) (fun q9 => ?_)
      · exact b_X12_look_J43 h
      · refine B_aload_n dX12_look_30 rfl rfl ?_
        refine B_dup dX12_look_31 rfl ?_
        refine B_getI dX12_look_32 fl_X12_126 shM_0 rfl ?_
        refine B_iconst dX12_look_35 ic_1 ?_
        refine B_iadd dX12_look_36 ?_
        refine B_putI dX12_look_37 fl_X12_126 fw_X12_10 shM_0 rfl ?_
        refine B_lh (fun h8 => ?_)
        refine B_goto (tgt := 0) dX12_look_40 (by decide) ?_
        exact ih   h8
def f_X12_look (h : dH) : Option (Int32 × dH) :=
  if (h.1 0 10) < (h.1 0 9) then
  if dIn ((h.1 0 8) + (h.1 0 10)) (bln h.2.2) then
  if (h.1 h.2.2 (dI ((h.1 0 8) + (h.1 0 10)))) = 32 then
  (some (dPut h 0 10 ((h.1 0 10) + 1))).bind fun h2 =>
  f_X12_look_L0 dFu h2
  else
  f_X12_look_J43 h
  else none
  else
  f_X12_look_J43 h
set_option maxRecDepth 20000 in
set_option maxHeartbeats 4000000 in
theorem t_X12_look (h : dH) : T XM 0 yX12_look cX12_look 1 (some .int) fiI [.ref 0] h (f_X12_look h) := by
  refine T_of [.ref 0] (by decide) (fun _ => rfl) (fun _ => Nat.le_of_ble_eq_true rfl) ?_
  show B XM 0 RX12 cX12_look 1 (some .int) fiI 0 [.ref 0] [] h (f_X12_look h)
  unfold f_X12_look
  refine B_aload_n dX12_look_0 rfl rfl ?_
  refine B_getI dX12_look_1 fl_X12_126 shM_0 rfl ?_
  refine B_aload_n dX12_look_4 rfl rfl ?_
  refine B_getI dX12_look_5 fl_X12_129 shM_0 rfl ?_
  refine C_icmp_ge (tgt := 43) dX12_look_8 (by decide) (fun q4 => ?_) (fun q4 => ?_)
  · exact b_X12_look_J43 h
  · refine B_aload_n dX12_look_11 rfl rfl ?_
    refine B_getR dX12_look_12 fl_X12_23 shM_0 rfl (rfM_0_5 _) ?_
    refine B_aload_n dX12_look_15 rfl rfl ?_
    refine B_getI dX12_look_16 fl_X12_132 shM_0 rfl ?_
    refine B_aload_n dX12_look_19 rfl rfl ?_
    refine B_getI dX12_look_20 fl_X12_126 shM_0 rfl ?_
    refine B_iadd dX12_look_23 ?_
    refine C_chk (fun q1 => ?_)
    refine L_baldD dX12_look_24 q1 ?_
    refine B_bipush dX12_look_25 bp_32 ?_
    refine C_icmp_ne (tgt := 43) dX12_look_27 (by decide) (fun q3 => ?_) (fun q3 => ?_)
    · exact b_X12_look_J43 h
    · refine B_aload_n dX12_look_30 rfl rfl ?_
      refine B_dup dX12_look_31 rfl ?_
      refine B_getI dX12_look_32 fl_X12_126 shM_0 rfl ?_
      refine B_iconst dX12_look_35 ic_1 ?_
      refine B_iadd dX12_look_36 ?_
      refine B_putI dX12_look_37 fl_X12_126 fw_X12_10 shM_0 rfl ?_
      refine B_lh (fun h2 => ?_)
      refine B_goto (tgt := 0) dX12_look_40 (by decide) ?_
      exact b_X12_look_L0 dFu h2
def f_X12_fails (h : dH) : Option (Bool × dH) :=
  if (h.1 0 11) = (-1) then
  some (false, (dPut h 0 11 (h.1 0 10)))
  else
  some (false, h)
set_option maxRecDepth 20000 in
set_option maxHeartbeats 4000000 in
theorem t_X12_fails (h : dH) : T XM 0 yX12_fails cX12_fails 1 (some .boolean) fiC [.ref 0] h (f_X12_fails h) := by
  refine T_of [.ref 0] (by decide) (fun _ => rfl) (fun _ => Nat.le_of_ble_eq_true rfl) ?_
  show B XM 0 RX12 cX12_fails 1 (some .boolean) fiC 0 [.ref 0] [] h (f_X12_fails h)
  unfold f_X12_fails
  refine B_aload_n dX12_fails_0 rfl rfl ?_
  refine B_getI dX12_fails_1 fl_X12_135 shM_0 rfl ?_
  refine B_iconst dX12_fails_4 ic_m1 ?_
  refine C_icmp_ne (tgt := 16) dX12_fails_5 (by decide) (fun q1 => ?_) (fun q1 => ?_)
  · refine B_iconst dX12_fails_16 ic_0 ?_
    exact B_zreturn dX12_fails_17 rfl rfl rfl
  · refine B_aload_n dX12_fails_8 rfl rfl ?_
    refine B_aload_n dX12_fails_9 rfl rfl ?_
    refine B_getI dX12_fails_10 fl_X12_126 shM_0 rfl ?_
    refine B_putI dX12_fails_13 fl_X12_135 fw_X12_11 shM_0 rfl ?_
    refine B_iconst dX12_fails_16 ic_0 ?_
    exact B_zreturn dX12_fails_17 rfl rfl rfl
def f_X12_goesIn (h : dH) : Option (Bool × dH) :=
  if (h.1 0 12) = 6 then
  (f_X12_fails h).bind fun rv2 =>
  some (rv2.1, rv2.2)
  else
  (some (dPut h 0 12 ((h.1 0 12) + 1))).bind fun h1 =>
  some (true, (dPut h1 0 10 ((h1.1 0 10) + 1)))
set_option maxRecDepth 20000 in
set_option maxHeartbeats 4000000 in
theorem t_X12_goesIn (h : dH) : T XM 1 yX12_goesIn cX12_goesIn 1 (some .boolean) fiC [.ref 0] h (f_X12_goesIn h) := by
  refine T_of [.ref 0] (by decide) (fun _ => rfl) (fun _ => Nat.le_of_ble_eq_true rfl) ?_
  show B XM 1 RX12 cX12_goesIn 1 (some .boolean) fiC 0 [.ref 0] [] h (f_X12_goesIn h)
  unfold f_X12_goesIn
  refine B_aload_n dX12_goesIn_0 rfl rfl ?_
  refine B_getI dX12_goesIn_1 fl_X12_138 shM_0 rfl ?_
  refine B_bipush dX12_goesIn_4 bp_6 ?_
  refine C_icmp_ne (tgt := 14) dX12_goesIn_6 (by decide) (fun q4 => ?_) (fun q4 => ?_)
  · refine B_aload_n dX12_goesIn_14 rfl rfl ?_
    refine B_dup dX12_goesIn_15 rfl ?_
    refine B_getI dX12_goesIn_16 fl_X12_138 shM_0 rfl ?_
    refine B_iconst dX12_goesIn_19 ic_1 ?_
    refine B_iadd dX12_goesIn_20 ?_
    refine B_putI dX12_goesIn_21 fl_X12_138 fw_X12_12 shM_0 rfl ?_
    refine B_lh (fun h1 => ?_)
    refine B_aload_n dX12_goesIn_24 rfl rfl ?_
    refine B_dup dX12_goesIn_25 rfl ?_
    refine B_getI dX12_goesIn_26 fl_X12_126 shM_0 rfl ?_
    refine B_iconst dX12_goesIn_29 ic_1 ?_
    refine B_iadd dX12_goesIn_30 ?_
    refine B_putI dX12_goesIn_31 fl_X12_126 fw_X12_10 shM_0 rfl ?_
    refine B_iconst dX12_goesIn_34 ic_1 ?_
    exact B_zreturn dX12_goesIn_35 rfl rfl rfl
  · refine B_aload_n dX12_goesIn_9 rfl rfl ?_
    refine B_VC (st := []) dX12_goesIn_10 cl_X12_141 (t_X12_fails h) (Nat.le_of_ble_eq_true rfl) shM_0 rfl rfl (Nat.le_of_ble_eq_true rfl) (fun v2 h3 _ => ?_)
    exact B_zreturn dX12_goesIn_13 rfl (nar_bi v2) rfl
def f_X12_takes_J16 (h : dH) : Option (Bool × dH) :=
  (f_X12_fails h).bind fun rv5 =>
  some (rv5.1, rv5.2)
set_option maxRecDepth 20000 in
set_option maxHeartbeats 4000000 in
theorem b_X12_takes_J16 (h : dH) : B XM 1 RX12 cX12_takes 2 (some .boolean) fiC 16 [.ref 0, .null] [] h (f_X12_takes_J16 h) := by
  unfold f_X12_takes_J16
  refine B_aload_n dX12_takes_16 rfl rfl ?_
  refine B_VC (st := []) dX12_takes_17 cl_X12_141 (t_X12_fails h) (Nat.le_of_ble_eq_true rfl) shM_0 rfl rfl (Nat.le_of_ble_eq_true rfl) (fun v5 h6 _ => ?_)
  exact B_zreturn dX12_takes_20 rfl (nar_bi v5) rfl
def f_X12_takes (x1 : Int32) (h : dH) : Option (Bool × dH) :=
  if (h.1 0 11) = (-1) then
  (f_X12_look h).bind fun rv1 =>
  if rv1.1 = x1 then
  some (true, (dPut rv1.2 0 10 ((rv1.2.1 0 10) + 1)))
  else
  f_X12_takes_J16 rv1.2
  else
  f_X12_takes_J16 h
set_option maxRecDepth 20000 in
set_option maxHeartbeats 4000000 in
theorem t_X12_takes (x1 : Int32) (h : dH) : T XM 1 yX12_takes cX12_takes 2 (some .boolean) fiC [.ref 0, .int x1] h (f_X12_takes x1 h) := by
  refine T_of [.ref 0, .int x1] (by decide) (fun _ => rfl) (fun _ => Nat.le_of_ble_eq_true rfl) ?_
  show B XM 1 RX12 cX12_takes 2 (some .boolean) fiC 0 [.ref 0, .int x1] [] h (f_X12_takes x1 h)
  unfold f_X12_takes
  refine B_aload_n dX12_takes_0 rfl rfl ?_
  refine B_getI dX12_takes_1 fl_X12_135 shM_0 rfl ?_
  refine B_iconst dX12_takes_4 ic_m1 ?_
  refine C_icmp_ne (tgt := 16) dX12_takes_5 (by decide) (fun q4 => ?_) (fun q4 => ?_)
  · refine B_drop 1 (ls' := [.ref 0, .null]) rfl ?_
    exact b_X12_takes_J16 h
  · refine B_aload_n dX12_takes_8 rfl rfl ?_
    refine B_VI (st := []) dX12_takes_9 cl_X12_145 (t_X12_look h) (Nat.le_of_ble_eq_true rfl) shM_0 rfl rfl (Nat.le_of_ble_eq_true rfl) (fun v1 h2 _ => ?_)
    refine B_iload_n dX12_takes_12 rfl rfl ?_
    refine C_icmp_eq (tgt := 21) dX12_takes_13 (by decide) (fun q3 => ?_) (fun q3 => ?_)
    · refine B_aload_n dX12_takes_21 rfl rfl ?_
      refine B_dup dX12_takes_22 rfl ?_
      refine B_getI dX12_takes_23 fl_X12_126 shM_0 rfl ?_
      refine B_iconst dX12_takes_26 ic_1 ?_
      refine B_iadd dX12_takes_27 ?_
      refine B_putI dX12_takes_28 fl_X12_126 fw_X12_10 shM_0 rfl ?_
      refine B_iconst dX12_takes_31 ic_1 ?_
      exact B_zreturn dX12_takes_32 rfl rfl rfl
    · refine B_drop 1 (ls' := [.ref 0, .null]) rfl ?_
      exact b_X12_takes_J16 h2
def f_X12_isDigit (h : dH) : Option (Bool) :=
  if (h.1 0 10) < (h.1 0 9) then
  if dIn ((h.1 0 8) + (h.1 0 10)) (bln h.2.2) then
  if (h.1 h.2.2 (dI ((h.1 0 8) + (h.1 0 10)))) < 48 then
  some false
  else
  if dIn ((h.1 0 8) + (h.1 0 10)) (bln h.2.2) then
  if 57 < (h.1 h.2.2 (dI ((h.1 0 8) + (h.1 0 10)))) then
  some false
  else
  some true
  else none
  else none
  else
  some false
set_option maxRecDepth 20000 in
set_option maxHeartbeats 4000000 in
theorem t_X12_isDigit (h : dH) : T XM 0 yX12_isDigit cX12_isDigit 1 (some .boolean) (fiB h) [.ref 0] h (f_X12_isDigit h) := by
  refine T_of [.ref 0] (by decide) (fun _ => rfl) (fun _ => Nat.le_of_ble_eq_true rfl) ?_
  show B XM 0 RX12 cX12_isDigit 1 (some .boolean) (fiB h) 0 [.ref 0] [] h (f_X12_isDigit h)
  unfold f_X12_isDigit
  refine B_aload_n dX12_isDigit_0 rfl rfl ?_
  refine B_getI dX12_isDigit_1 fl_X12_126 shM_0 rfl ?_
  refine B_aload_n dX12_isDigit_4 rfl rfl ?_
  refine B_getI dX12_isDigit_5 fl_X12_129 shM_0 rfl ?_
  refine C_icmp_ge (tgt := 53) dX12_isDigit_8 (by decide) (fun q5 => ?_) (fun q5 => ?_)
  · refine B_iconst dX12_isDigit_53 ic_0 ?_
    exact B_zreturn dX12_isDigit_54 rfl rfl rfl
  · refine B_aload_n dX12_isDigit_11 rfl rfl ?_
    refine B_getR dX12_isDigit_12 fl_X12_23 shM_0 rfl (rfM_0_5 _) ?_
    refine B_aload_n dX12_isDigit_15 rfl rfl ?_
    refine B_getI dX12_isDigit_16 fl_X12_132 shM_0 rfl ?_
    refine B_aload_n dX12_isDigit_19 rfl rfl ?_
    refine B_getI dX12_isDigit_20 fl_X12_126 shM_0 rfl ?_
    refine B_iadd dX12_isDigit_23 ?_
    refine C_chk (fun q1 => ?_)
    refine L_baldD dX12_isDigit_24 q1 ?_
    refine B_bipush dX12_isDigit_25 bp_48 ?_
    refine C_icmp_lt (tgt := 53) dX12_isDigit_27 (by decide) (fun q4 => ?_) (fun q4 => ?_)
    · refine B_iconst dX12_isDigit_53 ic_0 ?_
      exact B_zreturn dX12_isDigit_54 rfl rfl rfl
    · refine B_aload_n dX12_isDigit_30 rfl rfl ?_
      refine B_getR dX12_isDigit_31 fl_X12_23 shM_0 rfl (rfM_0_5 _) ?_
      refine B_aload_n dX12_isDigit_34 rfl rfl ?_
      refine B_getI dX12_isDigit_35 fl_X12_132 shM_0 rfl ?_
      refine B_aload_n dX12_isDigit_38 rfl rfl ?_
      refine B_getI dX12_isDigit_39 fl_X12_126 shM_0 rfl ?_
      refine B_iadd dX12_isDigit_42 ?_
      refine C_chk (fun q2 => ?_)
      refine L_baldD dX12_isDigit_43 q2 ?_
      refine B_bipush dX12_isDigit_44 bp_57 ?_
      refine C_icmp_gt (tgt := 53) dX12_isDigit_46 (by decide) (fun q3 => ?_) (fun q3 => ?_)
      · refine B_iconst dX12_isDigit_53 ic_0 ?_
        exact B_zreturn dX12_isDigit_54 rfl rfl rfl
      · refine B_iconst dX12_isDigit_49 ic_1 ?_
        refine B_goto (tgt := 54) dX12_isDigit_50 (by decide) ?_
        exact B_zreturn dX12_isDigit_54 rfl rfl rfl
def f_X12_within (x0 : Int64) (h : dH) : Int32 :=
  ((jmaxL (-1000000) (jminL 1000000 x0)) : Int64).toInt32
set_option maxRecDepth 20000 in
set_option maxHeartbeats 4000000 in
theorem t_X12_within (x0 : Int64) (h : dH) : T XM 1 yX12_within cX12_within 2 (some .int) (fiP h) [.long x0] h (some (f_X12_within x0 h)) := by
  refine T_of [.long x0, .null] (by decide) (fun _ => rfl) (fun _ => Nat.le_of_ble_eq_true rfl) ?_
  show B XM 1 RX12 cX12_within 2 (some .int) (fiP h) 0 [.long x0, .null] [] h (some (f_X12_within x0 h))
  unfold f_X12_within
  refine B_ldc2 dX12_within_0 kc_X12_148 ?_
  refine B_ldc2 dX12_within_3 kc_X12_150 ?_
  refine B_lload_n dX12_within_6 rfl rfl ?_
  refine B_mminL dX12_within_7 mt_X12_152 (Nat.le_of_ble_eq_true rfl) (Nat.le_of_ble_eq_true rfl) ?_
  refine B_mmaxL dX12_within_10 mt_X12_158 (Nat.le_of_ble_eq_true rfl) (Nat.le_of_ble_eq_true rfl) ?_
  refine B_l2i dX12_within_13 ?_
  exact B_ireturn dX12_within_14 rfl rfl
def f_X12_isSign (x0 : Int32) (h : dH) : Bool :=
  if x0 = 61 then
  true
  else
  if x0 = 60 then
  true
  else
  if x0 = 62 then
  true
  else
  false
set_option maxRecDepth 20000 in
set_option maxHeartbeats 4000000 in
theorem t_X12_isSign (x0 : Int32) (h : dH) : T XM 0 yX12_isSign cX12_isSign 1 (some .boolean) (fiB h) [.int x0] h (some (f_X12_isSign x0 h)) := by
  refine T_of [.int x0] (by decide) (fun _ => rfl) (fun _ => Nat.le_of_ble_eq_true rfl) ?_
  show B XM 0 RX12 cX12_isSign 1 (some .boolean) (fiB h) 0 [.int x0] [] h (some (f_X12_isSign x0 h))
  unfold f_X12_isSign
  refine B_iload_n dX12_isSign_0 rfl rfl ?_
  refine B_bipush dX12_isSign_1 bp_61 ?_
  refine C_some ?_
  refine C_icmp_eq (tgt := 18) dX12_isSign_3 (by decide) (fun q3 => ?_) (fun q3 => ?_)
  · refine B_iconst dX12_isSign_18 ic_1 ?_
    refine B_goto (tgt := 23) dX12_isSign_19 (by decide) ?_
    exact B_zreturn dX12_isSign_23 rfl rfl rfl
  · refine B_iload_n dX12_isSign_6 rfl rfl ?_
    refine B_bipush dX12_isSign_7 bp_60 ?_
    refine C_some ?_
    refine C_icmp_eq (tgt := 18) dX12_isSign_9 (by decide) (fun q2 => ?_) (fun q2 => ?_)
    · refine B_iconst dX12_isSign_18 ic_1 ?_
      refine B_goto (tgt := 23) dX12_isSign_19 (by decide) ?_
      exact B_zreturn dX12_isSign_23 rfl rfl rfl
    · refine B_iload_n dX12_isSign_12 rfl rfl ?_
      refine B_bipush dX12_isSign_13 bp_62 ?_
      refine C_some ?_
      refine C_icmp_ne (tgt := 22) dX12_isSign_15 (by decide) (fun q1 => ?_) (fun q1 => ?_)
      · refine B_iconst dX12_isSign_22 ic_0 ?_
        exact B_zreturn dX12_isSign_23 rfl rfl rfl
      · refine B_iconst dX12_isSign_18 ic_1 ?_
        refine B_goto (tgt := 23) dX12_isSign_19 (by decide) ?_
        exact B_zreturn dX12_isSign_23 rfl rfl rfl
def f_X12_starts (bs : Nat) (x2 : Int32) (x3 : Int32) (h : dH) : Option (dH) :=
  (some (dPutT h bs)).bind fun h1 =>
  (some (dPut h1 0 8 x2)).bind fun h2 =>
  (some (dPut h2 0 9 x3)).bind fun h3 =>
  (some (dPut h3 0 10 0)).bind fun h4 =>
  some (dPut h4 0 11 (-1))
set_option maxRecDepth 20000 in
set_option maxHeartbeats 4000000 in
theorem t_X12_starts (bs : Nat) (hbs : bs = 1 ∨ bs = 2) (x2 : Int32) (x3 : Int32) (h : dH) : T XM 0 yX12_starts cX12_starts 4 none fiV [.ref 0, .ref bs, .int x2, .int x3] h (f_X12_starts bs x2 x3 h) := by
  refine T_of [.ref 0, .ref bs, .int x2, .int x3] (by decide) (fun _ => rfl) (fun _ => Nat.le_of_ble_eq_true rfl) ?_
  show B XM 0 RX12 cX12_starts 4 none fiV 0 [.ref 0, .ref bs, .int x2, .int x3] [] h (f_X12_starts bs x2 x3 h)
  unfold f_X12_starts
  refine B_aload_n dX12_starts_0 rfl rfl ?_
  refine B_aload_n dX12_starts_1 rfl rfl ?_
  refine B_putR dX12_starts_2 fl_X12_23 fw_X12_5 shM_0 rfl (rfM_0_5 _) rfM_oth ?_
  refine B_lh (fun h1 => ?_)
  refine B_aload_n dX12_starts_5 rfl rfl ?_
  refine B_iload_n dX12_starts_6 rfl rfl ?_
  refine B_putI dX12_starts_7 fl_X12_132 fw_X12_8 shM_0 rfl ?_
  refine B_lh (fun h2 => ?_)
  refine B_aload_n dX12_starts_10 rfl rfl ?_
  refine B_iload_n dX12_starts_11 rfl rfl ?_
  refine B_putI dX12_starts_12 fl_X12_129 fw_X12_9 shM_0 rfl ?_
  refine B_lh (fun h3 => ?_)
  refine B_aload_n dX12_starts_15 rfl rfl ?_
  refine B_iconst dX12_starts_16 ic_0 ?_
  refine B_putI dX12_starts_17 fl_X12_126 fw_X12_10 shM_0 rfl ?_
  refine B_lh (fun h4 => ?_)
  refine B_aload_n dX12_starts_20 rfl rfl ?_
  refine B_iconst dX12_starts_21 ic_m1 ?_
  refine B_putI dX12_starts_22 fl_X12_135 fw_X12_11 shM_0 rfl ?_
  exact B_return dX12_starts_25 rfl rfl
def f_X12_here (h : dH) : Option (Int32) :=
  if (h.1 0 10) < (h.1 0 9) then
  if dIn ((h.1 0 8) + (h.1 0 10)) (bln h.2.2) then
  some ((h.1 h.2.2 (dI ((h.1 0 8) + (h.1 0 10)))) &&& 255)
  else none
  else
  some (-1)
set_option maxRecDepth 20000 in
set_option maxHeartbeats 4000000 in
theorem t_X12_here (h : dH) : T XM 0 yX12_here cX12_here 1 (some .int) (fiP h) [.ref 0] h (f_X12_here h) := by
  refine T_of [.ref 0] (by decide) (fun _ => rfl) (fun _ => Nat.le_of_ble_eq_true rfl) ?_
  show B XM 0 RX12 cX12_here 1 (some .int) (fiP h) 0 [.ref 0] [] h (f_X12_here h)
  unfold f_X12_here
  refine B_aload_n dX12_here_0 rfl rfl ?_
  refine B_getI dX12_here_1 fl_X12_126 shM_0 rfl ?_
  refine B_aload_n dX12_here_4 rfl rfl ?_
  refine B_getI dX12_here_5 fl_X12_129 shM_0 rfl ?_
  refine C_icmp_ge (tgt := 32) dX12_here_8 (by decide) (fun q2 => ?_) (fun q2 => ?_)
  · refine B_iconst dX12_here_32 ic_m1 ?_
    exact B_ireturn dX12_here_33 rfl rfl
  · refine B_aload_n dX12_here_11 rfl rfl ?_
    refine B_getR dX12_here_12 fl_X12_23 shM_0 rfl (rfM_0_5 _) ?_
    refine B_aload_n dX12_here_15 rfl rfl ?_
    refine B_getI dX12_here_16 fl_X12_132 shM_0 rfl ?_
    refine B_aload_n dX12_here_19 rfl rfl ?_
    refine B_getI dX12_here_20 fl_X12_126 shM_0 rfl ?_
    refine B_iadd dX12_here_23 ?_
    refine C_chk (fun q1 => ?_)
    refine L_baldD dX12_here_24 q1 ?_
    refine B_sipush dX12_here_25 sp_255 ?_
    refine B_iand dX12_here_28 ?_
    refine B_goto (tgt := 33) dX12_here_29 (by decide) ?_
    exact B_ireturn dX12_here_33 rfl rfl
def f_X12_number_J67 (y1 : Int32) (y2 : Int32) (y4 : Int32) (h : dH) : Option (Int32 × dH) :=
  (f_X12_isDigit h).bind fun v13 =>
  if v13 then
  (f_X12_fails h).bind fun rv18 =>
  some (0, rv18.2)
  else
  if (f_X12_isIn ((y4 : Int32).toInt64) ((y1 : Int32).toInt64) ((y2 : Int32).toInt64) h) then
  some (y4, h)
  else
  (some (dPut h 0 10 ((h.1 0 10) - 1))).bind fun h14 =>
  (f_X12_fails h14).bind fun rv15 =>
  some (y4, rv15.2)
set_option maxRecDepth 20000 in
set_option maxHeartbeats 4000000 in
theorem b_X12_number_J67 (y1 : Int32) (y2 : Int32) (y4 : Int32) (h : dH) : B XM 1 RX12 cX12_number 5 (some .int) fiI 67 [.ref 0, .int y1, .int y2, .null, .int y4] [] h (f_X12_number_J67 y1 y2 y4 h) := by
  unfold f_X12_number_J67
  refine B_aload_n dX12_number_67 rfl rfl ?_
  refine B_Vpb (st := []) dX12_number_68 cl_X12_175 (t_X12_isDigit h) (Nat.le_of_ble_eq_true rfl) shM_0 rfl rfl (Nat.le_of_ble_eq_true rfl) (fun v13 _ => ?_)
  refine C_ifb_eq (tgt := 81) dX12_number_71 (by decide) (fun q20 => ?_) (fun q20 => ?_)
  · refine B_iload dX12_number_81 rfl ?_
    refine B_i2l dX12_number_83 ?_
    refine B_iload_n dX12_number_84 rfl rfl ?_
    refine B_i2l dX12_number_85 ?_
    refine B_iload_n dX12_number_86 rfl rfl ?_
    refine B_i2l dX12_number_87 ?_
    refine B_STb (st := []) dX12_number_88 cl_X12_224 (t_X12_isIn ((y4 : Int32).toInt64) ((y1 : Int32).toInt64) ((y2 : Int32).toInt64) h) (Nat.le_of_ble_eq_true rfl) rfl rfl (Nat.le_of_ble_eq_true rfl) ?_
    refine C_ifb_ne (tgt := 109) dX12_number_91 (by decide) (fun q17 => ?_) (fun q17 => ?_)
    · refine B_iload dX12_number_109 rfl ?_
      exact B_ireturn dX12_number_111 rfl rfl
    · refine B_aload_n dX12_number_94 rfl rfl ?_
      refine B_dup dX12_number_95 rfl ?_
      refine B_getI dX12_number_96 fl_X12_126 shM_0 rfl ?_
      refine B_iconst dX12_number_99 ic_1 ?_
      refine B_isub dX12_number_100 ?_
      refine B_putI dX12_number_101 fl_X12_126 fw_X12_10 shM_0 rfl ?_
      refine B_lh (fun h14 => ?_)
      refine B_aload_n dX12_number_104 rfl rfl ?_
      refine B_VC (st := []) dX12_number_105 cl_X12_141 (t_X12_fails h14) (Nat.le_of_ble_eq_true rfl) shM_0 rfl rfl (Nat.le_of_ble_eq_true rfl) (fun v15 h16 _ => ?_)
      refine B_pop dX12_number_108 rfl ?_
      refine B_iload dX12_number_109 rfl ?_
      exact B_ireturn dX12_number_111 rfl rfl
  · refine B_aload_n dX12_number_74 rfl rfl ?_
    refine B_VC (st := []) dX12_number_75 cl_X12_141 (t_X12_fails h) (Nat.le_of_ble_eq_true rfl) shM_0 rfl rfl (Nat.le_of_ble_eq_true rfl) (fun v18 h19 _ => ?_)
    refine B_pop dX12_number_78 rfl ?_
    refine B_iconst dX12_number_79 ic_0 ?_
    exact B_ireturn dX12_number_80 rfl rfl
def f_X12_number (x1 : Int32) (x2 : Int32) (h : dH) : Option (Int32 × dH) :=
  (f_X12_look h).bind fun rv1 =>
  (f_X12_isDigit rv1.2).bind fun v3 =>
  if v3 then
  (some (dPut rv1.2 0 10 ((rv1.2.1 0 10) + 1))).bind fun h4 =>
  (f_X12_isDigit h4).bind fun v5 =>
  if v5 then
  (f_X12_here h4).bind fun v6 =>
  (some ((((10 * (rv1.1 - 48)) + v6) - 48))).bind fun v7 =>
  (some (dPut h4 0 10 ((h4.1 0 10) + 1))).bind fun h8 =>
  f_X12_number_J67 x1 x2 v7 h8
  else
  f_X12_number_J67 x1 x2 (rv1.1 - 48) h4
  else
  (f_X12_fails rv1.2).bind fun rv10 =>
  some (0, rv10.2)
set_option maxRecDepth 20000 in
set_option maxHeartbeats 4000000 in
theorem t_X12_number (x1 : Int32) (x2 : Int32) (h : dH) : T XM 1 yX12_number cX12_number 5 (some .int) fiI [.ref 0, .int x1, .int x2] h (f_X12_number x1 x2 h) := by
  refine T_of [.ref 0, .int x1, .int x2, .null, .null] (by decide) (fun _ => rfl) (fun _ => Nat.le_of_ble_eq_true rfl) ?_
  show B XM 1 RX12 cX12_number 5 (some .int) fiI 0 [.ref 0, .int x1, .int x2, .null, .null] [] h (f_X12_number x1 x2 h)
  unfold f_X12_number
  refine B_aload_n dX12_number_0 rfl rfl ?_
  refine B_VI (st := []) dX12_number_1 cl_X12_145 (t_X12_look h) (Nat.le_of_ble_eq_true rfl) shM_0 rfl rfl (Nat.le_of_ble_eq_true rfl) (fun v1 h2 _ => ?_)
  refine B_istore_n (ls' := [.ref 0, .int x1, .int x2, .int v1, .null]) dX12_number_4 rfl (Nat.le_of_ble_eq_true rfl) rfl rfl ?_
  refine B_aload_n dX12_number_5 rfl rfl ?_
  refine B_Vpb (st := []) dX12_number_6 cl_X12_175 (t_X12_isDigit h2) (Nat.le_of_ble_eq_true rfl) shM_0 rfl rfl (Nat.le_of_ble_eq_true rfl) (fun v3 _ => ?_)
  refine C_ifb_ne (tgt := 19) dX12_number_9 (by decide) (fun q12 => ?_) (fun q12 => ?_)
  · refine B_iload_n dX12_number_19 rfl rfl ?_
    refine B_bipush dX12_number_20 bp_48 ?_
    refine B_isub dX12_number_22 ?_
    refine B_istore (ls' := [.ref 0, .int x1, .int x2, .int v1, .int (v1 - 48)]) dX12_number_23 (Nat.le_of_ble_eq_true rfl) rfl rfl ?_
    refine B_aload_n dX12_number_25 rfl rfl ?_
    refine B_dup dX12_number_26 rfl ?_
    refine B_getI dX12_number_27 fl_X12_126 shM_0 rfl ?_
    refine B_iconst dX12_number_30 ic_1 ?_
    refine B_iadd dX12_number_31 ?_
    refine B_putI dX12_number_32 fl_X12_126 fw_X12_10 shM_0 rfl ?_
    refine B_lh (fun h4 => ?_)
    refine B_aload_n dX12_number_35 rfl rfl ?_
    refine B_Vpb (st := []) dX12_number_36 cl_X12_175 (t_X12_isDigit h4) (Nat.le_of_ble_eq_true rfl) shM_0 rfl rfl (Nat.le_of_ble_eq_true rfl) (fun v5 _ => ?_)
    refine C_ifb_eq (tgt := 67) dX12_number_39 (by decide) (fun q9 => ?_) (fun q9 => ?_)
    · refine B_drop 3 (ls' := [.ref 0, .int x1, .int x2, .null, .int (v1 - 48)]) rfl ?_
      exact b_X12_number_J67 x1 x2 (v1 - 48) h4
    · refine B_bipush dX12_number_42 bp_10 ?_
      refine B_iload dX12_number_44 rfl ?_
      refine B_imul dX12_number_46 ?_
      refine B_aload_n dX12_number_47 rfl rfl ?_
      refine B_Vp (st := [.int (10 * (v1 - 48))]) dX12_number_48 cl_X12_221 (t_X12_here h4) (Nat.le_of_ble_eq_true rfl) shM_0 rfl rfl (Nat.le_of_ble_eq_true rfl) (fun v6 _ => ?_)
      refine B_iadd dX12_number_51 ?_
      refine B_bipush dX12_number_52 bp_48 ?_
      refine B_isub dX12_number_54 ?_
      refine B_lv (fun v7 => ?_)
      refine B_istore (ls' := [.ref 0, .int x1, .int x2, .int v1, .int v7]) dX12_number_55 (Nat.le_of_ble_eq_true rfl) rfl rfl ?_
      refine B_aload_n dX12_number_57 rfl rfl ?_
      refine B_dup dX12_number_58 rfl ?_
      refine B_getI dX12_number_59 fl_X12_126 shM_0 rfl ?_
      refine B_iconst dX12_number_62 ic_1 ?_
      refine B_iadd dX12_number_63 ?_
      refine B_putI dX12_number_64 fl_X12_126 fw_X12_10 shM_0 rfl ?_
      refine B_lh (fun h8 => ?_)
      refine B_drop 3 (ls' := [.ref 0, .int x1, .int x2, .null, .int v7]) rfl ?_
      exact b_X12_number_J67 x1 x2 v7 h8
  · refine B_aload_n dX12_number_12 rfl rfl ?_
    refine B_VC (st := []) dX12_number_13 cl_X12_141 (t_X12_fails h2) (Nat.le_of_ble_eq_true rfl) shM_0 rfl rfl (Nat.le_of_ble_eq_true rfl) (fun v10 h11 _ => ?_)
    refine B_pop dX12_number_16 rfl ?_
    refine B_iconst dX12_number_17 ic_0 ?_
    exact B_ireturn dX12_number_18 rfl rfl
def f_X12_mostOf (x0 : Int32) (x1 : Int32) (h : dH) : Int32 :=
  if x0 = 115 then
  if x1 = 2 then
  9
  else
  60
  else
  if x1 = 2 then
  3
  else
  if x1 = 4 then
  30
  else
  9
set_option maxRecDepth 20000 in
set_option maxHeartbeats 4000000 in
theorem t_X12_mostOf (x0 : Int32) (x1 : Int32) (h : dH) : T XM 0 yX12_mostOf cX12_mostOf 2 (some .int) (fiP h) [.int x0, .int x1] h (some (f_X12_mostOf x0 x1 h)) := by
  refine T_of [.int x0, .int x1] (by decide) (fun _ => rfl) (fun _ => Nat.le_of_ble_eq_true rfl) ?_
  show B XM 0 RX12 cX12_mostOf 2 (some .int) (fiP h) 0 [.int x0, .int x1] [] h (some (f_X12_mostOf x0 x1 h))
  unfold f_X12_mostOf
  refine B_iload_n dX12_mostOf_0 rfl rfl ?_
  refine B_bipush dX12_mostOf_1 bp_115 ?_
  refine C_some ?_
  refine C_icmp_ne (tgt := 19) dX12_mostOf_3 (by decide) (fun q4 => ?_) (fun q4 => ?_)
  · refine B_iload_n dX12_mostOf_19 rfl rfl ?_
    refine B_iconst dX12_mostOf_20 ic_2 ?_
    refine C_some ?_
    refine C_icmp_ne (tgt := 28) dX12_mostOf_21 (by decide) (fun q2 => ?_) (fun q2 => ?_)
    · refine B_iload_n dX12_mostOf_28 rfl rfl ?_
      refine B_iconst dX12_mostOf_29 ic_4 ?_
      refine C_some ?_
      refine C_icmp_ne (tgt := 38) dX12_mostOf_30 (by decide) (fun q1 => ?_) (fun q1 => ?_)
      · refine B_bipush dX12_mostOf_38 bp_9 ?_
        exact B_ireturn dX12_mostOf_40 rfl rfl
      · refine B_bipush dX12_mostOf_33 bp_30 ?_
        refine B_goto (tgt := 40) dX12_mostOf_35 (by decide) ?_
        exact B_ireturn dX12_mostOf_40 rfl rfl
    · refine B_iconst dX12_mostOf_24 ic_3 ?_
      refine B_goto (tgt := 40) dX12_mostOf_25 (by decide) ?_
      exact B_ireturn dX12_mostOf_40 rfl rfl
  · refine B_iload_n dX12_mostOf_6 rfl rfl ?_
    refine B_iconst dX12_mostOf_7 ic_2 ?_
    refine C_some ?_
    refine C_icmp_ne (tgt := 16) dX12_mostOf_8 (by decide) (fun q3 => ?_) (fun q3 => ?_)
    · refine B_bipush dX12_mostOf_16 bp_60 ?_
      exact B_ireturn dX12_mostOf_18 rfl rfl
    · refine B_bipush dX12_mostOf_11 bp_9 ?_
      refine B_goto (tgt := 18) dX12_mostOf_13 (by decide) ?_
      exact B_ireturn dX12_mostOf_18 rfl rfl
def f_X12_leastOf (x0 : Int32) (x1 : Int32) (h : dH) : Int32 :=
  if x0 = 115 then
  if x1 < 2 then
  1
  else
  0
  else
  0
set_option maxRecDepth 20000 in
set_option maxHeartbeats 4000000 in
theorem t_X12_leastOf (x0 : Int32) (x1 : Int32) (h : dH) : T XM 0 yX12_leastOf cX12_leastOf 2 (some .int) (fiP h) [.int x0, .int x1] h (some (f_X12_leastOf x0 x1 h)) := by
  refine T_of [.int x0, .int x1] (by decide) (fun _ => rfl) (fun _ => Nat.le_of_ble_eq_true rfl) ?_
  show B XM 0 RX12 cX12_leastOf 2 (some .int) (fiP h) 0 [.int x0, .int x1] [] h (some (f_X12_leastOf x0 x1 h))
  unfold f_X12_leastOf
  refine B_iload_n dX12_leastOf_0 rfl rfl ?_
  refine B_bipush dX12_leastOf_1 bp_115 ?_
  refine C_some ?_
  refine C_icmp_ne (tgt := 15) dX12_leastOf_3 (by decide) (fun q2 => ?_) (fun q2 => ?_)
  · refine B_iconst dX12_leastOf_15 ic_0 ?_
    exact B_ireturn dX12_leastOf_16 rfl rfl
  · refine B_iload_n dX12_leastOf_6 rfl rfl ?_
    refine B_iconst dX12_leastOf_7 ic_2 ?_
    refine C_some ?_
    refine C_icmp_ge (tgt := 15) dX12_leastOf_8 (by decide) (fun q1 => ?_) (fun q1 => ?_)
    · refine B_iconst dX12_leastOf_15 ic_0 ?_
      exact B_ireturn dX12_leastOf_16 rfl rfl
    · refine B_iconst dX12_leastOf_11 ic_1 ?_
      refine B_goto (tgt := 16) dX12_leastOf_12 (by decide) ?_
      exact B_ireturn dX12_leastOf_16 rfl rfl
def f_X12_usual (x0 : Int32) (x1 : Int32) (h : dH) : Int32 :=
  if x0 = 115 then
  if x1 = 0 then
  30
  else
  if x1 = 1 then
  40
  else
  2
  else
  if x1 = 3 then
  3
  else
  if x1 = 4 then
  6
  else
  0
set_option maxRecDepth 20000 in
set_option maxHeartbeats 4000000 in
theorem t_X12_usual (x0 : Int32) (x1 : Int32) (h : dH) : T XM 0 yX12_usual cX12_usual 2 (some .int) (fiP h) [.int x0, .int x1] h (some (f_X12_usual x0 x1 h)) := by
  refine T_of [.int x0, .int x1] (by decide) (fun _ => rfl) (fun _ => Nat.le_of_ble_eq_true rfl) ?_
  show B XM 0 RX12 cX12_usual 2 (some .int) (fiP h) 0 [.int x0, .int x1] [] h (some (f_X12_usual x0 x1 h))
  unfold f_X12_usual
  refine B_iload_n dX12_usual_0 rfl rfl ?_
  refine B_bipush dX12_usual_1 bp_115 ?_
  refine C_some ?_
  refine C_icmp_ne (tgt := 27) dX12_usual_3 (by decide) (fun q5 => ?_) (fun q5 => ?_)
  · refine B_iload_n dX12_usual_27 rfl rfl ?_
    refine B_iconst dX12_usual_28 ic_3 ?_
    refine C_some ?_
    refine C_icmp_ne (tgt := 36) dX12_usual_29 (by decide) (fun q2 => ?_) (fun q2 => ?_)
    · refine B_iload_n dX12_usual_36 rfl rfl ?_
      refine B_iconst dX12_usual_37 ic_4 ?_
      refine C_some ?_
      refine C_icmp_ne (tgt := 46) dX12_usual_38 (by decide) (fun q1 => ?_) (fun q1 => ?_)
      · refine B_iconst dX12_usual_46 ic_0 ?_
        exact B_ireturn dX12_usual_47 rfl rfl
      · refine B_bipush dX12_usual_41 bp_6 ?_
        refine B_goto (tgt := 47) dX12_usual_43 (by decide) ?_
        exact B_ireturn dX12_usual_47 rfl rfl
    · refine B_iconst dX12_usual_32 ic_3 ?_
      refine B_goto (tgt := 47) dX12_usual_33 (by decide) ?_
      exact B_ireturn dX12_usual_47 rfl rfl
  · refine B_iload_n dX12_usual_6 rfl rfl ?_
    refine C_some ?_
    refine C_if_ne (tgt := 15) dX12_usual_7 (by decide) (fun q4 => ?_) (fun q4 => ?_)
    · refine B_iload_n dX12_usual_15 rfl rfl ?_
      refine B_iconst dX12_usual_16 ic_1 ?_
      refine C_some ?_
      refine C_icmp_ne (tgt := 25) dX12_usual_17 (by decide) (fun q3 => ?_) (fun q3 => ?_)
      · refine B_iconst dX12_usual_25 ic_2 ?_
        exact B_ireturn dX12_usual_26 rfl rfl
      · refine B_bipush dX12_usual_20 bp_40 ?_
        refine B_goto (tgt := 26) dX12_usual_22 (by decide) ?_
        exact B_ireturn dX12_usual_26 rfl rfl
    · refine B_bipush dX12_usual_10 bp_30 ?_
      refine B_goto (tgt := 26) dX12_usual_12 (by decide) ?_
      exact B_ireturn dX12_usual_26 rfl rfl
def f_X12_readItems_L45 (to : Nat) (nn : Nat) (ks : Nat) : Nat → Int32 → Int32 → Int32 → Int32 → dH → Option (dH)
  | 0, _, _, _, _, _ => none
  | n + 1, y1, y3, y5, y6, h =>
    if y6 = (-1) then
    some h
    else
    if (h.1 0 11) = (-1) then
    if (f_X12_has y5 y6 h) then
    (f_X12_fails h).bind fun rv17 =>
    some rv17.2
    else
    (some ((y5 ||| (1 <<< (y6 &&& 31))))).bind fun v7 =>
    (some (dPut h 0 10 ((h.1 0 10) + 1))).bind fun h8 =>
    (f_X12_number (f_X12_leastOf y1 y6 h8) (f_X12_mostOf y1 y6 h8) h8).bind fun rv9 =>
    if dIn (y3 + y6) nn then
    (some (dPut rv9.2 to (dI (y3 + y6)) rv9.1)).bind fun h12 =>
    if (h12.1 0 11) = (-1) then
    (f_X12_look h12).bind fun rv13 =>
    (some ((f_X12_spotOf ks rv13.1))).bind fun v15 =>
    (f_X12_readItems_L45 to nn ks n) y1 y3 v7 v15 rv13.2
    else
    (f_X12_readItems_L45 to nn ks n) y1 y3 v7 y6 h12
    else none
    else
    some h
set_option maxRecDepth 20000 in
set_option maxHeartbeats 4000000 in
theorem b_X12_readItems_L45 {to : Nat} {nn : Nat} {ks : Nat} (hto : XM.1[to]? = some (.inr (0, nn))) (hks : ks < 9) : ∀ (n : Nat) (y1 : Int32) (y3 : Int32) (y5 : Int32) (y6 : Int32) (h : dH), B XM 8 RX12 cX12_readItems 7 none fiV 45 [.ref 0, .int y1, .ref to, .int y3, .ref (2000 + ks), .int y5, .int y6] [] h (f_X12_readItems_L45 to nn ks n y1 y3 y5 y6 h) := by
  intro n
  induction n with
  | zero =>
    intro y1 y3 y5 y6 h
    exact B_none
  | succ n ih =>
    intro y1 y3 y5 y6 h
    rw [f_X12_readItems_L45]
    refine B_iload dX12_readItems_45 rfl ?_
    refine B_iconst dX12_readItems_47 ic_m1 ?_
    refine C_icmp_eq (tgt := 138) dX12_readItems_48 (by decide) (fun q21 => ?_) (fun q21 => ?_)
    · exact B_return dX12_readItems_138 rfl rfl
    · refine B_aload_n dX12_readItems_51 rfl rfl ?_
      refine B_getI dX12_readItems_52 fl_X12_135 shM_0 rfl ?_
      refine B_iconst dX12_readItems_55 ic_m1 ?_
      refine C_icmp_ne (tgt := 138) dX12_readItems_56 (by decide) (fun q20 => ?_) (fun q20 => ?_)
      · exact B_return dX12_readItems_138 rfl rfl
      · refine B_iload dX12_readItems_59 rfl ?_
        refine B_iload dX12_readItems_61 rfl ?_
        refine B_STb (st := []) dX12_readItems_63 cl_X12_236 (t_X12_has y5 y6 h) (Nat.le_of_ble_eq_true rfl) rfl rfl (Nat.le_of_ble_eq_true rfl) ?_
        refine C_ifb_eq (tgt := 75) dX12_readItems_66 (by decide) (fun q19 => ?_) (fun q19 => ?_)
        · refine B_iload dX12_readItems_75 rfl ?_
          refine B_iconst dX12_readItems_77 ic_1 ?_
          refine B_iload dX12_readItems_78 rfl ?_
          refine B_ishl dX12_readItems_80 ?_
          refine B_ior dX12_readItems_81 ?_
          refine B_lv (fun v7 => ?_)
          refine B_istore (ls' := [.ref 0, .int y1, .ref to, .int y3, .ref (2000 + ks), .int v7, .int y6]) dX12_readItems_82 (Nat.le_of_ble_eq_true rfl) rfl rfl ?_
          refine B_aload_n dX12_readItems_84 rfl rfl ?_
          refine B_dup dX12_readItems_85 rfl ?_
          refine B_getI dX12_readItems_86 fl_X12_126 shM_0 rfl ?_
          refine B_iconst dX12_readItems_89 ic_1 ?_
          refine B_iadd dX12_readItems_90 ?_
          refine B_putI dX12_readItems_91 fl_X12_126 fw_X12_10 shM_0 rfl ?_
          refine B_lh (fun h8 => ?_)
          refine B_aload_n dX12_readItems_94 rfl rfl ?_
          refine B_iload_n dX12_readItems_95 rfl rfl ?_
          refine B_iload dX12_readItems_96 rfl ?_
          refine B_iadd dX12_readItems_98 ?_
          refine B_aload_n dX12_readItems_99 rfl rfl ?_
          refine B_iload_n dX12_readItems_100 rfl rfl ?_
          refine B_iload dX12_readItems_101 rfl ?_
          refine B_St (st := [.ref 0, .int (y3 + y6), .ref to]) dX12_readItems_103 cl_X12_240 (t_X12_leastOf y1 y6 h8) (Nat.le_of_ble_eq_true rfl) rfl rfl (Nat.le_of_ble_eq_true rfl) ?_
          refine B_iload_n dX12_readItems_106 rfl rfl ?_
          refine B_iload dX12_readItems_107 rfl ?_
          refine B_St (st := [.int (f_X12_leastOf y1 y6 h8), .ref 0, .int (y3 + y6), .ref to]) dX12_readItems_109 cl_X12_243 (t_X12_mostOf y1 y6 h8) (Nat.le_of_ble_eq_true rfl) rfl rfl (Nat.le_of_ble_eq_true rfl) ?_
          refine B_VI (st := [.int (y3 + y6), .ref to]) dX12_readItems_112 cl_X12_246 (t_X12_number (f_X12_leastOf y1 y6 h8) (f_X12_mostOf y1 y6 h8) h8) (Nat.le_of_ble_eq_true rfl) shM_0 rfl rfl (Nat.le_of_ble_eq_true rfl) (fun v9 h10 _ => ?_)
          refine C_chk (fun q11 => ?_)
          refine L_iast dX12_readItems_115 hto q11 rfl ?_
          refine B_lh (fun h12 => ?_)
          refine B_aload_n dX12_readItems_116 rfl rfl ?_
          refine B_getI dX12_readItems_117 fl_X12_135 shM_0 rfl ?_
          refine B_iconst dX12_readItems_120 ic_m1 ?_
          refine C_icmp_ne (tgt := 45) dX12_readItems_121 (by decide) (fun q16 => ?_) (fun q16 => ?_)
          · exact ih y1 y3 v7 y6  h12
          · refine B_aload dX12_readItems_124 rfl ?_
            refine B_aload_n dX12_readItems_126 rfl rfl ?_
            refine B_VI (st := [.ref (2000 + ks)]) dX12_readItems_127 cl_X12_145 (t_X12_look h12) (Nat.le_of_ble_eq_true rfl) shM_0 rfl rfl (Nat.le_of_ble_eq_true rfl) (fun v13 h14 _ => ?_)
            refine B_St (st := []) dX12_readItems_130 cl_X12_232 (t_X12_spotOf ks hks v13 h14) (Nat.le_of_ble_eq_true rfl) rfl rfl (Nat.le_of_ble_eq_true rfl) ?_
            refine B_lv (fun v15 => ?_)
            refine B_istore (ls' := [.ref 0, .int y1, .ref to, .int y3, .ref (2000 + ks), .int v7, .int v15]) dX12_readItems_133 (Nat.le_of_ble_eq_true rfl) rfl rfl ?_
            refine B_goto (tgt := 45) dX12_readItems_135 (by decide) ?_
            exact ih y1 y3 v7 v15  h14
        · refine B_aload_n dX12_readItems_69 rfl rfl ?_
          refine B_VC (st := []) dX12_readItems_70 cl_X12_141 (t_X12_fails h) (Nat.le_of_ble_eq_true rfl) shM_0 rfl rfl (Nat.le_of_ble_eq_true rfl) (fun v17 h18 _ => ?_)
          refine B_pop dX12_readItems_73 rfl ?_
          exact B_return dX12_readItems_74 rfl rfl
def f_X12_readItems_L3 (to : Nat) (nn : Nat) (ks : Nat) : Nat → Int32 → Int32 → Int32 → dH → Option (dH)
  | 0, _, _, _, _ => none
  | n + 1, y1, y3, y5, h =>
    if y5 < (sln ks) then
    if dIn (y3 + y5) nn then
    (some (dPut h to (dI (y3 + y5)) (f_X12_usual y1 y5 h))).bind fun h5 =>
    (f_X12_readItems_L3 to nn ks n) y1 y3 (y5 + 1) h5
    else none
    else
    (f_X12_look h).bind fun rv1 =>
    (some ((f_X12_spotOf ks rv1.1))).bind fun v3 =>
    f_X12_readItems_L45 to nn ks dFu y1 y3 0 v3 rv1.2
set_option maxRecDepth 20000 in
set_option maxHeartbeats 4000000 in
theorem b_X12_readItems_L3 {to : Nat} {nn : Nat} {ks : Nat} (hto : XM.1[to]? = some (.inr (0, nn))) (hks : ks < 9) : ∀ (n : Nat) (y1 : Int32) (y3 : Int32) (y5 : Int32) (h : dH), B XM 8 RX12 cX12_readItems 7 none fiV 3 [.ref 0, .int y1, .ref to, .int y3, .ref (2000 + ks), .int y5, .null] [] h (f_X12_readItems_L3 to nn ks n y1 y3 y5 h) := by
  intro n
  induction n with
  | zero =>
    intro y1 y3 y5 h
    exact B_none
  | succ n ih =>
    intro y1 y3 y5 h
    rw [f_X12_readItems_L3]
    refine B_iload dX12_readItems_3 rfl ?_
    refine B_aload dX12_readItems_5 rfl ?_
    refine B_slen dX12_readItems_7 cl_X12_106 (Nat.le_of_ble_eq_true rfl) hks (Nat.le_of_ble_eq_true rfl) ?_
    refine C_icmp_ge (tgt := 31) dX12_readItems_10 (by decide) (fun q6 => ?_) (fun q6 => ?_)
    · refine B_iconst dX12_readItems_31 ic_0 ?_
      refine B_istore (ls' := [.ref 0, .int y1, .ref to, .int y3, .ref (2000 + ks), .int 0, .null]) dX12_readItems_32 (Nat.le_of_ble_eq_true rfl) rfl rfl ?_
      refine B_aload dX12_readItems_34 rfl ?_
      refine B_aload_n dX12_readItems_36 rfl rfl ?_
      refine B_VI (st := [.ref (2000 + ks)]) dX12_readItems_37 cl_X12_145 (t_X12_look h) (Nat.le_of_ble_eq_true rfl) shM_0 rfl rfl (Nat.le_of_ble_eq_true rfl) (fun v1 h2 _ => ?_)
      refine B_St (st := []) dX12_readItems_40 cl_X12_232 (t_X12_spotOf ks hks v1 h2) (Nat.le_of_ble_eq_true rfl) rfl rfl (Nat.le_of_ble_eq_true rfl) ?_
      refine B_lv (fun v3 => ?_)
      refine B_istore (ls' := [.ref 0, .int y1, .ref to, .int y3, .ref (2000 + ks), .int 0, .int v3]) dX12_readItems_43 (Nat.le_of_ble_eq_true rfl) rfl rfl ?_
      exact b_X12_readItems_L45 hto hks dFu y1 y3 0 v3 h2
    · refine B_aload_n dX12_readItems_13 rfl rfl ?_
      refine B_iload_n dX12_readItems_14 rfl rfl ?_
      refine B_iload dX12_readItems_15 rfl ?_
      refine B_iadd dX12_readItems_17 ?_
      refine B_iload_n dX12_readItems_18 rfl rfl ?_
      refine B_iload dX12_readItems_19 rfl ?_
      refine B_St (st := [.int (y3 + y5), .ref to]) dX12_readItems_21 cl_X12_228 (t_X12_usual y1 y5 h) (Nat.le_of_ble_eq_true rfl) rfl rfl (Nat.le_of_ble_eq_true rfl) ?_
      refine C_chk (fun q4 => ?_)
      refine L_iast dX12_readItems_24 hto q4 rfl ?_
      refine B_lh (fun h5 => ?_)
      refine B_iinc (w := (y5 + 1)) (ls' := [.ref 0, .int y1, .ref to, .int y3, .ref (2000 + ks), .int (y5 + 1), .null]) dX12_readItems_25 rfl (congrArg (fun z => y5 + z) ic_1) (Nat.le_of_ble_eq_true rfl) rfl rfl ?_
      refine B_goto (tgt := 3) dX12_readItems_28 (by decide) ?_
      exact ih y1 y3 (y5 + 1)  h5
def f_X12_readItems (x1 : Int32) (to nn : Nat) (x3 : Int32) (ks : Nat) (h : dH) : Option (dH) :=
  f_X12_readItems_L3 to nn ks dFu x1 x3 0 h
set_option maxRecDepth 20000 in
set_option maxHeartbeats 4000000 in
theorem t_X12_readItems (x1 : Int32) (to nn : Nat) (hto : XM.1[to]? = some (.inr (0, nn))) (x3 : Int32) (ks : Nat) (hks : ks < 9) (h : dH) : T XM 8 yX12_readItems cX12_readItems 7 none fiV [.ref 0, .int x1, .ref to, .int x3, .ref (2000 + ks)] h (f_X12_readItems x1 to nn x3 ks h) := by
  refine T_of [.ref 0, .int x1, .ref to, .int x3, .ref (2000 + ks), .null, .null] (by decide) (fun _ => rfl) (fun _ => Nat.le_of_ble_eq_true rfl) ?_
  show B XM 8 RX12 cX12_readItems 7 none fiV 0 [.ref 0, .int x1, .ref to, .int x3, .ref (2000 + ks), .null, .null] [] h (f_X12_readItems x1 to nn x3 ks h)
  unfold f_X12_readItems
  refine B_iconst dX12_readItems_0 ic_0 ?_
  refine B_istore (ls' := [.ref 0, .int x1, .ref to, .int x3, .ref (2000 + ks), .int 0, .null]) dX12_readItems_1 (Nat.le_of_ble_eq_true rfl) rfl rfl ?_
  exact b_X12_readItems_L3 hto hks dFu x1 x3 0 h
def f_X12_readClause_J38 (y1 : Int32) (z0 : Bool) (h : dH) : Option (dH) :=
  if z0 then
  (some (dPut h 0 10 ((h.1 0 10) + 1))).bind fun h7 =>
  if y1 = 115 then
  (some (dPut h7 0 27 1)).bind fun h11 =>
  (f_X12_readItems y1 6 3 0 6 h11).bind fun h13 =>
  some h13
  else
  (some (dPut h7 0 25 ((h7.1 0 25) + 1))).bind fun h8 =>
  (f_X12_readItems y1 8 35 (5 * ((h8.1 0 25) - 1)) 7 h8).bind fun h10 =>
  some h10
  else
  (f_X12_fails h).bind fun rv15 =>
  some rv15.2
set_option maxRecDepth 20000 in
set_option maxHeartbeats 4000000 in
theorem b_X12_readClause_J38 (y1 : Int32) (z0 : Bool) (h : dH) : B XM 9 RX12 cX12_readClause 3 none fiV 38 [.ref 0, .int y1, .null] [.int (bi z0)] h (f_X12_readClause_J38 y1 z0 h) := by
  unfold f_X12_readClause_J38
  refine B_istore_n (ls' := [.ref 0, .int y1, .int (bi z0)]) dX12_readClause_38 rfl (Nat.le_of_ble_eq_true rfl) rfl rfl ?_
  refine B_iload_n dX12_readClause_39 rfl rfl ?_
  refine C_ifb_ne (tgt := 49) dX12_readClause_40 (by decide) (fun q17 => ?_) (fun q17 => ?_)
  · refine B_aload_n dX12_readClause_49 rfl rfl ?_
    refine B_dup dX12_readClause_50 rfl ?_
    refine B_getI dX12_readClause_51 fl_X12_126 shM_0 rfl ?_
    refine B_iconst dX12_readClause_54 ic_1 ?_
    refine B_iadd dX12_readClause_55 ?_
    refine B_putI dX12_readClause_56 fl_X12_126 fw_X12_10 shM_0 rfl ?_
    refine B_lh (fun h7 => ?_)
    refine B_iload_n dX12_readClause_59 rfl rfl ?_
    refine B_bipush dX12_readClause_60 bp_115 ?_
    refine C_icmp_ne (tgt := 85) dX12_readClause_62 (by decide) (fun q14 => ?_) (fun q14 => ?_)
    · refine B_aload_n dX12_readClause_85 rfl rfl ?_
      refine B_dup dX12_readClause_86 rfl ?_
      refine B_getI dX12_readClause_87 fl_X12_252 shM_0 rfl ?_
      refine B_iconst dX12_readClause_90 ic_1 ?_
      refine B_iadd dX12_readClause_91 ?_
      refine B_putI dX12_readClause_92 fl_X12_252 fw_X12_25 shM_0 rfl ?_
      refine B_lh (fun h8 => ?_)
      refine B_aload_n dX12_readClause_95 rfl rfl ?_
      refine B_iload_n dX12_readClause_96 rfl rfl ?_
      refine B_aload_n dX12_readClause_97 rfl rfl ?_
      refine B_getR dX12_readClause_98 fl_X12_46 shM_0 rfl (rfM_0_21 _) ?_
      refine B_iconst dX12_readClause_101 ic_5 ?_
      refine B_aload_n dX12_readClause_102 rfl rfl ?_
      refine B_getI dX12_readClause_103 fl_X12_252 shM_0 rfl ?_
      refine B_iconst dX12_readClause_106 ic_1 ?_
      refine B_isub dX12_readClause_107 ?_
      refine B_imul dX12_readClause_108 ?_
      refine B_ldcwS (j := 7) dX12_readClause_109 rfl rfl rfl ?_
      refine B_VV (st := []) dX12_readClause_112 cl_X12_257 (t_X12_readItems y1 8 35 shM_8 (5 * ((h8.1 0 25) - 1)) 7 (by decide) h8) (Nat.le_of_ble_eq_true rfl) shM_0 rfl rfl (Nat.le_of_ble_eq_true rfl) (fun h10 _ => ?_)
      exact B_return dX12_readClause_115 rfl rfl
    · refine B_aload_n dX12_readClause_65 rfl rfl ?_
      refine B_iconst dX12_readClause_66 ic_1 ?_
      refine B_putZ dX12_readClause_67 fl_X12_249 fw_X12_27 shM_0 rfl (Or.inr rfl) ?_
      refine B_lh (fun h11 => ?_)
      refine B_aload_n dX12_readClause_70 rfl rfl ?_
      refine B_iload_n dX12_readClause_71 rfl rfl ?_
      refine B_aload_n dX12_readClause_72 rfl rfl ?_
      refine B_getR dX12_readClause_73 fl_X12_40 shM_0 rfl (rfM_0_19 _) ?_
      refine B_iconst dX12_readClause_76 ic_0 ?_
      refine B_ldcS (j := 6) dX12_readClause_77 rfl rfl rfl ?_
      refine B_VV (st := []) dX12_readClause_79 cl_X12_257 (t_X12_readItems y1 6 3 shM_6 0 6 (by decide) h11) (Nat.le_of_ble_eq_true rfl) shM_0 rfl rfl (Nat.le_of_ble_eq_true rfl) (fun h13 _ => ?_)
      refine B_goto (tgt := 115) dX12_readClause_82 (by decide) ?_
      exact B_return dX12_readClause_115 rfl rfl
  · refine B_aload_n dX12_readClause_43 rfl rfl ?_
    refine B_VC (st := []) dX12_readClause_44 cl_X12_141 (t_X12_fails h) (Nat.le_of_ble_eq_true rfl) shM_0 rfl rfl (Nat.le_of_ble_eq_true rfl) (fun v15 h16 _ => ?_)
    refine B_pop dX12_readClause_47 rfl ?_
    exact B_return dX12_readClause_48 rfl rfl
def f_X12_readClause_J33 (y1 : Int32) (h : dH) : Option (dH) :=
  f_X12_readClause_J38 y1 true h
set_option maxRecDepth 20000 in
set_option maxHeartbeats 4000000 in
theorem b_X12_readClause_J33 (y1 : Int32) (h : dH) : B XM 9 RX12 cX12_readClause 3 none fiV 33 [.ref 0, .int y1, .null] [] h (f_X12_readClause_J33 y1 h) := by
  unfold f_X12_readClause_J33
  refine B_iconst dX12_readClause_33 ic_1 ?_
  refine B_goto (tgt := 38) dX12_readClause_34 (by decide) ?_
  exact b_X12_readClause_J38 y1 true h
def f_X12_readClause_J37 (y1 : Int32) (h : dH) : Option (dH) :=
  f_X12_readClause_J38 y1 false h
set_option maxRecDepth 20000 in
set_option maxHeartbeats 4000000 in
theorem b_X12_readClause_J37 (y1 : Int32) (h : dH) : B XM 9 RX12 cX12_readClause 3 none fiV 37 [.ref 0, .int y1, .null] [] h (f_X12_readClause_J37 y1 h) := by
  unfold f_X12_readClause_J37
  refine B_iconst dX12_readClause_37 ic_0 ?_
  exact b_X12_readClause_J38 y1 false h
def f_X12_readClause_J18 (y1 : Int32) (h : dH) : Option (dH) :=
  if y1 = 112 then
  if (h.1 0 25) < 7 then
  f_X12_readClause_J33 y1 h
  else
  f_X12_readClause_J37 y1 h
  else
  f_X12_readClause_J37 y1 h
set_option maxRecDepth 20000 in
set_option maxHeartbeats 4000000 in
theorem b_X12_readClause_J18 (y1 : Int32) (h : dH) : B XM 9 RX12 cX12_readClause 3 none fiV 18 [.ref 0, .int y1, .null] [] h (f_X12_readClause_J18 y1 h) := by
  unfold f_X12_readClause_J18
  refine B_iload_n dX12_readClause_18 rfl rfl ?_
  refine B_bipush dX12_readClause_19 bp_112 ?_
  refine C_icmp_ne (tgt := 37) dX12_readClause_21 (by decide) (fun q6 => ?_) (fun q6 => ?_)
  · exact b_X12_readClause_J37 y1 h
  · refine B_aload_n dX12_readClause_24 rfl rfl ?_
    refine B_getI dX12_readClause_25 fl_X12_252 shM_0 rfl ?_
    refine B_bipush dX12_readClause_28 bp_7 ?_
    refine C_icmp_ge (tgt := 37) dX12_readClause_30 (by decide) (fun q5 => ?_) (fun q5 => ?_)
    · exact b_X12_readClause_J37 y1 h
    · exact b_X12_readClause_J33 y1 h
def f_X12_readClause (h : dH) : Option (dH) :=
  (f_X12_look h).bind fun rv1 =>
  if rv1.1 = 115 then
  if (rv1.2.1 0 27) = 0 then
  f_X12_readClause_J33 rv1.1 rv1.2
  else
  f_X12_readClause_J18 rv1.1 rv1.2
  else
  f_X12_readClause_J18 rv1.1 rv1.2
set_option maxRecDepth 20000 in
set_option maxHeartbeats 4000000 in
theorem t_X12_readClause (h : dH) : T XM 9 yX12_readClause cX12_readClause 3 none fiV [.ref 0] h (f_X12_readClause h) := by
  refine T_of [.ref 0, .null, .null] (by decide) (fun _ => rfl) (fun _ => Nat.le_of_ble_eq_true rfl) ?_
  show B XM 9 RX12 cX12_readClause 3 none fiV 0 [.ref 0, .null, .null] [] h (f_X12_readClause h)
  unfold f_X12_readClause
  refine B_aload_n dX12_readClause_0 rfl rfl ?_
  refine B_VI (st := []) dX12_readClause_1 cl_X12_145 (t_X12_look h) (Nat.le_of_ble_eq_true rfl) shM_0 rfl rfl (Nat.le_of_ble_eq_true rfl) (fun v1 h2 _ => ?_)
  refine B_istore_n (ls' := [.ref 0, .int v1, .null]) dX12_readClause_4 rfl (Nat.le_of_ble_eq_true rfl) rfl rfl ?_
  refine B_iload_n dX12_readClause_5 rfl rfl ?_
  refine B_bipush dX12_readClause_6 bp_115 ?_
  refine C_icmp_ne (tgt := 18) dX12_readClause_8 (by decide) (fun q4 => ?_) (fun q4 => ?_)
  · exact b_X12_readClause_J18 v1 h2
  · refine B_aload_n dX12_readClause_11 rfl rfl ?_
    refine B_getZ dX12_readClause_12 fl_X12_249 shM_0 rfl ?_
    refine C_if_eq (tgt := 33) dX12_readClause_15 (by decide) (fun q3 => ?_) (fun q3 => ?_)
    · exact b_X12_readClause_J33 v1 h2
    · exact b_X12_readClause_J18 v1 h2
def f_X12_isWhole_J61 (kL2 : Int32 → Option (Bool)) (kL12 : Int32 → Int32 → Option (Bool)) (y1 : Int32) (y2 : Int32) (h : dH) : Option (Bool) :=
  kL12 y1 (y2 + 1)
set_option maxRecDepth 20000 in
set_option maxHeartbeats 4000000 in
theorem b_X12_isWhole_J61 {kL2 : Int32 → Option (Bool)} {kL12 : Int32 → Int32 → Option (Bool)} (h : dH) (hkL2 : ∀ (y1 : Int32), B XM 0 RX12 cX12_isWhole 3 (some .boolean) (fiB h) 2 [.ref 0, .int y1, .null] [] h (kL2 y1)) (hkL12 : ∀ (y1 : Int32) (y2 : Int32), B XM 0 RX12 cX12_isWhole 3 (some .boolean) (fiB h) 12 [.ref 0, .int y1, .int y2] [] h (kL12 y1 y2)) (y1 : Int32) (y2 : Int32) : B XM 0 RX12 cX12_isWhole 3 (some .boolean) (fiB h) 61 [.ref 0, .int y1, .int y2] [] h (f_X12_isWhole_J61 kL2 kL12 y1 y2 h) := by
  unfold f_X12_isWhole_J61
  refine B_iinc (w := (y2 + 1)) (ls' := [.ref 0, .int y1, .int (y2 + 1)]) dX12_isWhole_61 rfl (congrArg (fun z => y2 + z) ic_1) (Nat.le_of_ble_eq_true rfl) rfl rfl ?_
  refine B_goto (tgt := 12) dX12_isWhole_64 (by decide) ?_
  exact hkL12 y1 (y2 + 1)  
def f_X12_isWhole_L12 (kL2 : Int32 → Option (Bool)) (h : dH) : Nat → Int32 → Int32 → Option (Bool)
  | 0, _, _ => none
  | n + 1, y1, y2 =>
    if y2 < y1 then
    if dIn (5 * y1) 35 then
    if dIn (5 * y2) 35 then
    if (h.1 8 (dI (5 * y1))) = (h.1 8 (dI (5 * y2))) then
    if dIn ((5 * y1) + 1) 35 then
    if dIn ((5 * y2) + 1) 35 then
    if (h.1 8 (dI ((5 * y1) + 1))) = (h.1 8 (dI ((5 * y2) + 1))) then
    some false
    else
    f_X12_isWhole_J61 kL2 (f_X12_isWhole_L12 kL2 h n) y1 y2 h
    else none
    else none
    else
    f_X12_isWhole_J61 kL2 (f_X12_isWhole_L12 kL2 h n) y1 y2 h
    else none
    else none
    else
    kL2 (y1 + 1)
set_option maxRecDepth 20000 in
set_option maxHeartbeats 4000000 in
theorem b_X12_isWhole_L12 {kL2 : Int32 → Option (Bool)} (h : dH) (hkL2 : ∀ (y1 : Int32), B XM 0 RX12 cX12_isWhole 3 (some .boolean) (fiB h) 2 [.ref 0, .int y1, .null] [] h (kL2 y1)) : ∀ (n : Nat) (y1 : Int32) (y2 : Int32), B XM 0 RX12 cX12_isWhole 3 (some .boolean) (fiB h) 12 [.ref 0, .int y1, .int y2] [] h (f_X12_isWhole_L12 kL2 h n y1 y2) := by
  intro n
  induction n with
  | zero =>
    intro y1 y2
    exact B_none
  | succ n ih =>
    intro y1 y2
    rw [f_X12_isWhole_L12]
    refine B_iload_n dX12_isWhole_12 rfl rfl ?_
    refine B_iload_n dX12_isWhole_13 rfl rfl ?_
    refine C_icmp_ge (tgt := 67) dX12_isWhole_14 (by decide) (fun q9 => ?_) (fun q9 => ?_)
    · refine B_iinc (w := (y1 + 1)) (ls' := [.ref 0, .int (y1 + 1), .int y2]) dX12_isWhole_67 rfl (congrArg (fun z => y1 + z) ic_1) (Nat.le_of_ble_eq_true rfl) rfl rfl ?_
      refine B_goto (tgt := 2) dX12_isWhole_70 (by decide) ?_
      refine B_drop 2 (ls' := [.ref 0, .int (y1 + 1), .null]) rfl ?_
      exact hkL2 (y1 + 1)  
    · refine B_aload_n dX12_isWhole_17 rfl rfl ?_
      refine B_getR dX12_isWhole_18 fl_X12_46 shM_0 rfl (rfM_0_21 _) ?_
      refine B_iconst dX12_isWhole_21 ic_5 ?_
      refine B_iload_n dX12_isWhole_22 rfl rfl ?_
      refine B_imul dX12_isWhole_23 ?_
      refine C_chk (fun q3 => ?_)
      refine L_iald dX12_isWhole_24 shM_8 q3 rfl ?_
      refine B_aload_n dX12_isWhole_25 rfl rfl ?_
      refine B_getR dX12_isWhole_26 fl_X12_46 shM_0 rfl (rfM_0_21 _) ?_
      refine B_iconst dX12_isWhole_29 ic_5 ?_
      refine B_iload_n dX12_isWhole_30 rfl rfl ?_
      refine B_imul dX12_isWhole_31 ?_
      refine C_chk (fun q4 => ?_)
      refine L_iald dX12_isWhole_32 shM_8 q4 rfl ?_
      refine C_icmp_ne (tgt := 61) dX12_isWhole_33 (by decide) (fun q8 => ?_) (fun q8 => ?_)
      · exact b_X12_isWhole_J61 h hkL2 (fun qy1 qy2 => ih qy1 qy2) y1 y2
      · refine B_aload_n dX12_isWhole_36 rfl rfl ?_
        refine B_getR dX12_isWhole_37 fl_X12_46 shM_0 rfl (rfM_0_21 _) ?_
        refine B_iconst dX12_isWhole_40 ic_5 ?_
        refine B_iload_n dX12_isWhole_41 rfl rfl ?_
        refine B_imul dX12_isWhole_42 ?_
        refine B_iconst dX12_isWhole_43 ic_1 ?_
        refine B_iadd dX12_isWhole_44 ?_
        refine C_chk (fun q5 => ?_)
        refine L_iald dX12_isWhole_45 shM_8 q5 rfl ?_
        refine B_aload_n dX12_isWhole_46 rfl rfl ?_
        refine B_getR dX12_isWhole_47 fl_X12_46 shM_0 rfl (rfM_0_21 _) ?_
        refine B_iconst dX12_isWhole_50 ic_5 ?_
        refine B_iload_n dX12_isWhole_51 rfl rfl ?_
        refine B_imul dX12_isWhole_52 ?_
        refine B_iconst dX12_isWhole_53 ic_1 ?_
        refine B_iadd dX12_isWhole_54 ?_
        refine C_chk (fun q6 => ?_)
        refine L_iald dX12_isWhole_55 shM_8 q6 rfl ?_
        refine C_icmp_ne (tgt := 61) dX12_isWhole_56 (by decide) (fun q7 => ?_) (fun q7 => ?_)
        · exact b_X12_isWhole_J61 h hkL2 (fun qy1 qy2 => ih qy1 qy2) y1 y2
        · refine B_iconst dX12_isWhole_59 ic_0 ?_
          exact B_zreturn dX12_isWhole_60 rfl rfl rfl
def f_X12_isWhole_L2 (h : dH) : Nat → Int32 → Option (Bool)
  | 0, _ => none
  | n + 1, y1 =>
    if y1 < (h.1 0 25) then
    f_X12_isWhole_L12 (f_X12_isWhole_L2 h n) h dFu y1 0
    else
    if 1 < (h.1 0 25) then
    some true
    else
    some false
set_option maxRecDepth 20000 in
set_option maxHeartbeats 4000000 in
theorem b_X12_isWhole_L2 (h : dH) : ∀ (n : Nat) (y1 : Int32), B XM 0 RX12 cX12_isWhole 3 (some .boolean) (fiB h) 2 [.ref 0, .int y1, .null] [] h (f_X12_isWhole_L2 h n y1) := by
  intro n
  induction n with
  | zero =>
    intro y1
    exact B_none
  | succ n ih =>
    intro y1
    rw [f_X12_isWhole_L2]
    refine B_iload_n dX12_isWhole_2 rfl rfl ?_
    refine B_aload_n dX12_isWhole_3 rfl rfl ?_
    refine B_getI dX12_isWhole_4 fl_X12_252 shM_0 rfl ?_
    refine C_icmp_ge (tgt := 73) dX12_isWhole_7 (by decide) (fun q2 => ?_) (fun q2 => ?_)
    · refine B_aload_n dX12_isWhole_73 rfl rfl ?_
      refine B_getI dX12_isWhole_74 fl_X12_252 shM_0 rfl ?_
      refine B_iconst dX12_isWhole_77 ic_1 ?_
      refine C_icmp_le (tgt := 85) dX12_isWhole_78 (by decide) (fun q1 => ?_) (fun q1 => ?_)
      · refine B_iconst dX12_isWhole_85 ic_0 ?_
        exact B_zreturn dX12_isWhole_86 rfl rfl rfl
      · refine B_iconst dX12_isWhole_81 ic_1 ?_
        refine B_goto (tgt := 86) dX12_isWhole_82 (by decide) ?_
        exact B_zreturn dX12_isWhole_86 rfl rfl rfl
    · refine B_iconst dX12_isWhole_10 ic_0 ?_
      refine B_istore_n (ls' := [.ref 0, .int y1, .int 0]) dX12_isWhole_11 rfl (Nat.le_of_ble_eq_true rfl) rfl rfl ?_
      exact b_X12_isWhole_L12 h (fun qy1 => ih qy1) dFu y1 0
def f_X12_isWhole (h : dH) : Option (Bool) :=
  f_X12_isWhole_L2 h dFu 0
set_option maxRecDepth 20000 in
set_option maxHeartbeats 4000000 in
theorem t_X12_isWhole (h : dH) : T XM 0 yX12_isWhole cX12_isWhole 3 (some .boolean) (fiB h) [.ref 0] h (f_X12_isWhole h) := by
  refine T_of [.ref 0, .null, .null] (by decide) (fun _ => rfl) (fun _ => Nat.le_of_ble_eq_true rfl) ?_
  show B XM 0 RX12 cX12_isWhole 3 (some .boolean) (fiB h) 0 [.ref 0, .null, .null] [] h (f_X12_isWhole h)
  unfold f_X12_isWhole
  refine B_iconst dX12_isWhole_0 ic_0 ?_
  refine B_istore_n (ls' := [.ref 0, .int 0, .null]) dX12_isWhole_1 rfl (Nat.le_of_ble_eq_true rfl) rfl rfl ?_
  exact b_X12_isWhole_L2 h dFu 0
def f_X12_readCity_J88 (kL50 : Bool → dH → Option (dH)) (z0 : Bool) (h : dH) : Option (dH) :=
  if z0 then
  (some (dPut h 0 10 ((h.1 0 10) + 1))).bind fun h22 =>
  kL50 z0 h22
  else
  kL50 z0 h
set_option maxRecDepth 20000 in
set_option maxHeartbeats 4000000 in
theorem b_X12_readCity_J88 {kL50 : Bool → dH → Option (dH)} (hkL50 : ∀ (y1 : Bool) (h : dH), B XM 10 RX12 cX12_readCity 2 none fiV 50 [.ref 0, .int (bi y1)] [] h (kL50 y1 h)) (z0 : Bool) (h : dH) : B XM 10 RX12 cX12_readCity 2 none fiV 88 [.ref 0, .null] [.int (bi z0)] h (f_X12_readCity_J88 kL50 z0 h) := by
  unfold f_X12_readCity_J88
  refine B_istore_n (ls' := [.ref 0, .int (bi z0)]) dX12_readCity_88 rfl (Nat.le_of_ble_eq_true rfl) rfl rfl ?_
  refine B_iload_n dX12_readCity_89 rfl rfl ?_
  refine C_ifb_eq (tgt := 50) dX12_readCity_90 (by decide) (fun q23 => ?_) (fun q23 => ?_)
  · exact hkL50 z0  h
  · refine B_aload_n dX12_readCity_93 rfl rfl ?_
    refine B_dup dX12_readCity_94 rfl ?_
    refine B_getI dX12_readCity_95 fl_X12_126 shM_0 rfl ?_
    refine B_iconst dX12_readCity_98 ic_1 ?_
    refine B_iadd dX12_readCity_99 ?_
    refine B_putI dX12_readCity_100 fl_X12_126 fw_X12_10 shM_0 rfl ?_
    refine B_lh (fun h22 => ?_)
    refine B_goto (tgt := 50) dX12_readCity_103 (by decide) ?_
    exact hkL50 z0  h22
def f_X12_readCity_J87 (kL50 : Bool → dH → Option (dH)) (h : dH) : Option (dH) :=
  f_X12_readCity_J88 kL50 false h
set_option maxRecDepth 20000 in
set_option maxHeartbeats 4000000 in
theorem b_X12_readCity_J87 {kL50 : Bool → dH → Option (dH)} (hkL50 : ∀ (y1 : Bool) (h : dH), B XM 10 RX12 cX12_readCity 2 none fiV 50 [.ref 0, .int (bi y1)] [] h (kL50 y1 h)) (h : dH) : B XM 10 RX12 cX12_readCity 2 none fiV 87 [.ref 0, .null] [] h (f_X12_readCity_J87 kL50 h) := by
  unfold f_X12_readCity_J87
  refine B_iconst dX12_readCity_87 ic_0 ?_
  exact b_X12_readCity_J88 hkL50 false h
def f_X12_readCity_J129 (h : dH) : Option (dH) :=
  (f_X12_fails h).bind fun rv24 =>
  some rv24.2
set_option maxRecDepth 20000 in
set_option maxHeartbeats 4000000 in
theorem b_X12_readCity_J129 (h : dH) : B XM 10 RX12 cX12_readCity 2 none fiV 129 [.ref 0, .null] [] h (f_X12_readCity_J129 h) := by
  unfold f_X12_readCity_J129
  refine B_aload_n dX12_readCity_129 rfl rfl ?_
  refine B_VC (st := []) dX12_readCity_130 cl_X12_141 (t_X12_fails h) (Nat.le_of_ble_eq_true rfl) shM_0 rfl rfl (Nat.le_of_ble_eq_true rfl) (fun v24 h25 _ => ?_)
  refine B_pop dX12_readCity_133 rfl ?_
  exact B_return dX12_readCity_134 rfl rfl
def f_X12_readCity_J106 (h : dH) : Option (dH) :=
  if (h.1 0 11) = (-1) then
  (f_X12_look h).bind fun rv16 =>
  if rv16.1 = (-1) then
  (f_X12_isWhole rv16.2).bind fun v18 =>
  if v18 then
  some rv16.2
  else
  f_X12_readCity_J129 rv16.2
  else
  f_X12_readCity_J129 rv16.2
  else
  some h
set_option maxRecDepth 20000 in
set_option maxHeartbeats 4000000 in
theorem b_X12_readCity_J106 (h : dH) : B XM 10 RX12 cX12_readCity 2 none fiV 106 [.ref 0, .null] [] h (f_X12_readCity_J106 h) := by
  unfold f_X12_readCity_J106
  refine B_aload_n dX12_readCity_106 rfl rfl ?_
  refine B_getI dX12_readCity_107 fl_X12_135 shM_0 rfl ?_
  refine B_iconst dX12_readCity_110 ic_m1 ?_
  refine C_icmp_ne (tgt := 134) dX12_readCity_111 (by decide) (fun q21 => ?_) (fun q21 => ?_)
  · exact B_return dX12_readCity_134 rfl rfl
  · refine B_aload_n dX12_readCity_114 rfl rfl ?_
    refine B_VI (st := []) dX12_readCity_115 cl_X12_145 (t_X12_look h) (Nat.le_of_ble_eq_true rfl) shM_0 rfl rfl (Nat.le_of_ble_eq_true rfl) (fun v16 h17 _ => ?_)
    refine B_iconst dX12_readCity_118 ic_m1 ?_
    refine C_icmp_ne (tgt := 129) dX12_readCity_119 (by decide) (fun q20 => ?_) (fun q20 => ?_)
    · exact b_X12_readCity_J129 h17
    · refine B_aload_n dX12_readCity_122 rfl rfl ?_
      refine B_Vpb (st := []) dX12_readCity_123 cl_X12_266 (t_X12_isWhole h17) (Nat.le_of_ble_eq_true rfl) shM_0 rfl rfl (Nat.le_of_ble_eq_true rfl) (fun v18 _ => ?_)
      refine C_ifb_ne (tgt := 134) dX12_readCity_126 (by decide) (fun q19 => ?_) (fun q19 => ?_)
      · exact B_return dX12_readCity_134 rfl rfl
      · exact b_X12_readCity_J129 h17
def f_X12_readCity_L50 : Nat → Bool → dH → Option (dH)
  | 0, _, _ => none
  | n + 1, y1, h =>
    if y1 then
    if (h.1 0 11) = (-1) then
    (f_X12_readClause h).bind fun h9 =>
    if (h9.1 0 11) = (-1) then
    (f_X12_look h9).bind fun rv10 =>
    if rv10.1 = 59 then
    f_X12_readCity_J88 (f_X12_readCity_L50 n) true rv10.2
    else
    f_X12_readCity_J87 (f_X12_readCity_L50 n) rv10.2
    else
    f_X12_readCity_J87 (f_X12_readCity_L50 n) h9
    else
    f_X12_readCity_J106 h
    else
    f_X12_readCity_J106 h
set_option maxRecDepth 20000 in
set_option maxHeartbeats 4000000 in
theorem b_X12_readCity_L50 : ∀ (n : Nat) (y1 : Bool) (h : dH), B XM 10 RX12 cX12_readCity 2 none fiV 50 [.ref 0, .int (bi y1)] [] h (f_X12_readCity_L50 n y1 h) := by
  intro n
  induction n with
  | zero =>
    intro y1 h
    exact B_none
  | succ n ih =>
    intro y1 h
    rw [f_X12_readCity_L50]
    refine B_iload_n dX12_readCity_50 rfl rfl ?_
    refine C_ifb_eq (tgt := 106) dX12_readCity_51 (by decide) (fun q15 => ?_) (fun q15 => ?_)
    · refine B_drop 1 (ls' := [.ref 0, .null]) rfl ?_
      exact b_X12_readCity_J106 h
    · refine B_aload_n dX12_readCity_54 rfl rfl ?_
      refine B_getI dX12_readCity_55 fl_X12_135 shM_0 rfl ?_
      refine B_iconst dX12_readCity_58 ic_m1 ?_
      refine C_icmp_ne (tgt := 106) dX12_readCity_59 (by decide) (fun q14 => ?_) (fun q14 => ?_)
      · refine B_drop 1 (ls' := [.ref 0, .null]) rfl ?_
        exact b_X12_readCity_J106 h
      · refine B_aload_n dX12_readCity_62 rfl rfl ?_
        refine B_VV (st := []) dX12_readCity_63 cl_X12_263 (t_X12_readClause h) (Nat.le_of_ble_eq_true rfl) shM_0 rfl rfl (Nat.le_of_ble_eq_true rfl) (fun h9 _ => ?_)
        refine B_aload_n dX12_readCity_66 rfl rfl ?_
        refine B_getI dX12_readCity_67 fl_X12_135 shM_0 rfl ?_
        refine B_iconst dX12_readCity_70 ic_m1 ?_
        refine C_icmp_ne (tgt := 87) dX12_readCity_71 (by decide) (fun q13 => ?_) (fun q13 => ?_)
        · refine B_drop 1 (ls' := [.ref 0, .null]) rfl ?_
          exact b_X12_readCity_J87 (fun qy1 qh => ih qy1 qh) h9
        · refine B_aload_n dX12_readCity_74 rfl rfl ?_
          refine B_VI (st := []) dX12_readCity_75 cl_X12_145 (t_X12_look h9) (Nat.le_of_ble_eq_true rfl) shM_0 rfl rfl (Nat.le_of_ble_eq_true rfl) (fun v10 h11 _ => ?_)
          refine B_bipush dX12_readCity_78 bp_59 ?_
          refine C_icmp_ne (tgt := 87) dX12_readCity_80 (by decide) (fun q12 => ?_) (fun q12 => ?_)
          · refine B_drop 1 (ls' := [.ref 0, .null]) rfl ?_
            exact b_X12_readCity_J87 (fun qy1 qh => ih qy1 qh) h11
          · refine B_iconst dX12_readCity_83 ic_1 ?_
            refine B_goto (tgt := 88) dX12_readCity_84 (by decide) ?_
            refine B_drop 1 (ls' := [.ref 0, .null]) rfl ?_
            exact b_X12_readCity_J88 (fun qy1 qh => ih qy1 qh) true h11
def f_X12_readCity_L25 : Nat → Int32 → dH → Option (dH)
  | 0, _, _ => none
  | n + 1, y1, h =>
    if y1 < 3 then
    if dIn y1 3 then
    (some (dPut h 6 (dI y1) (f_X12_usual 115 y1 h))).bind fun h6 =>
    (f_X12_readCity_L25 n) (y1 + 1) h6
    else none
    else
    f_X12_readCity_L50 dFu true h
set_option maxRecDepth 20000 in
set_option maxHeartbeats 4000000 in
theorem b_X12_readCity_L25 : ∀ (n : Nat) (y1 : Int32) (h : dH), B XM 10 RX12 cX12_readCity 2 none fiV 25 [.ref 0, .int y1] [] h (f_X12_readCity_L25 n y1 h) := by
  intro n
  induction n with
  | zero =>
    intro y1 h
    exact B_none
  | succ n ih =>
    intro y1 h
    rw [f_X12_readCity_L25]
    refine B_iload_n dX12_readCity_25 rfl rfl ?_
    refine B_iconst dX12_readCity_26 ic_3 ?_
    refine C_icmp_ge (tgt := 48) dX12_readCity_27 (by decide) (fun q7 => ?_) (fun q7 => ?_)
    · refine B_iconst dX12_readCity_48 ic_1 ?_
      refine B_istore_n (ls' := [.ref 0, .int 1]) dX12_readCity_49 rfl (Nat.le_of_ble_eq_true rfl) rfl rfl ?_
      exact b_X12_readCity_L50 dFu true h
    · refine B_aload_n dX12_readCity_30 rfl rfl ?_
      refine B_getR dX12_readCity_31 fl_X12_40 shM_0 rfl (rfM_0_19 _) ?_
      refine B_iload_n dX12_readCity_34 rfl rfl ?_
      refine B_bipush dX12_readCity_35 bp_115 ?_
      refine B_iload_n dX12_readCity_37 rfl rfl ?_
      refine B_St (st := [.int y1, .ref 6]) dX12_readCity_38 cl_X12_228 (t_X12_usual 115 y1 h) (Nat.le_of_ble_eq_true rfl) rfl rfl (Nat.le_of_ble_eq_true rfl) ?_
      refine C_chk (fun q5 => ?_)
      refine L_iast dX12_readCity_41 shM_6 q5 rfl ?_
      refine B_lh (fun h6 => ?_)
      refine B_iinc (w := (y1 + 1)) (ls' := [.ref 0, .int (y1 + 1)]) dX12_readCity_42 rfl (congrArg (fun z => y1 + z) ic_1) (Nat.le_of_ble_eq_true rfl) rfl rfl ?_
      refine B_goto (tgt := 25) dX12_readCity_45 (by decide) ?_
      exact ih (y1 + 1)  h6
def f_X12_readCity (h : dH) : Option (dH) :=
  (f_X12_starts 1 0 (h.1 0 6) h).bind fun h2 =>
  (some (dPut h2 0 25 0)).bind fun h3 =>
  (some (dPut h3 0 27 0)).bind fun h4 =>
  f_X12_readCity_L25 dFu 0 h4
set_option maxRecDepth 20000 in
set_option maxHeartbeats 4000000 in
theorem t_X12_readCity (h : dH) : T XM 10 yX12_readCity cX12_readCity 2 none fiV [.ref 0] h (f_X12_readCity h) := by
  refine T_of [.ref 0, .null] (by decide) (fun _ => rfl) (fun _ => Nat.le_of_ble_eq_true rfl) ?_
  show B XM 10 RX12 cX12_readCity 2 none fiV 0 [.ref 0, .null] [] h (f_X12_readCity h)
  unfold f_X12_readCity
  refine B_aload_n dX12_readCity_0 rfl rfl ?_
  refine B_aload_n dX12_readCity_1 rfl rfl ?_
  refine B_getR dX12_readCity_2 fl_X12_9 shM_0 rfl (rfM_0_1 _) ?_
  refine B_iconst dX12_readCity_5 ic_0 ?_
  refine B_aload_n dX12_readCity_6 rfl rfl ?_
  refine B_getI dX12_readCity_7 fl_X12_116 shM_0 rfl ?_
  refine B_VV (st := []) dX12_readCity_10 cl_X12_214 (t_X12_starts 1 (Or.inl rfl) 0 (h.1 0 6) h) (Nat.le_of_ble_eq_true rfl) shM_0 rfl rfl (Nat.le_of_ble_eq_true rfl) (fun h2 _ => ?_)
  refine B_aload_n dX12_readCity_13 rfl rfl ?_
  refine B_iconst dX12_readCity_14 ic_0 ?_
  refine B_putI dX12_readCity_15 fl_X12_252 fw_X12_25 shM_0 rfl ?_
  refine B_lh (fun h3 => ?_)
  refine B_aload_n dX12_readCity_18 rfl rfl ?_
  refine B_iconst dX12_readCity_19 ic_0 ?_
  refine B_putZ dX12_readCity_20 fl_X12_249 fw_X12_27 shM_0 rfl (Or.inl rfl) ?_
  refine B_lh (fun h4 => ?_)
  refine B_iconst dX12_readCity_23 ic_0 ?_
  refine B_istore_n (ls' := [.ref 0, .int 0]) dX12_readCity_24 rfl (Nat.le_of_ble_eq_true rfl) rfl rfl ?_
  exact b_X12_readCity_L25 dFu 0 h4
def f_X12_readStep (x1 : Int32) (h : dH) : Option (dH) :=
  (f_X12_look h).bind fun rv1 =>
  (some ((f_X12_spotOf 8 rv1.1))).bind fun v3 =>
  if v3 = (-1) then
  (f_X12_fails rv1.2).bind fun rv19 =>
  some rv19.2
  else
  (some (dPut rv1.2 0 10 ((rv1.2.1 0 10) + 1))).bind fun h4 =>
  if dIn x1 160 then
  (some (dPut h4 9 (dI x1) v3)).bind fun h6 =>
  if dIn (x1 + 1) 160 then
  (some (dPut h6 9 (dI (x1 + 1)) (-1))).bind fun h8 =>
  if v3 = 1 then
  some h8
  else
  if v3 = 3 then
  some h8
  else
  (f_X12_look h8).bind fun rv9 =>
  (f_X12_isDigit rv9.2).bind fun v11 =>
  if v11 then
  if dIn (x1 + 1) 160 then
  (some (dPut rv9.2 9 (dI (x1 + 1)) (rv9.1 - 48))).bind fun h13 =>
  some (dPut h13 0 10 ((h13.1 0 10) + 1))
  else none
  else
  (f_X12_fails rv9.2).bind fun rv14 =>
  some rv14.2
  else none
  else none
set_option maxRecDepth 20000 in
set_option maxHeartbeats 4000000 in
theorem t_X12_readStep (x1 : Int32) (h : dH) : T XM 8 yX12_readStep cX12_readStep 4 none fiV [.ref 0, .int x1] h (f_X12_readStep x1 h) := by
  refine T_of [.ref 0, .int x1, .null, .null] (by decide) (fun _ => rfl) (fun _ => Nat.le_of_ble_eq_true rfl) ?_
  show B XM 8 RX12 cX12_readStep 4 none fiV 0 [.ref 0, .int x1, .null, .null] [] h (f_X12_readStep x1 h)
  unfold f_X12_readStep
  refine B_ldcwS (j := 8) dX12_readStep_0 rfl rfl rfl ?_
  refine B_aload_n dX12_readStep_3 rfl rfl ?_
  refine B_VI (st := [.ref (2000 + 8)]) dX12_readStep_4 cl_X12_145 (t_X12_look h) (Nat.le_of_ble_eq_true rfl) shM_0 rfl rfl (Nat.le_of_ble_eq_true rfl) (fun v1 h2 _ => ?_)
  refine B_St (st := []) dX12_readStep_7 cl_X12_232 (t_X12_spotOf 8 (by decide) v1 h2) (Nat.le_of_ble_eq_true rfl) rfl rfl (Nat.le_of_ble_eq_true rfl) ?_
  refine B_lv (fun v3 => ?_)
  refine B_istore_n (ls' := [.ref 0, .int x1, .int v3, .null]) dX12_readStep_10 rfl (Nat.le_of_ble_eq_true rfl) rfl rfl ?_
  refine B_iload_n dX12_readStep_11 rfl rfl ?_
  refine B_iconst dX12_readStep_12 ic_m1 ?_
  refine C_icmp_ne (tgt := 22) dX12_readStep_13 (by decide) (fun q21 => ?_) (fun q21 => ?_)
  · refine B_aload_n dX12_readStep_22 rfl rfl ?_
    refine B_dup dX12_readStep_23 rfl ?_
    refine B_getI dX12_readStep_24 fl_X12_126 shM_0 rfl ?_
    refine B_iconst dX12_readStep_27 ic_1 ?_
    refine B_iadd dX12_readStep_28 ?_
    refine B_putI dX12_readStep_29 fl_X12_126 fw_X12_10 shM_0 rfl ?_
    refine B_lh (fun h4 => ?_)
    refine B_aload_n dX12_readStep_32 rfl rfl ?_
    refine B_getR dX12_readStep_33 fl_X12_49 shM_0 rfl (rfM_0_22 _) ?_
    refine B_iload_n dX12_readStep_36 rfl rfl ?_
    refine B_iload_n dX12_readStep_37 rfl rfl ?_
    refine C_chk (fun q5 => ?_)
    refine L_iast dX12_readStep_38 shM_9 q5 rfl ?_
    refine B_lh (fun h6 => ?_)
    refine B_aload_n dX12_readStep_39 rfl rfl ?_
    refine B_getR dX12_readStep_40 fl_X12_49 shM_0 rfl (rfM_0_22 _) ?_
    refine B_iload_n dX12_readStep_43 rfl rfl ?_
    refine B_iconst dX12_readStep_44 ic_1 ?_
    refine B_iadd dX12_readStep_45 ?_
    refine B_iconst dX12_readStep_46 ic_m1 ?_
    refine C_chk (fun q7 => ?_)
    refine L_iast dX12_readStep_47 shM_9 q7 rfl ?_
    refine B_lh (fun h8 => ?_)
    refine B_iload_n dX12_readStep_48 rfl rfl ?_
    refine B_iconst dX12_readStep_49 ic_1 ?_
    refine C_icmp_eq (tgt := 58) dX12_readStep_50 (by decide) (fun q18 => ?_) (fun q18 => ?_)
    · exact B_return dX12_readStep_58 rfl rfl
    · refine B_iload_n dX12_readStep_53 rfl rfl ?_
      refine B_iconst dX12_readStep_54 ic_3 ?_
      refine C_icmp_ne (tgt := 59) dX12_readStep_55 (by decide) (fun q17 => ?_) (fun q17 => ?_)
      · refine B_aload_n dX12_readStep_59 rfl rfl ?_
        refine B_VI (st := []) dX12_readStep_60 cl_X12_145 (t_X12_look h8) (Nat.le_of_ble_eq_true rfl) shM_0 rfl rfl (Nat.le_of_ble_eq_true rfl) (fun v9 h10 _ => ?_)
        refine B_istore_n (ls' := [.ref 0, .int x1, .int v3, .int v9]) dX12_readStep_63 rfl (Nat.le_of_ble_eq_true rfl) rfl rfl ?_
        refine B_aload_n dX12_readStep_64 rfl rfl ?_
        refine B_Vpb (st := []) dX12_readStep_65 cl_X12_175 (t_X12_isDigit h10) (Nat.le_of_ble_eq_true rfl) shM_0 rfl rfl (Nat.le_of_ble_eq_true rfl) (fun v11 _ => ?_)
        refine C_ifb_ne (tgt := 77) dX12_readStep_68 (by decide) (fun q16 => ?_) (fun q16 => ?_)
        · refine B_aload_n dX12_readStep_77 rfl rfl ?_
          refine B_getR dX12_readStep_78 fl_X12_49 shM_0 rfl (rfM_0_22 _) ?_
          refine B_iload_n dX12_readStep_81 rfl rfl ?_
          refine B_iconst dX12_readStep_82 ic_1 ?_
          refine B_iadd dX12_readStep_83 ?_
          refine B_iload_n dX12_readStep_84 rfl rfl ?_
          refine B_bipush dX12_readStep_85 bp_48 ?_
          refine B_isub dX12_readStep_87 ?_
          refine C_chk (fun q12 => ?_)
          refine L_iast dX12_readStep_88 shM_9 q12 rfl ?_
          refine B_lh (fun h13 => ?_)
          refine B_aload_n dX12_readStep_89 rfl rfl ?_
          refine B_dup dX12_readStep_90 rfl ?_
          refine B_getI dX12_readStep_91 fl_X12_126 shM_0 rfl ?_
          refine B_iconst dX12_readStep_94 ic_1 ?_
          refine B_iadd dX12_readStep_95 ?_
          refine B_putI dX12_readStep_96 fl_X12_126 fw_X12_10 shM_0 rfl ?_
          exact B_return dX12_readStep_99 rfl rfl
        · refine B_aload_n dX12_readStep_71 rfl rfl ?_
          refine B_VC (st := []) dX12_readStep_72 cl_X12_141 (t_X12_fails h10) (Nat.le_of_ble_eq_true rfl) shM_0 rfl rfl (Nat.le_of_ble_eq_true rfl) (fun v14 h15 _ => ?_)
          refine B_pop dX12_readStep_75 rfl ?_
          exact B_return dX12_readStep_76 rfl rfl
      · exact B_return dX12_readStep_58 rfl rfl
  · refine B_aload_n dX12_readStep_16 rfl rfl ?_
    refine B_VC (st := []) dX12_readStep_17 cl_X12_141 (t_X12_fails h2) (Nat.le_of_ble_eq_true rfl) shM_0 rfl rfl (Nat.le_of_ble_eq_true rfl) (fun v19 h20 _ => ?_)
    refine B_pop dX12_readStep_20 rfl ?_
    exact B_return dX12_readStep_21 rfl rfl
def f_X12_readDays_J74 (kL17 : Int32 → Bool → dH → Option (dH)) (y1 : Int32) (y2 : Bool) (h : dH) : Option (dH) :=
  if y2 then
  (some (dPut h 0 10 ((h.1 0 10) + 1))).bind fun h20 =>
  kL17 y1 y2 h20
  else
  kL17 y1 y2 h
set_option maxRecDepth 20000 in
set_option maxHeartbeats 4000000 in
theorem b_X12_readDays_J74 {kL17 : Int32 → Bool → dH → Option (dH)} (hkL17 : ∀ (y1 : Int32) (y2 : Bool) (h : dH), B XM 9 RX12 cX12_readDays 3 none fiV 17 [.ref 0, .int y1, .int (bi y2)] [] h (kL17 y1 y2 h)) (y1 : Int32) (y2 : Bool) (h : dH) : B XM 9 RX12 cX12_readDays 3 none fiV 74 [.ref 0, .int y1, .int (bi y2)] [] h (f_X12_readDays_J74 kL17 y1 y2 h) := by
  unfold f_X12_readDays_J74
  refine B_iload_n dX12_readDays_74 rfl rfl ?_
  refine C_ifb_eq (tgt := 17) dX12_readDays_75 (by decide) (fun q21 => ?_) (fun q21 => ?_)
  · exact hkL17 y1 y2  h
  · refine B_aload_n dX12_readDays_78 rfl rfl ?_
    refine B_dup dX12_readDays_79 rfl ?_
    refine B_getI dX12_readDays_80 fl_X12_126 shM_0 rfl ?_
    refine B_iconst dX12_readDays_83 ic_1 ?_
    refine B_iadd dX12_readDays_84 ?_
    refine B_putI dX12_readDays_85 fl_X12_126 fw_X12_10 shM_0 rfl ?_
    refine B_lh (fun h20 => ?_)
    refine B_goto (tgt := 17) dX12_readDays_88 (by decide) ?_
    exact hkL17 y1 y2  h20
def f_X12_readDays_J57 (kL17 : Int32 → Bool → dH → Option (dH)) (y1 : Int32) (z0 : Bool) (h : dH) : Option (dH) :=
  if z0 then
  if y1 = 16 then
  (f_X12_fails h).bind fun rv16 =>
  some rv16.2
  else
  f_X12_readDays_J74 kL17 y1 z0 h
  else
  f_X12_readDays_J74 kL17 y1 z0 h
set_option maxRecDepth 20000 in
set_option maxHeartbeats 4000000 in
theorem b_X12_readDays_J57 {kL17 : Int32 → Bool → dH → Option (dH)} (hkL17 : ∀ (y1 : Int32) (y2 : Bool) (h : dH), B XM 9 RX12 cX12_readDays 3 none fiV 17 [.ref 0, .int y1, .int (bi y2)] [] h (kL17 y1 y2 h)) (y1 : Int32) (z0 : Bool) (h : dH) : B XM 9 RX12 cX12_readDays 3 none fiV 57 [.ref 0, .int y1, .null] [.int (bi z0)] h (f_X12_readDays_J57 kL17 y1 z0 h) := by
  unfold f_X12_readDays_J57
  refine B_istore_n (ls' := [.ref 0, .int y1, .int (bi z0)]) dX12_readDays_57 rfl (Nat.le_of_ble_eq_true rfl) rfl rfl ?_
  refine B_iload_n dX12_readDays_58 rfl rfl ?_
  refine C_ifb_eq (tgt := 74) dX12_readDays_59 (by decide) (fun q19 => ?_) (fun q19 => ?_)
  · exact b_X12_readDays_J74 hkL17 y1 z0 h
  · refine B_iload_n dX12_readDays_62 rfl rfl ?_
    refine B_bipush dX12_readDays_63 bp_16 ?_
    refine C_icmp_ne (tgt := 74) dX12_readDays_65 (by decide) (fun q18 => ?_) (fun q18 => ?_)
    · exact b_X12_readDays_J74 hkL17 y1 z0 h
    · refine B_aload_n dX12_readDays_68 rfl rfl ?_
      refine B_VC (st := []) dX12_readDays_69 cl_X12_141 (t_X12_fails h) (Nat.le_of_ble_eq_true rfl) shM_0 rfl rfl (Nat.le_of_ble_eq_true rfl) (fun v16 h17 _ => ?_)
      refine B_pop dX12_readDays_72 rfl ?_
      exact B_return dX12_readDays_73 rfl rfl
def f_X12_readDays_L17 : Nat → Int32 → Bool → dH → Option (dH)
  | 0, _, _, _ => none
  | n + 1, y1, y2, h =>
    if y2 then
    (f_X12_readStep (2 * (64 + y1)) h).bind fun h10 =>
    if (h10.1 0 11) = (-1) then
    (f_X12_look h10).bind fun rv11 =>
    if rv11.1 = 59 then
    f_X12_readDays_J57 (f_X12_readDays_L17 n) (y1 + 1) true rv11.2
    else
    f_X12_readDays_J57 (f_X12_readDays_L17 n) (y1 + 1) false rv11.2
    else
    some h10
    else
    (some (dPut h 10 4 y1)).bind fun h3 =>
    (f_X12_look h3).bind fun rv4 =>
    if rv4.1 = (-1) then
    some rv4.2
    else
    (f_X12_fails rv4.2).bind fun rv6 =>
    some rv6.2
set_option maxRecDepth 20000 in
set_option maxHeartbeats 4000000 in
theorem b_X12_readDays_L17 : ∀ (n : Nat) (y1 : Int32) (y2 : Bool) (h : dH), B XM 9 RX12 cX12_readDays 3 none fiV 17 [.ref 0, .int y1, .int (bi y2)] [] h (f_X12_readDays_L17 n y1 y2 h) := by
  intro n
  induction n with
  | zero =>
    intro y1 y2 h
    exact B_none
  | succ n ih =>
    intro y1 y2 h
    rw [f_X12_readDays_L17]
    refine B_iload_n dX12_readDays_17 rfl rfl ?_
    refine C_ifb_eq (tgt := 91) dX12_readDays_18 (by decide) (fun q15 => ?_) (fun q15 => ?_)
    · refine B_aload_n dX12_readDays_91 rfl rfl ?_
      refine B_getR dX12_readDays_92 fl_X12_52 shM_0 rfl (rfM_0_23 _) ?_
      refine B_iconst dX12_readDays_95 ic_4 ?_
      refine B_iload_n dX12_readDays_96 rfl rfl ?_
      refine L_iast dX12_readDays_97 shM_10 (by decide) di_4 ?_
      refine B_lh (fun h3 => ?_)
      refine B_aload_n dX12_readDays_98 rfl rfl ?_
      refine B_VI (st := []) dX12_readDays_99 cl_X12_145 (t_X12_look h3) (Nat.le_of_ble_eq_true rfl) shM_0 rfl rfl (Nat.le_of_ble_eq_true rfl) (fun v4 h5 _ => ?_)
      refine B_iconst dX12_readDays_102 ic_m1 ?_
      refine C_icmp_eq (tgt := 111) dX12_readDays_103 (by decide) (fun q8 => ?_) (fun q8 => ?_)
      · exact B_return dX12_readDays_111 rfl rfl
      · refine B_aload_n dX12_readDays_106 rfl rfl ?_
        refine B_VC (st := []) dX12_readDays_107 cl_X12_141 (t_X12_fails h5) (Nat.le_of_ble_eq_true rfl) shM_0 rfl rfl (Nat.le_of_ble_eq_true rfl) (fun v6 h7 _ => ?_)
        refine B_pop dX12_readDays_110 rfl ?_
        exact B_return dX12_readDays_111 rfl rfl
    · refine B_aload_n dX12_readDays_21 rfl rfl ?_
      refine B_iconst dX12_readDays_22 ic_2 ?_
      refine B_bipush dX12_readDays_23 bp_64 ?_
      refine B_iload_n dX12_readDays_25 rfl rfl ?_
      refine B_iadd dX12_readDays_26 ?_
      refine B_imul dX12_readDays_27 ?_
      refine B_VV (st := []) dX12_readDays_28 cl_X12_271 (t_X12_readStep (2 * (64 + y1)) h) (Nat.le_of_ble_eq_true rfl) shM_0 rfl rfl (Nat.le_of_ble_eq_true rfl) (fun h10 _ => ?_)
      refine B_aload_n dX12_readDays_31 rfl rfl ?_
      refine B_getI dX12_readDays_32 fl_X12_135 shM_0 rfl ?_
      refine B_iconst dX12_readDays_35 ic_m1 ?_
      refine C_icmp_eq (tgt := 40) dX12_readDays_36 (by decide) (fun q14 => ?_) (fun q14 => ?_)
      · refine B_iinc (w := (y1 + 1)) (ls' := [.ref 0, .int (y1 + 1), .int (bi y2)]) dX12_readDays_40 rfl (congrArg (fun z => y1 + z) ic_1) (Nat.le_of_ble_eq_true rfl) rfl rfl ?_
        refine B_aload_n dX12_readDays_43 rfl rfl ?_
        refine B_VI (st := []) dX12_readDays_44 cl_X12_145 (t_X12_look h10) (Nat.le_of_ble_eq_true rfl) shM_0 rfl rfl (Nat.le_of_ble_eq_true rfl) (fun v11 h12 _ => ?_)
        refine B_bipush dX12_readDays_47 bp_59 ?_
        refine C_icmp_ne (tgt := 56) dX12_readDays_49 (by decide) (fun q13 => ?_) (fun q13 => ?_)
        · refine B_iconst dX12_readDays_56 ic_0 ?_
          refine B_drop 2 (ls' := [.ref 0, .int (y1 + 1), .null]) rfl ?_
          exact b_X12_readDays_J57 (fun qy1 qy2 qh => ih qy1 qy2 qh) (y1 + 1) false h12
        · refine B_iconst dX12_readDays_52 ic_1 ?_
          refine B_goto (tgt := 57) dX12_readDays_53 (by decide) ?_
          refine B_drop 2 (ls' := [.ref 0, .int (y1 + 1), .null]) rfl ?_
          exact b_X12_readDays_J57 (fun qy1 qy2 qh => ih qy1 qy2 qh) (y1 + 1) true h12
      · exact B_return dX12_readDays_39 rfl rfl
def f_X12_readDays (h : dH) : Option (dH) :=
  (f_X12_starts 1 0 (h.1 0 6) h).bind fun h2 =>
  f_X12_readDays_L17 dFu 0 true h2
set_option maxRecDepth 20000 in
set_option maxHeartbeats 4000000 in
theorem t_X12_readDays (h : dH) : T XM 9 yX12_readDays cX12_readDays 3 none fiV [.ref 0] h (f_X12_readDays h) := by
  refine T_of [.ref 0, .null, .null] (by decide) (fun _ => rfl) (fun _ => Nat.le_of_ble_eq_true rfl) ?_
  show B XM 9 RX12 cX12_readDays 3 none fiV 0 [.ref 0, .null, .null] [] h (f_X12_readDays h)
  unfold f_X12_readDays
  refine B_aload_n dX12_readDays_0 rfl rfl ?_
  refine B_aload_n dX12_readDays_1 rfl rfl ?_
  refine B_getR dX12_readDays_2 fl_X12_9 shM_0 rfl (rfM_0_1 _) ?_
  refine B_iconst dX12_readDays_5 ic_0 ?_
  refine B_aload_n dX12_readDays_6 rfl rfl ?_
  refine B_getI dX12_readDays_7 fl_X12_116 shM_0 rfl ?_
  refine B_VV (st := []) dX12_readDays_10 cl_X12_214 (t_X12_starts 1 (Or.inl rfl) 0 (h.1 0 6) h) (Nat.le_of_ble_eq_true rfl) shM_0 rfl rfl (Nat.le_of_ble_eq_true rfl) (fun h2 _ => ?_)
  refine B_iconst dX12_readDays_13 ic_0 ?_
  refine B_istore_n (ls' := [.ref 0, .int 0, .null]) dX12_readDays_14 rfl (Nat.le_of_ble_eq_true rfl) rfl rfl ?_
  refine B_iconst dX12_readDays_15 ic_1 ?_
  refine B_istore_n (ls' := [.ref 0, .int 0, .int 1]) dX12_readDays_16 rfl (Nat.le_of_ble_eq_true rfl) rfl rfl ?_
  exact b_X12_readDays_L17 dFu 0 true h2
def f_X12_copy_L2 : Nat → Int32 → dH → Option (dH)
  | 0, _, _ => none
  | n + 1, y2, h =>
    if y2 < 28 then
    if dIn y2 209 then
    if dIn y2 209 then
    (some (dPut h 12 (dI y2) (h.1 11 (dI y2)))).bind fun h3 =>
    (f_X12_copy_L2 n) (y2 + 1) h3
    else none
    else none
    else
    some (dPut h 12 28 0)
set_option maxRecDepth 20000 in
set_option maxHeartbeats 4000000 in
theorem b_X12_copy_L2 : ∀ (n : Nat) (y2 : Int32) (h : dH), B XM 0 RX12 cX12_copy 3 none fiV 2 [.ref 11, .ref 12, .int y2] [] h (f_X12_copy_L2 n y2 h) := by
  intro n
  induction n with
  | zero =>
    intro y2 h
    exact B_none
  | succ n ih =>
    intro y2 h
    rw [f_X12_copy_L2]
    refine B_iload_n dX12_copy_2 rfl rfl ?_
    refine B_bipush dX12_copy_3 bp_28 ?_
    refine C_icmp_ge (tgt := 20) dX12_copy_5 (by decide) (fun q4 => ?_) (fun q4 => ?_)
    · refine B_aload_n dX12_copy_20 rfl rfl ?_
      refine B_bipush dX12_copy_21 bp_28 ?_
      refine B_iconst dX12_copy_23 ic_0 ?_
      refine L_iast dX12_copy_24 shM_12 (by decide) di_28 ?_
      exact B_return dX12_copy_25 rfl rfl
    · refine B_aload_n dX12_copy_8 rfl rfl ?_
      refine B_iload_n dX12_copy_9 rfl rfl ?_
      refine B_aload_n dX12_copy_10 rfl rfl ?_
      refine B_iload_n dX12_copy_11 rfl rfl ?_
      refine C_chk (fun q1 => ?_)
      refine L_iald dX12_copy_12 shM_11 q1 rfl ?_
      refine C_chk (fun q2 => ?_)
      refine L_iast dX12_copy_13 shM_12 q2 rfl ?_
      refine B_lh (fun h3 => ?_)
      refine B_iinc (w := (y2 + 1)) (ls' := [.ref 11, .ref 12, .int (y2 + 1)]) dX12_copy_14 rfl (congrArg (fun z => y2 + z) ic_1) (Nat.le_of_ble_eq_true rfl) rfl rfl ?_
      refine B_goto (tgt := 2) dX12_copy_17 (by decide) ?_
      exact ih (y2 + 1)  h3
def f_X12_copy (h : dH) : Option (dH) :=
  f_X12_copy_L2 dFu 0 h
set_option maxRecDepth 20000 in
set_option maxHeartbeats 4000000 in
theorem t_X12_copy (h : dH) : T XM 0 yX12_copy cX12_copy 3 none fiV [.ref 11, .ref 12] h (f_X12_copy h) := by
  refine T_of [.ref 11, .ref 12, .null] (by decide) (fun _ => rfl) (fun _ => Nat.le_of_ble_eq_true rfl) ?_
  show B XM 0 RX12 cX12_copy 3 none fiV 0 [.ref 11, .ref 12, .null] [] h (f_X12_copy h)
  unfold f_X12_copy
  refine B_iconst dX12_copy_0 ic_0 ?_
  refine B_istore_n (ls' := [.ref 11, .ref 12, .int 0]) dX12_copy_1 rfl (Nat.le_of_ble_eq_true rfl) rfl rfl ?_
  exact b_X12_copy_L2 dFu 0 h
def f_X12_isPlace (x1 : Int32) (h : dH) : Bool :=
  if x1 < 0 then
  false
  else
  if x1 < (h.1 0 24) then
  true
  else
  false
set_option maxRecDepth 20000 in
set_option maxHeartbeats 4000000 in
theorem t_X12_isPlace (x1 : Int32) (h : dH) : T XM 0 yX12_isPlace cX12_isPlace 2 (some .boolean) (fiB h) [.ref 0, .int x1] h (some (f_X12_isPlace x1 h)) := by
  refine T_of [.ref 0, .int x1] (by decide) (fun _ => rfl) (fun _ => Nat.le_of_ble_eq_true rfl) ?_
  show B XM 0 RX12 cX12_isPlace 2 (some .boolean) (fiB h) 0 [.ref 0, .int x1] [] h (some (f_X12_isPlace x1 h))
  unfold f_X12_isPlace
  refine B_iload_n dX12_isPlace_0 rfl rfl ?_
  refine C_some ?_
  refine C_if_lt (tgt := 16) dX12_isPlace_1 (by decide) (fun q2 => ?_) (fun q2 => ?_)
  · refine B_iconst dX12_isPlace_16 ic_0 ?_
    exact B_zreturn dX12_isPlace_17 rfl rfl rfl
  · refine B_iload_n dX12_isPlace_4 rfl rfl ?_
    refine B_aload_n dX12_isPlace_5 rfl rfl ?_
    refine B_getI dX12_isPlace_6 fl_X12_293 shM_0 rfl ?_
    refine C_some ?_
    refine C_icmp_ge (tgt := 16) dX12_isPlace_9 (by decide) (fun q1 => ?_) (fun q1 => ?_)
    · refine B_iconst dX12_isPlace_16 ic_0 ?_
      exact B_zreturn dX12_isPlace_17 rfl rfl rfl
    · refine B_iconst dX12_isPlace_12 ic_1 ?_
      refine B_goto (tgt := 17) dX12_isPlace_13 (by decide) ?_
      exact B_zreturn dX12_isPlace_17 rfl rfl rfl
def f_X12_of (x1 : Int32) (x2 : Int32) (h : dH) : Option (Int32) :=
  if dIn ((5 * x1) + x2) 35 then
  some (h.1 7 (dI ((5 * x1) + x2)))
  else none
set_option maxRecDepth 20000 in
set_option maxHeartbeats 4000000 in
theorem t_X12_of (x1 : Int32) (x2 : Int32) (h : dH) : T XM 0 yX12_of cX12_of 3 (some .int) (fiP h) [.ref 0, .int x1, .int x2] h (f_X12_of x1 x2 h) := by
  refine T_of [.ref 0, .int x1, .int x2] (by decide) (fun _ => rfl) (fun _ => Nat.le_of_ble_eq_true rfl) ?_
  show B XM 0 RX12 cX12_of 3 (some .int) (fiP h) 0 [.ref 0, .int x1, .int x2] [] h (f_X12_of x1 x2 h)
  unfold f_X12_of
  refine B_aload_n dX12_of_0 rfl rfl ?_
  refine B_getR dX12_of_1 fl_X12_43 shM_0 rfl (rfM_0_20 _) ?_
  refine B_iconst dX12_of_4 ic_5 ?_
  refine B_iload_n dX12_of_5 rfl rfl ?_
  refine B_imul dX12_of_6 ?_
  refine B_iload_n dX12_of_7 rfl rfl ?_
  refine B_iadd dX12_of_8 ?_
  refine C_chk (fun q1 => ?_)
  refine L_iald dX12_of_9 shM_7 q1 rfl ?_
  exact B_ireturn dX12_of_10 rfl rfl
def f_X12_between_J31 (y2 : Int32) (y3 : Int32) (z0 : Int32) (h : dH) : Option (Int32) :=
  (f_X12_of y2 0 h).bind fun v5 =>
  (f_X12_of y2 1 h).bind fun v6 =>
  some ((jabs (y3 - v5)) + (jabs (z0 - v6)))
set_option maxRecDepth 20000 in
set_option maxHeartbeats 4000000 in
theorem b_X12_between_J31 (h : dH) (y2 : Int32) (y3 : Int32) (z0 : Int32) : B XM 1 RX12 cX12_between 5 (some .int) (fiP h) 31 [.ref 0, .null, .int y2, .int y3, .null] [.int z0] h (f_X12_between_J31 y2 y3 z0 h) := by
  unfold f_X12_between_J31
  refine B_istore (ls' := [.ref 0, .null, .int y2, .int y3, .int z0]) dX12_between_31 (Nat.le_of_ble_eq_true rfl) rfl rfl ?_
  refine B_iload_n dX12_between_33 rfl rfl ?_
  refine B_aload_n dX12_between_34 rfl rfl ?_
  refine B_iload_n dX12_between_35 rfl rfl ?_
  refine B_iconst dX12_between_36 ic_0 ?_
  refine B_Vp (st := [.int y3]) dX12_between_37 cl_X12_305 (t_X12_of y2 0 h) (Nat.le_of_ble_eq_true rfl) shM_0 rfl rfl (Nat.le_of_ble_eq_true rfl) (fun v5 _ => ?_)
  refine B_isub dX12_between_40 ?_
  refine B_mabs dX12_between_41 mt_X12_308 (Nat.le_of_ble_eq_true rfl) (Nat.le_of_ble_eq_true rfl) ?_
  refine B_iload dX12_between_44 rfl ?_
  refine B_aload_n dX12_between_46 rfl rfl ?_
  refine B_iload_n dX12_between_47 rfl rfl ?_
  refine B_iconst dX12_between_48 ic_1 ?_
  refine B_Vp (st := [.int z0, .int (jabs (y3 - v5))]) dX12_between_49 cl_X12_305 (t_X12_of y2 1 h) (Nat.le_of_ble_eq_true rfl) shM_0 rfl rfl (Nat.le_of_ble_eq_true rfl) (fun v6 _ => ?_)
  refine B_isub dX12_between_52 ?_
  refine B_mabs dX12_between_53 mt_X12_308 (Nat.le_of_ble_eq_true rfl) (Nat.le_of_ble_eq_true rfl) ?_
  refine B_iadd dX12_between_56 ?_
  exact B_ireturn dX12_between_57 rfl rfl
def f_X12_between_J15 (y1 : Int32) (y2 : Int32) (z0 : Int32) (h : dH) : Option (Int32) :=
  if y1 = (-1) then
  f_X12_between_J31 y2 z0 0 h
  else
  (f_X12_of y1 1 h).bind fun v3 =>
  f_X12_between_J31 y2 z0 v3 h
set_option maxRecDepth 20000 in
set_option maxHeartbeats 4000000 in
theorem b_X12_between_J15 (h : dH) (y1 : Int32) (y2 : Int32) (z0 : Int32) : B XM 1 RX12 cX12_between 5 (some .int) (fiP h) 15 [.ref 0, .int y1, .int y2, .null, .null] [.int z0] h (f_X12_between_J15 y1 y2 z0 h) := by
  unfold f_X12_between_J15
  refine B_istore_n (ls' := [.ref 0, .int y1, .int y2, .int z0, .null]) dX12_between_15 rfl (Nat.le_of_ble_eq_true rfl) rfl rfl ?_
  refine B_iload_n dX12_between_16 rfl rfl ?_
  refine B_iconst dX12_between_17 ic_m1 ?_
  refine C_icmp_ne (tgt := 25) dX12_between_18 (by decide) (fun q4 => ?_) (fun q4 => ?_)
  · refine B_aload_n dX12_between_25 rfl rfl ?_
    refine B_iload_n dX12_between_26 rfl rfl ?_
    refine B_iconst dX12_between_27 ic_1 ?_
    refine B_Vp (st := []) dX12_between_28 cl_X12_305 (t_X12_of y1 1 h) (Nat.le_of_ble_eq_true rfl) shM_0 rfl rfl (Nat.le_of_ble_eq_true rfl) (fun v3 _ => ?_)
    refine B_drop 1 (ls' := [.ref 0, .null, .int y2, .int z0, .null]) rfl ?_
    exact b_X12_between_J31 h y2 z0 v3
  · refine B_iconst dX12_between_21 ic_0 ?_
    refine B_goto (tgt := 31) dX12_between_22 (by decide) ?_
    refine B_drop 1 (ls' := [.ref 0, .null, .int y2, .int z0, .null]) rfl ?_
    exact b_X12_between_J31 h y2 z0 0
def f_X12_between (x1 : Int32) (x2 : Int32) (h : dH) : Option (Int32) :=
  if x1 = (-1) then
  f_X12_between_J15 x1 x2 0 h
  else
  (f_X12_of x1 0 h).bind fun v1 =>
  f_X12_between_J15 x1 x2 v1 h
set_option maxRecDepth 20000 in
set_option maxHeartbeats 4000000 in
theorem t_X12_between (x1 : Int32) (x2 : Int32) (h : dH) : T XM 1 yX12_between cX12_between 5 (some .int) (fiP h) [.ref 0, .int x1, .int x2] h (f_X12_between x1 x2 h) := by
  refine T_of [.ref 0, .int x1, .int x2, .null, .null] (by decide) (fun _ => rfl) (fun _ => Nat.le_of_ble_eq_true rfl) ?_
  show B XM 1 RX12 cX12_between 5 (some .int) (fiP h) 0 [.ref 0, .int x1, .int x2, .null, .null] [] h (f_X12_between x1 x2 h)
  unfold f_X12_between
  refine B_iload_n dX12_between_0 rfl rfl ?_
  refine B_iconst dX12_between_1 ic_m1 ?_
  refine C_icmp_ne (tgt := 9) dX12_between_2 (by decide) (fun q2 => ?_) (fun q2 => ?_)
  · refine B_aload_n dX12_between_9 rfl rfl ?_
    refine B_iload_n dX12_between_10 rfl rfl ?_
    refine B_iconst dX12_between_11 ic_0 ?_
    refine B_Vp (st := []) dX12_between_12 cl_X12_305 (t_X12_of x1 0 h) (Nat.le_of_ble_eq_true rfl) shM_0 rfl rfl (Nat.le_of_ble_eq_true rfl) (fun v1 _ => ?_)
    exact b_X12_between_J15 h x1 x2 v1
  · refine B_iconst dX12_between_5 ic_0 ?_
    refine B_goto (tgt := 15) dX12_between_6 (by decide) ?_
    exact b_X12_between_J15 h x1 x2 0
def f_X12_where (w : Nat) (h : dH) : Int32 :=
  ((h.1 w 23) - 1)
set_option maxRecDepth 20000 in
set_option maxHeartbeats 4000000 in
theorem t_X12_where (w : Nat) (hw : XM.1[w]? = some (.inr (0, 209))) (h : dH) : T XM 0 yX12_where cX12_where 1 (some .int) (fiP h) [.ref w] h (some (f_X12_where w h)) := by
  refine T_of [.ref w] (by decide) (fun _ => rfl) (fun _ => Nat.le_of_ble_eq_true rfl) ?_
  show B XM 0 RX12 cX12_where 1 (some .int) (fiP h) 0 [.ref w] [] h (some (f_X12_where w h))
  unfold f_X12_where
  refine B_aload_n dX12_where_0 rfl rfl ?_
  refine B_bipush dX12_where_1 bp_23 ?_
  refine L_iald dX12_where_3 hw (by decide) di_23 ?_
  refine B_iconst dX12_where_4 ic_1 ?_
  refine B_isub dX12_where_5 ?_
  exact B_ireturn dX12_where_6 rfl rfl
def f_X12_far (w : Nat) (x2 : Int32) (h : dH) : Option (Int32) :=
  (f_X12_between (f_X12_where w h) x2 h).bind fun v1 =>
  some v1
set_option maxRecDepth 20000 in
set_option maxHeartbeats 4000000 in
theorem t_X12_far (w : Nat) (hw : XM.1[w]? = some (.inr (0, 209))) (x2 : Int32) (h : dH) : T XM 2 yX12_far cX12_far 3 (some .int) (fiP h) [.ref 0, .ref w, .int x2] h (f_X12_far w x2 h) := by
  refine T_of [.ref 0, .ref w, .int x2] (by decide) (fun _ => rfl) (fun _ => Nat.le_of_ble_eq_true rfl) ?_
  show B XM 2 RX12 cX12_far 3 (some .int) (fiP h) 0 [.ref 0, .ref w, .int x2] [] h (f_X12_far w x2 h)
  unfold f_X12_far
  refine B_aload_n dX12_far_0 rfl rfl ?_
  refine B_aload_n dX12_far_1 rfl rfl ?_
  refine B_St (st := [.ref 0]) dX12_far_2 cl_X12_311 (t_X12_where w hw h) (Nat.le_of_ble_eq_true rfl) rfl rfl (Nat.le_of_ble_eq_true rfl) ?_
  refine B_iload_n dX12_far_5 rfl rfl ?_
  refine B_Vp (st := []) dX12_far_6 cl_X12_315 (t_X12_between (f_X12_where w h) x2 h) (Nat.le_of_ble_eq_true rfl) shM_0 rfl rfl (Nat.le_of_ble_eq_true rfl) (fun v1 _ => ?_)
  exact B_ireturn dX12_far_9 rfl rfl
def f_X12_canWalk (w : Nat) (x2 : Int32) (h : dH) : Option (Bool) :=
  if (f_X12_isPlace x2 h) then
  if (f_X12_where w h) = x2 then
  some false
  else
  (f_X12_far w x2 h).bind fun v1 =>
  if (h.1 5 0) < ((h.1 w 22) + v1) then
  some false
  else
  (f_X12_far w x2 h).bind fun v2 =>
  if (h.1 5 1) < (((h.1 w 21) + v2) + 1) then
  some false
  else
  some true
  else
  some false
set_option maxRecDepth 20000 in
set_option maxHeartbeats 4000000 in
theorem t_X12_canWalk (w : Nat) (hw : XM.1[w]? = some (.inr (0, 209))) (x2 : Int32) (h : dH) : T XM 3 yX12_canWalk cX12_canWalk 3 (some .boolean) (fiB h) [.ref 0, .ref w, .int x2] h (f_X12_canWalk w x2 h) := by
  refine T_of [.ref 0, .ref w, .int x2] (by decide) (fun _ => rfl) (fun _ => Nat.le_of_ble_eq_true rfl) ?_
  show B XM 3 RX12 cX12_canWalk 3 (some .boolean) (fiB h) 0 [.ref 0, .ref w, .int x2] [] h (f_X12_canWalk w x2 h)
  unfold f_X12_canWalk
  refine B_aload_n dX12_canWalk_0 rfl rfl ?_
  refine B_iload_n dX12_canWalk_1 rfl rfl ?_
  refine B_VTb (st := []) dX12_canWalk_2 cl_X12_339 (t_X12_isPlace x2 h) (Nat.le_of_ble_eq_true rfl) shM_0 rfl rfl (Nat.le_of_ble_eq_true rfl) ?_
  refine C_ifb_eq (tgt := 62) dX12_canWalk_5 (by decide) (fun q6 => ?_) (fun q6 => ?_)
  · refine B_iconst dX12_canWalk_62 ic_0 ?_
    exact B_zreturn dX12_canWalk_63 rfl rfl rfl
  · refine B_aload_n dX12_canWalk_8 rfl rfl ?_
    refine B_St (st := []) dX12_canWalk_9 cl_X12_311 (t_X12_where w hw h) (Nat.le_of_ble_eq_true rfl) rfl rfl (Nat.le_of_ble_eq_true rfl) ?_
    refine B_iload_n dX12_canWalk_12 rfl rfl ?_
    refine C_icmp_eq (tgt := 62) dX12_canWalk_13 (by decide) (fun q5 => ?_) (fun q5 => ?_)
    · refine B_iconst dX12_canWalk_62 ic_0 ?_
      exact B_zreturn dX12_canWalk_63 rfl rfl rfl
    · refine B_aload_n dX12_canWalk_16 rfl rfl ?_
      refine B_bipush dX12_canWalk_17 bp_22 ?_
      refine L_iald dX12_canWalk_19 hw (by decide) di_22 ?_
      refine B_aload_n dX12_canWalk_20 rfl rfl ?_
      refine B_aload_n dX12_canWalk_21 rfl rfl ?_
      refine B_iload_n dX12_canWalk_22 rfl rfl ?_
      refine B_Vp (st := [.int (h.1 w 22)]) dX12_canWalk_23 cl_X12_328 (t_X12_far w hw x2 h) (Nat.le_of_ble_eq_true rfl) shM_0 rfl rfl (Nat.le_of_ble_eq_true rfl) (fun v1 _ => ?_)
      refine B_iadd dX12_canWalk_26 ?_
      refine B_aload_n dX12_canWalk_27 rfl rfl ?_
      refine B_getR dX12_canWalk_28 fl_X12_37 shM_0 rfl (rfM_0_18 _) ?_
      refine B_iconst dX12_canWalk_31 ic_0 ?_
      refine L_iald dX12_canWalk_32 shM_5 (by decide) di_0 ?_
      refine C_icmp_gt (tgt := 62) dX12_canWalk_33 (by decide) (fun q4 => ?_) (fun q4 => ?_)
      · refine B_iconst dX12_canWalk_62 ic_0 ?_
        exact B_zreturn dX12_canWalk_63 rfl rfl rfl
      · refine B_aload_n dX12_canWalk_36 rfl rfl ?_
        refine B_bipush dX12_canWalk_37 bp_21 ?_
        refine L_iald dX12_canWalk_39 hw (by decide) di_21 ?_
        refine B_aload_n dX12_canWalk_40 rfl rfl ?_
        refine B_aload_n dX12_canWalk_41 rfl rfl ?_
        refine B_iload_n dX12_canWalk_42 rfl rfl ?_
        refine B_Vp (st := [.int (h.1 w 21)]) dX12_canWalk_43 cl_X12_328 (t_X12_far w hw x2 h) (Nat.le_of_ble_eq_true rfl) shM_0 rfl rfl (Nat.le_of_ble_eq_true rfl) (fun v2 _ => ?_)
        refine B_iadd dX12_canWalk_46 ?_
        refine B_iconst dX12_canWalk_47 ic_1 ?_
        refine B_iadd dX12_canWalk_48 ?_
        refine B_aload_n dX12_canWalk_49 rfl rfl ?_
        refine B_getR dX12_canWalk_50 fl_X12_37 shM_0 rfl (rfM_0_18 _) ?_
        refine B_iconst dX12_canWalk_53 ic_1 ?_
        refine L_iald dX12_canWalk_54 shM_5 (by decide) di_1 ?_
        refine C_icmp_gt (tgt := 62) dX12_canWalk_55 (by decide) (fun q3 => ?_) (fun q3 => ?_)
        · refine B_iconst dX12_canWalk_62 ic_0 ?_
          exact B_zreturn dX12_canWalk_63 rfl rfl rfl
        · refine B_iconst dX12_canWalk_58 ic_1 ?_
          refine B_goto (tgt := 63) dX12_canWalk_59 (by decide) ?_
          exact B_zreturn dX12_canWalk_63 rfl rfl rfl
def f_X12_canRest (w : Nat) (h : dH) : Bool :=
  if 0 < (h.1 w 22) then
  if (h.1 w 21) < (h.1 5 1) then
  true
  else
  false
  else
  false
set_option maxRecDepth 20000 in
set_option maxHeartbeats 4000000 in
theorem t_X12_canRest (w : Nat) (hw : XM.1[w]? = some (.inr (0, 209))) (h : dH) : T XM 0 yX12_canRest cX12_canRest 2 (some .boolean) (fiB h) [.ref 0, .ref w] h (some (f_X12_canRest w h)) := by
  refine T_of [.ref 0, .ref w] (by decide) (fun _ => rfl) (fun _ => Nat.le_of_ble_eq_true rfl) ?_
  show B XM 0 RX12 cX12_canRest 2 (some .boolean) (fiB h) 0 [.ref 0, .ref w] [] h (some (f_X12_canRest w h))
  unfold f_X12_canRest
  refine B_aload_n dX12_canRest_0 rfl rfl ?_
  refine B_bipush dX12_canRest_1 bp_22 ?_
  refine L_iald dX12_canRest_3 hw (by decide) di_22 ?_
  refine C_some ?_
  refine C_if_le (tgt := 24) dX12_canRest_4 (by decide) (fun q2 => ?_) (fun q2 => ?_)
  · refine B_iconst dX12_canRest_24 ic_0 ?_
    exact B_zreturn dX12_canRest_25 rfl rfl rfl
  · refine B_aload_n dX12_canRest_7 rfl rfl ?_
    refine B_bipush dX12_canRest_8 bp_21 ?_
    refine L_iald dX12_canRest_10 hw (by decide) di_21 ?_
    refine B_aload_n dX12_canRest_11 rfl rfl ?_
    refine B_getR dX12_canRest_12 fl_X12_37 shM_0 rfl (rfM_0_18 _) ?_
    refine B_iconst dX12_canRest_15 ic_1 ?_
    refine L_iald dX12_canRest_16 shM_5 (by decide) di_1 ?_
    refine C_some ?_
    refine C_icmp_ge (tgt := 24) dX12_canRest_17 (by decide) (fun q1 => ?_) (fun q1 => ?_)
    · refine B_iconst dX12_canRest_24 ic_0 ?_
      exact B_zreturn dX12_canRest_25 rfl rfl rfl
    · refine B_iconst dX12_canRest_20 ic_1 ?_
      refine B_goto (tgt := 25) dX12_canRest_21 (by decide) ?_
      exact B_zreturn dX12_canRest_25 rfl rfl rfl
def f_X12_sitsDown (w : Nat) (h : dH) : Option (dH) :=
  (some (dPut h w 21 ((h.1 w 21) + 1))).bind fun h1 =>
  some (dPut h1 w 22 (jmax 0 ((h1.1 w 22) - 3)))
set_option maxRecDepth 20000 in
set_option maxHeartbeats 4000000 in
theorem t_X12_sitsDown (w : Nat) (hw : XM.1[w]? = some (.inr (0, 209))) (h : dH) : T XM 1 yX12_sitsDown cX12_sitsDown 1 none fiV [.ref w] h (f_X12_sitsDown w h) := by
  refine T_of [.ref w] (by decide) (fun _ => rfl) (fun _ => Nat.le_of_ble_eq_true rfl) ?_
  show B XM 1 RX12 cX12_sitsDown 1 none fiV 0 [.ref w] [] h (f_X12_sitsDown w h)
  unfold f_X12_sitsDown
  refine B_aload_n dX12_sitsDown_0 rfl rfl ?_
  refine B_bipush dX12_sitsDown_1 bp_21 ?_
  refine B_dup2 dX12_sitsDown_3 rfl rfl ?_
  refine L_iald dX12_sitsDown_4 hw (by decide) di_21 ?_
  refine B_iconst dX12_sitsDown_5 ic_1 ?_
  refine B_iadd dX12_sitsDown_6 ?_
  refine L_iast dX12_sitsDown_7 hw (by decide) di_21 ?_
  refine B_lh (fun h1 => ?_)
  refine B_aload_n dX12_sitsDown_8 rfl rfl ?_
  refine B_bipush dX12_sitsDown_9 bp_22 ?_
  refine B_iconst dX12_sitsDown_11 ic_0 ?_
  refine B_aload_n dX12_sitsDown_12 rfl rfl ?_
  refine B_bipush dX12_sitsDown_13 bp_22 ?_
  refine L_iald dX12_sitsDown_15 hw (by decide) di_22 ?_
  refine B_iconst dX12_sitsDown_16 ic_3 ?_
  refine B_isub dX12_sitsDown_17 ?_
  refine B_mmax dX12_sitsDown_18 mt_X12_337 (Nat.le_of_ble_eq_true rfl) (Nat.le_of_ble_eq_true rfl) ?_
  refine L_iast dX12_sitsDown_21 hw (by decide) di_22 ?_
  exact B_return dX12_sitsDown_22 rfl rfl
def f_X12_tooMuch_J37 (w : Nat) (kL4 : Int32 → Int32 → Option (Int32)) (y3 : Int32) (z0 : Int32) (z1 : Int32) (h : dH) : Option (Int32) :=
  (some ((z0 ||| z1))).bind fun v5 =>
  kL4 v5 (y3 + 1)
set_option maxRecDepth 20000 in
set_option maxHeartbeats 4000000 in
theorem b_X12_tooMuch_J37 {w : Nat} {kL4 : Int32 → Int32 → Option (Int32)} (hw : XM.1[w]? = some (.inr (0, 209))) (h : dH) (hkL4 : ∀ (y2 : Int32) (y3 : Int32), B XM 0 RX12 cX12_tooMuch 4 (some .int) (fiP h) 4 [.ref 0, .ref w, .int y2, .int y3] [] h (kL4 y2 y3)) (y3 : Int32) (z0 : Int32) (z1 : Int32) : B XM 0 RX12 cX12_tooMuch 4 (some .int) (fiP h) 37 [.ref 0, .ref w, .null, .int y3] [.int z1, .int z0] h (f_X12_tooMuch_J37 w kL4 y3 z0 z1 h) := by
  unfold f_X12_tooMuch_J37
  refine B_ior dX12_tooMuch_37 ?_
  refine B_lv (fun v5 => ?_)
  refine B_istore_n (ls' := [.ref 0, .ref w, .int v5, .int y3]) dX12_tooMuch_38 rfl (Nat.le_of_ble_eq_true rfl) rfl rfl ?_
  refine B_iinc (w := (y3 + 1)) (ls' := [.ref 0, .ref w, .int v5, .int (y3 + 1)]) dX12_tooMuch_39 rfl (congrArg (fun z => y3 + z) ic_1) (Nat.le_of_ble_eq_true rfl) rfl rfl ?_
  refine B_goto (tgt := 4) dX12_tooMuch_42 (by decide) ?_
  exact hkL4 v5 (y3 + 1)  
def f_X12_tooMuch_L4 (w : Nat) (h : dH) : Nat → Int32 → Int32 → Option (Int32)
  | 0, _, _ => none
  | n + 1, y2, y3 =>
    if y3 < (h.1 0 24) then
    if dIn ((3 * y3) + 0) 209 then
    if dIn ((3 * y3) + 1) 209 then
    if (h.1 w (dI ((3 * y3) + 1))) < (h.1 w (dI ((3 * y3) + 0))) then
    f_X12_tooMuch_J37 w (f_X12_tooMuch_L4 w h n) y3 y2 (1 <<< (y3 &&& 31)) h
    else
    f_X12_tooMuch_J37 w (f_X12_tooMuch_L4 w h n) y3 y2 0 h
    else none
    else none
    else
    some y2
set_option maxRecDepth 20000 in
set_option maxHeartbeats 4000000 in
theorem b_X12_tooMuch_L4 {w : Nat} (hw : XM.1[w]? = some (.inr (0, 209))) (h : dH) : ∀ (n : Nat) (y2 : Int32) (y3 : Int32), B XM 0 RX12 cX12_tooMuch 4 (some .int) (fiP h) 4 [.ref 0, .ref w, .int y2, .int y3] [] h (f_X12_tooMuch_L4 w h n y2 y3) := by
  intro n
  induction n with
  | zero =>
    intro y2 y3
    exact B_none
  | succ n ih =>
    intro y2 y3
    rw [f_X12_tooMuch_L4]
    refine B_iload_n dX12_tooMuch_4 rfl rfl ?_
    refine B_aload_n dX12_tooMuch_5 rfl rfl ?_
    refine B_getI dX12_tooMuch_6 fl_X12_293 shM_0 rfl ?_
    refine C_icmp_ge (tgt := 45) dX12_tooMuch_9 (by decide) (fun q4 => ?_) (fun q4 => ?_)
    · refine B_iload_n dX12_tooMuch_45 rfl rfl ?_
      exact B_ireturn dX12_tooMuch_46 rfl rfl
    · refine B_iload_n dX12_tooMuch_12 rfl rfl ?_
      refine B_aload_n dX12_tooMuch_13 rfl rfl ?_
      refine B_iconst dX12_tooMuch_14 ic_3 ?_
      refine B_iload_n dX12_tooMuch_15 rfl rfl ?_
      refine B_imul dX12_tooMuch_16 ?_
      refine B_iconst dX12_tooMuch_17 ic_0 ?_
      refine B_iadd dX12_tooMuch_18 ?_
      refine C_chk (fun q1 => ?_)
      refine L_iald dX12_tooMuch_19 hw q1 rfl ?_
      refine B_aload_n dX12_tooMuch_20 rfl rfl ?_
      refine B_iconst dX12_tooMuch_21 ic_3 ?_
      refine B_iload_n dX12_tooMuch_22 rfl rfl ?_
      refine B_imul dX12_tooMuch_23 ?_
      refine B_iconst dX12_tooMuch_24 ic_1 ?_
      refine B_iadd dX12_tooMuch_25 ?_
      refine C_chk (fun q2 => ?_)
      refine L_iald dX12_tooMuch_26 hw q2 rfl ?_
      refine C_icmp_le (tgt := 36) dX12_tooMuch_27 (by decide) (fun q3 => ?_) (fun q3 => ?_)
      · refine B_iconst dX12_tooMuch_36 ic_0 ?_
        refine B_drop 2 (ls' := [.ref 0, .ref w, .null, .int y3]) rfl ?_
        exact b_X12_tooMuch_J37 hw h (fun qy2 qy3 => ih qy2 qy3) y3 y2 0
      · refine B_iconst dX12_tooMuch_30 ic_1 ?_
        refine B_iload_n dX12_tooMuch_31 rfl rfl ?_
        refine B_ishl dX12_tooMuch_32 ?_
        refine B_goto (tgt := 37) dX12_tooMuch_33 (by decide) ?_
        refine B_drop 2 (ls' := [.ref 0, .ref w, .null, .int y3]) rfl ?_
        exact b_X12_tooMuch_J37 hw h (fun qy2 qy3 => ih qy2 qy3) y3 y2 (1 <<< (y3 &&& 31))
def f_X12_tooMuch (w : Nat) (h : dH) : Option (Int32) :=
  f_X12_tooMuch_L4 w h dFu 0 0
set_option maxRecDepth 20000 in
set_option maxHeartbeats 4000000 in
theorem t_X12_tooMuch (w : Nat) (hw : XM.1[w]? = some (.inr (0, 209))) (h : dH) : T XM 0 yX12_tooMuch cX12_tooMuch 4 (some .int) (fiP h) [.ref 0, .ref w] h (f_X12_tooMuch w h) := by
  refine T_of [.ref 0, .ref w, .null, .null] (by decide) (fun _ => rfl) (fun _ => Nat.le_of_ble_eq_true rfl) ?_
  show B XM 0 RX12 cX12_tooMuch 4 (some .int) (fiP h) 0 [.ref 0, .ref w, .null, .null] [] h (f_X12_tooMuch w h)
  unfold f_X12_tooMuch
  refine B_iconst dX12_tooMuch_0 ic_0 ?_
  refine B_istore_n (ls' := [.ref 0, .ref w, .int 0, .null]) dX12_tooMuch_1 rfl (Nat.le_of_ble_eq_true rfl) rfl rfl ?_
  refine B_iconst dX12_tooMuch_2 ic_0 ?_
  refine B_istore_n (ls' := [.ref 0, .ref w, .int 0, .int 0]) dX12_tooMuch_3 rfl (Nat.le_of_ble_eq_true rfl) rfl rfl ?_
  exact b_X12_tooMuch_L4 hw h dFu 0 0
def f_X12_goDay_L92 (w : Nat) : Nat → Int32 → dH → Option (dH)
  | 0, _, _ => none
  | n + 1, y3, h =>
    if y3 < (h.1 0 24) then
    if dIn ((3 * y3) + 0) 209 then
    if dIn ((3 * y3) + 0) 209 then
    (some (dPut h w (dI ((3 * y3) + 0)) (jmax 0 ((h.1 w (dI ((3 * y3) + 0))) - (h.1 5 2))))).bind fun h22 =>
    if dIn ((3 * y3) + 2) 209 then
    (some (dPut h22 w (dI ((3 * y3) + 2)) 0)).bind fun h24 =>
    (f_X12_goDay_L92 w n) (y3 + 1) h24
    else none
    else none
    else none
    else
    (some (dPut h w 21 0)).bind fun h16 =>
    (some (dPut h16 w 22 0)).bind fun h17 =>
    (some (dPut h17 w 23 0)).bind fun h18 =>
    (some (dPut h18 w 24 0)).bind fun h19 =>
    some (dPut h19 w 27 ((h19.1 w 27) + 1))
set_option maxRecDepth 20000 in
set_option maxHeartbeats 4000000 in
theorem b_X12_goDay_L92 {w : Nat} (hw : XM.1[w]? = some (.inr (0, 209))) : ∀ (n : Nat) (y3 : Int32) (h : dH), B XM 1 RX12 cX12_goDay 4 none fiV 92 [.ref 0, .ref w, .null, .int y3] [] h (f_X12_goDay_L92 w n y3 h) := by
  intro n
  induction n with
  | zero =>
    intro y3 h
    exact B_none
  | succ n ih =>
    intro y3 h
    rw [f_X12_goDay_L92]
    refine B_iload_n dX12_goDay_92 rfl rfl ?_
    refine B_aload_n dX12_goDay_93 rfl rfl ?_
    refine B_getI dX12_goDay_94 fl_X12_293 shM_0 rfl ?_
    refine C_icmp_ge (tgt := 139) dX12_goDay_97 (by decide) (fun q25 => ?_) (fun q25 => ?_)
    · refine B_aload_n dX12_goDay_139 rfl rfl ?_
      refine B_bipush dX12_goDay_140 bp_21 ?_
      refine B_iconst dX12_goDay_142 ic_0 ?_
      refine L_iast dX12_goDay_143 hw (by decide) di_21 ?_
      refine B_lh (fun h16 => ?_)
      refine B_aload_n dX12_goDay_144 rfl rfl ?_
      refine B_bipush dX12_goDay_145 bp_22 ?_
      refine B_iconst dX12_goDay_147 ic_0 ?_
      refine L_iast dX12_goDay_148 hw (by decide) di_22 ?_
      refine B_lh (fun h17 => ?_)
      refine B_aload_n dX12_goDay_149 rfl rfl ?_
      refine B_bipush dX12_goDay_150 bp_23 ?_
      refine B_iconst dX12_goDay_152 ic_0 ?_
      refine L_iast dX12_goDay_153 hw (by decide) di_23 ?_
      refine B_lh (fun h18 => ?_)
      refine B_aload_n dX12_goDay_154 rfl rfl ?_
      refine B_bipush dX12_goDay_155 bp_24 ?_
      refine B_iconst dX12_goDay_157 ic_0 ?_
      refine L_iast dX12_goDay_158 hw (by decide) di_24 ?_
      refine B_lh (fun h19 => ?_)
      refine B_aload_n dX12_goDay_159 rfl rfl ?_
      refine B_bipush dX12_goDay_160 bp_27 ?_
      refine B_dup2 dX12_goDay_162 rfl rfl ?_
      refine L_iald dX12_goDay_163 hw (by decide) di_27 ?_
      refine B_iconst dX12_goDay_164 ic_1 ?_
      refine B_iadd dX12_goDay_165 ?_
      refine L_iast dX12_goDay_166 hw (by decide) di_27 ?_
      exact B_return dX12_goDay_167 rfl rfl
    · refine B_aload_n dX12_goDay_100 rfl rfl ?_
      refine B_iconst dX12_goDay_101 ic_3 ?_
      refine B_iload_n dX12_goDay_102 rfl rfl ?_
      refine B_imul dX12_goDay_103 ?_
      refine B_iconst dX12_goDay_104 ic_0 ?_
      refine B_iadd dX12_goDay_105 ?_
      refine B_iconst dX12_goDay_106 ic_0 ?_
      refine B_aload_n dX12_goDay_107 rfl rfl ?_
      refine B_iconst dX12_goDay_108 ic_3 ?_
      refine B_iload_n dX12_goDay_109 rfl rfl ?_
      refine B_imul dX12_goDay_110 ?_
      refine B_iconst dX12_goDay_111 ic_0 ?_
      refine B_iadd dX12_goDay_112 ?_
      refine C_chk (fun q20 => ?_)
      refine L_iald dX12_goDay_113 hw q20 rfl ?_
      refine B_aload_n dX12_goDay_114 rfl rfl ?_
      refine B_getR dX12_goDay_115 fl_X12_37 shM_0 rfl (rfM_0_18 _) ?_
      refine B_iconst dX12_goDay_118 ic_2 ?_
      refine L_iald dX12_goDay_119 shM_5 (by decide) di_2 ?_
      refine B_isub dX12_goDay_120 ?_
      refine B_mmax dX12_goDay_121 mt_X12_337 (Nat.le_of_ble_eq_true rfl) (Nat.le_of_ble_eq_true rfl) ?_
      refine C_chk (fun q21 => ?_)
      refine L_iast dX12_goDay_124 hw q21 rfl ?_
      refine B_lh (fun h22 => ?_)
      refine B_aload_n dX12_goDay_125 rfl rfl ?_
      refine B_iconst dX12_goDay_126 ic_3 ?_
      refine B_iload_n dX12_goDay_127 rfl rfl ?_
      refine B_imul dX12_goDay_128 ?_
      refine B_iconst dX12_goDay_129 ic_2 ?_
      refine B_iadd dX12_goDay_130 ?_
      refine B_iconst dX12_goDay_131 ic_0 ?_
      refine C_chk (fun q23 => ?_)
      refine L_iast dX12_goDay_132 hw q23 rfl ?_
      refine B_lh (fun h24 => ?_)
      refine B_iinc (w := (y3 + 1)) (ls' := [.ref 0, .ref w, .null, .int (y3 + 1)]) dX12_goDay_133 rfl (congrArg (fun z => y3 + z) ic_1) (Nat.le_of_ble_eq_true rfl) rfl rfl ?_
      refine B_goto (tgt := 92) dX12_goDay_136 (by decide) ?_
      exact ih (y3 + 1)  h24
def f_X12_goDay_J46 (w : Nat) (h : dH) : Option (dH) :=
  (some ((29 + (3 * (h.1 w 28))))).bind fun v2 =>
  if dIn v2 209 then
  (some (dPut h w (dI v2) (h.1 w 21))).bind fun h4 =>
  if dIn (v2 + 1) 209 then
  (some (dPut h4 w (dI (v2 + 1)) (h4.1 w 24))).bind fun h6 =>
  (f_X12_tooMuch w h6).bind fun v7 =>
  if dIn (v2 + 2) 209 then
  (some (dPut h6 w (dI (v2 + 2)) v7)).bind fun h9 =>
  (some (dPut h9 w 28 ((h9.1 w 28) + 1))).bind fun h10 =>
  f_X12_goDay_L92 w dFu 0 h10
  else none
  else none
  else none
set_option maxRecDepth 20000 in
set_option maxHeartbeats 4000000 in
theorem b_X12_goDay_J46 {w : Nat} (hw : XM.1[w]? = some (.inr (0, 209))) (h : dH) : B XM 1 RX12 cX12_goDay 4 none fiV 46 [.ref 0, .ref w, .null, .null] [] h (f_X12_goDay_J46 w h) := by
  unfold f_X12_goDay_J46
  refine B_bipush dX12_goDay_46 bp_29 ?_
  refine B_iconst dX12_goDay_48 ic_3 ?_
  refine B_aload_n dX12_goDay_49 rfl rfl ?_
  refine B_bipush dX12_goDay_50 bp_28 ?_
  refine L_iald dX12_goDay_52 hw (by decide) di_28 ?_
  refine B_imul dX12_goDay_53 ?_
  refine B_iadd dX12_goDay_54 ?_
  refine B_lv (fun v2 => ?_)
  refine B_istore_n (ls' := [.ref 0, .ref w, .int v2, .null]) dX12_goDay_55 rfl (Nat.le_of_ble_eq_true rfl) rfl rfl ?_
  refine B_aload_n dX12_goDay_56 rfl rfl ?_
  refine B_iload_n dX12_goDay_57 rfl rfl ?_
  refine B_aload_n dX12_goDay_58 rfl rfl ?_
  refine B_bipush dX12_goDay_59 bp_21 ?_
  refine L_iald dX12_goDay_61 hw (by decide) di_21 ?_
  refine C_chk (fun q3 => ?_)
  refine L_iast dX12_goDay_62 hw q3 rfl ?_
  refine B_lh (fun h4 => ?_)
  refine B_aload_n dX12_goDay_63 rfl rfl ?_
  refine B_iload_n dX12_goDay_64 rfl rfl ?_
  refine B_iconst dX12_goDay_65 ic_1 ?_
  refine B_iadd dX12_goDay_66 ?_
  refine B_aload_n dX12_goDay_67 rfl rfl ?_
  refine B_bipush dX12_goDay_68 bp_24 ?_
  refine L_iald dX12_goDay_70 hw (by decide) di_24 ?_
  refine C_chk (fun q5 => ?_)
  refine L_iast dX12_goDay_71 hw q5 rfl ?_
  refine B_lh (fun h6 => ?_)
  refine B_aload_n dX12_goDay_72 rfl rfl ?_
  refine B_iload_n dX12_goDay_73 rfl rfl ?_
  refine B_iconst dX12_goDay_74 ic_2 ?_
  refine B_iadd dX12_goDay_75 ?_
  refine B_aload_n dX12_goDay_76 rfl rfl ?_
  refine B_aload_n dX12_goDay_77 rfl rfl ?_
  refine B_Vp (st := [.int (v2 + 2), .ref w]) dX12_goDay_78 cl_X12_346 (t_X12_tooMuch w hw h6) (Nat.le_of_ble_eq_true rfl) shM_0 rfl rfl (Nat.le_of_ble_eq_true rfl) (fun v7 _ => ?_)
  refine C_chk (fun q8 => ?_)
  refine L_iast dX12_goDay_81 hw q8 rfl ?_
  refine B_lh (fun h9 => ?_)
  refine B_aload_n dX12_goDay_82 rfl rfl ?_
  refine B_bipush dX12_goDay_83 bp_28 ?_
  refine B_dup2 dX12_goDay_85 rfl rfl ?_
  refine L_iald dX12_goDay_86 hw (by decide) di_28 ?_
  refine B_iconst dX12_goDay_87 ic_1 ?_
  refine B_iadd dX12_goDay_88 ?_
  refine L_iast dX12_goDay_89 hw (by decide) di_28 ?_
  refine B_lh (fun h10 => ?_)
  refine B_iconst dX12_goDay_90 ic_0 ?_
  refine B_istore_n (ls' := [.ref 0, .ref w, .int v2, .int 0]) dX12_goDay_91 rfl (Nat.le_of_ble_eq_true rfl) rfl rfl ?_
  refine B_drop 2 (ls' := [.ref 0, .ref w, .null, .int 0]) rfl ?_
  exact b_X12_goDay_L92 hw dFu 0 h10
def f_X12_goDay_L11 (w : Nat) : Nat → Int32 → dH → Option (dH)
  | 0, _, _ => none
  | n + 1, y2, h =>
    if 177 < y2 then
    (some (dPut h w 28 ((h.1 w 28) - 1))).bind fun h11 =>
    f_X12_goDay_J46 w h11
    else
    if dIn ((28 + y2) + 3) 209 then
    if dIn (28 + y2) 209 then
    (some (dPut h w (dI (28 + y2)) (h.1 w (dI ((28 + y2) + 3))))).bind fun h14 =>
    (f_X12_goDay_L11 w n) (y2 + 1) h14
    else none
    else none
set_option maxRecDepth 20000 in
set_option maxHeartbeats 4000000 in
theorem b_X12_goDay_L11 {w : Nat} (hw : XM.1[w]? = some (.inr (0, 209))) : ∀ (n : Nat) (y2 : Int32) (h : dH), B XM 1 RX12 cX12_goDay 4 none fiV 11 [.ref 0, .ref w, .int y2, .null] [] h (f_X12_goDay_L11 w n y2 h) := by
  intro n
  induction n with
  | zero =>
    intro y2 h
    exact B_none
  | succ n ih =>
    intro y2 h
    rw [f_X12_goDay_L11]
    refine B_iload_n dX12_goDay_11 rfl rfl ?_
    refine B_sipush dX12_goDay_12 sp_177 ?_
    refine C_icmp_gt (tgt := 38) dX12_goDay_15 (by decide) (fun q15 => ?_) (fun q15 => ?_)
    · refine B_aload_n dX12_goDay_38 rfl rfl ?_
      refine B_bipush dX12_goDay_39 bp_28 ?_
      refine B_dup2 dX12_goDay_41 rfl rfl ?_
      refine L_iald dX12_goDay_42 hw (by decide) di_28 ?_
      refine B_iconst dX12_goDay_43 ic_1 ?_
      refine B_isub dX12_goDay_44 ?_
      refine L_iast dX12_goDay_45 hw (by decide) di_28 ?_
      refine B_lh (fun h11 => ?_)
      refine B_drop 2 (ls' := [.ref 0, .ref w, .null, .null]) rfl ?_
      exact b_X12_goDay_J46 hw h11
    · refine B_aload_n dX12_goDay_18 rfl rfl ?_
      refine B_bipush dX12_goDay_19 bp_28 ?_
      refine B_iload_n dX12_goDay_21 rfl rfl ?_
      refine B_iadd dX12_goDay_22 ?_
      refine B_aload_n dX12_goDay_23 rfl rfl ?_
      refine B_bipush dX12_goDay_24 bp_28 ?_
      refine B_iload_n dX12_goDay_26 rfl rfl ?_
      refine B_iadd dX12_goDay_27 ?_
      refine B_iconst dX12_goDay_28 ic_3 ?_
      refine B_iadd dX12_goDay_29 ?_
      refine C_chk (fun q12 => ?_)
      refine L_iald dX12_goDay_30 hw q12 rfl ?_
      refine C_chk (fun q13 => ?_)
      refine L_iast dX12_goDay_31 hw q13 rfl ?_
      refine B_lh (fun h14 => ?_)
      refine B_iinc (w := (y2 + 1)) (ls' := [.ref 0, .ref w, .int (y2 + 1), .null]) dX12_goDay_32 rfl (congrArg (fun z => y2 + z) ic_1) (Nat.le_of_ble_eq_true rfl) rfl rfl ?_
      refine B_goto (tgt := 11) dX12_goDay_35 (by decide) ?_
      exact ih (y2 + 1)  h14
def f_X12_goDay (w : Nat) (h : dH) : Option (dH) :=
  if (h.1 w 28) = 60 then
  f_X12_goDay_L11 w dFu 1 h
  else
  f_X12_goDay_J46 w h
set_option maxRecDepth 20000 in
set_option maxHeartbeats 4000000 in
theorem t_X12_goDay (w : Nat) (hw : XM.1[w]? = some (.inr (0, 209))) (h : dH) : T XM 1 yX12_goDay cX12_goDay 4 none fiV [.ref 0, .ref w] h (f_X12_goDay w h) := by
  refine T_of [.ref 0, .ref w, .null, .null] (by decide) (fun _ => rfl) (fun _ => Nat.le_of_ble_eq_true rfl) ?_
  show B XM 1 RX12 cX12_goDay 4 none fiV 0 [.ref 0, .ref w, .null, .null] [] h (f_X12_goDay w h)
  unfold f_X12_goDay
  refine B_aload_n dX12_goDay_0 rfl rfl ?_
  refine B_bipush dX12_goDay_1 bp_28 ?_
  refine L_iald dX12_goDay_3 hw (by decide) di_28 ?_
  refine B_bipush dX12_goDay_4 bp_60 ?_
  refine C_icmp_ne (tgt := 46) dX12_goDay_6 (by decide) (fun q1 => ?_) (fun q1 => ?_)
  · exact b_X12_goDay_J46 hw h
  · refine B_iconst dX12_goDay_9 ic_1 ?_
    refine B_istore_n (ls' := [.ref 0, .ref w, .int 1, .null]) dX12_goDay_10 rfl (Nat.le_of_ble_eq_true rfl) rfl rfl ?_
    exact b_X12_goDay_L11 hw dFu 1 h
def f_X12_rule (x1 : Int32) (h : dH) : Option (Int32 × dH) :=
  (some (dPut h 0 0 0)).bind fun h1 =>
  if 0 < (h1.1 0 24) then
  if (f_X12_isIn ((x1 : Int32).toInt64) 0 2 h1) then
  if dIn x1 3 then
  some ((h1.1 5 (dI x1)), h1)
  else none
  else
  some ((-1), h1)
  else
  some ((-1), h1)
set_option maxRecDepth 20000 in
set_option maxHeartbeats 4000000 in
theorem t_X12_rule (x1 : Int32) (h : dH) : T XM 1 yX12_rule cX12_rule 2 (some .int) fiI [.ref 0, .int x1] h (f_X12_rule x1 h) := by
  refine T_of [.ref 0, .int x1] (by decide) (fun _ => rfl) (fun _ => Nat.le_of_ble_eq_true rfl) ?_
  show B XM 1 RX12 cX12_rule 2 (some .int) fiI 0 [.ref 0, .int x1] [] h (f_X12_rule x1 h)
  unfold f_X12_rule
  refine B_aload_n dX12_rule_0 rfl rfl ?_
  refine B_iconst dX12_rule_1 ic_0 ?_
  refine B_putI dX12_rule_2 fl_X12_103 fw_X12_0 shM_0 rfl ?_
  refine B_lh (fun h1 => ?_)
  refine B_aload_n dX12_rule_5 rfl rfl ?_
  refine B_getI dX12_rule_6 fl_X12_293 shM_0 rfl ?_
  refine C_if_le (tgt := 33) dX12_rule_9 (by decide) (fun q4 => ?_) (fun q4 => ?_)
  · refine B_iconst dX12_rule_33 ic_m1 ?_
    exact B_ireturn dX12_rule_34 rfl rfl
  · refine B_iload_n dX12_rule_12 rfl rfl ?_
    refine B_i2l dX12_rule_13 ?_
    refine B_lconst (v := 0) dX12_rule_14 (by decide) ?_
    refine B_ldc2 dX12_rule_15 kc_X12_274 ?_
    refine B_STb (st := []) dX12_rule_18 cl_X12_224 (t_X12_isIn ((x1 : Int32).toInt64) 0 2 h1) (Nat.le_of_ble_eq_true rfl) rfl rfl (Nat.le_of_ble_eq_true rfl) ?_
    refine C_ifb_eq (tgt := 33) dX12_rule_21 (by decide) (fun q3 => ?_) (fun q3 => ?_)
    · refine B_iconst dX12_rule_33 ic_m1 ?_
      exact B_ireturn dX12_rule_34 rfl rfl
    · refine B_aload_n dX12_rule_24 rfl rfl ?_
      refine B_getR dX12_rule_25 fl_X12_37 shM_0 rfl (rfM_0_18 _) ?_
      refine B_iload_n dX12_rule_28 rfl rfl ?_
      refine C_chk (fun q2 => ?_)
      refine L_iald dX12_rule_29 shM_5 q2 rfl ?_
      refine B_goto (tgt := 34) dX12_rule_30 (by decide) ?_
      exact B_ireturn dX12_rule_34 rfl rfl
def f_X12_spot_J26 (y1 : Int32) (y2 : Int32) (z1 : Bool) (h : dH) : Option (Int32 × dH) :=
  (some (dPut h 0 0 (bi z1))).bind fun h3 =>
  if 0 < (h3.1 0 0) then
  some (0, h3)
  else
  if y2 = 4 then
  if dIn ((3 * y1) + 1) 209 then
  some ((h3.1 11 (dI ((3 * y1) + 1))), h3)
  else none
  else
  if y2 = 5 then
  if dIn ((3 * y1) + 0) 209 then
  some ((h3.1 11 (dI ((3 * y1) + 0))), h3)
  else none
  else
  if y2 = 6 then
  if dIn ((3 * y1) + 2) 209 then
  some ((h3.1 11 (dI ((3 * y1) + 2))), h3)
  else none
  else
  (f_X12_of y1 y2 h3).bind fun v8 =>
  some (v8, h3)
set_option maxRecDepth 20000 in
set_option maxHeartbeats 4000000 in
theorem b_X12_spot_J26 (y1 : Int32) (y2 : Int32) (z1 : Bool) (h : dH) : B XM 1 RX12 cX12_spot 3 (some .int) fiI 26 [.ref 0, .int y1, .int y2] [.int (bi z1), .ref 0] h (f_X12_spot_J26 y1 y2 z1 h) := by
  unfold f_X12_spot_J26
  refine B_putI dX12_spot_26 fl_X12_103 fw_X12_0 shM_0 rfl ?_
  refine B_lh (fun h3 => ?_)
  refine B_aload_n dX12_spot_29 rfl rfl ?_
  refine B_getI dX12_spot_30 fl_X12_103 shM_0 rfl ?_
  refine C_if_le (tgt := 38) dX12_spot_33 (by decide) (fun q9 => ?_) (fun q9 => ?_)
  · refine B_iload_n dX12_spot_38 rfl rfl ?_
    refine C_ite (fun n4_4 => ?_) (fun n4_4 => ?_)
    · refine B_tswIn (tgt := 64) dX12_spot_39 (by rw [n4_4]; decide) (by rw [n4_4]; decide) (by rw [n4_4]; decide) (by decide) ?_
      refine B_aload_n dX12_spot_64 rfl rfl ?_
      refine B_getR dX12_spot_65 fl_X12_55 shM_0 rfl (rfM_0_28 _) ?_
      refine B_iconst dX12_spot_68 ic_3 ?_
      refine B_iload_n dX12_spot_69 rfl rfl ?_
      refine B_imul dX12_spot_70 ?_
      refine B_iconst dX12_spot_71 ic_1 ?_
      refine B_iadd dX12_spot_72 ?_
      refine C_chk (fun q5 => ?_)
      refine L_iald dX12_spot_73 shM_11 q5 rfl ?_
      exact B_ireturn dX12_spot_74 rfl rfl
    · refine C_ite (fun n4_5 => ?_) (fun n4_5 => ?_)
      · refine B_tswIn (tgt := 75) dX12_spot_39 (by rw [n4_5]; decide) (by rw [n4_5]; decide) (by rw [n4_5]; decide) (by decide) ?_
        refine B_aload_n dX12_spot_75 rfl rfl ?_
        refine B_getR dX12_spot_76 fl_X12_55 shM_0 rfl (rfM_0_28 _) ?_
        refine B_iconst dX12_spot_79 ic_3 ?_
        refine B_iload_n dX12_spot_80 rfl rfl ?_
        refine B_imul dX12_spot_81 ?_
        refine B_iconst dX12_spot_82 ic_0 ?_
        refine B_iadd dX12_spot_83 ?_
        refine C_chk (fun q6 => ?_)
        refine L_iald dX12_spot_84 shM_11 q6 rfl ?_
        exact B_ireturn dX12_spot_85 rfl rfl
      · refine C_ite (fun n4_6 => ?_) (fun n4_6 => ?_)
        · refine B_tswIn (tgt := 86) dX12_spot_39 (by rw [n4_6]; decide) (by rw [n4_6]; decide) (by rw [n4_6]; decide) (by decide) ?_
          refine B_aload_n dX12_spot_86 rfl rfl ?_
          refine B_getR dX12_spot_87 fl_X12_55 shM_0 rfl (rfM_0_28 _) ?_
          refine B_iconst dX12_spot_90 ic_3 ?_
          refine B_iload_n dX12_spot_91 rfl rfl ?_
          refine B_imul dX12_spot_92 ?_
          refine B_iconst dX12_spot_93 ic_2 ?_
          refine B_iadd dX12_spot_94 ?_
          refine C_chk (fun q7 => ?_)
          refine L_iald dX12_spot_95 shM_11 q7 rfl ?_
          exact B_ireturn dX12_spot_96 rfl rfl
        · refine B_tswOut (tgt := 97) dX12_spot_39 (dsw (fun c h1 h2 => ?_)) (by decide) ?_
          · rcases (show c = 4 ∨ c = 5 ∨ c = 6 by omega) with rfl | rfl | rfl
            · exact n4_4
            · exact n4_5
            · exact n4_6
          · refine B_aload_n dX12_spot_97 rfl rfl ?_
            refine B_iload_n dX12_spot_98 rfl rfl ?_
            refine B_iload_n dX12_spot_99 rfl rfl ?_
            refine B_Vp (st := []) dX12_spot_100 cl_X12_305 (t_X12_of y1 y2 h3) (Nat.le_of_ble_eq_true rfl) shM_0 rfl rfl (Nat.le_of_ble_eq_true rfl) (fun v8 _ => ?_)
            exact B_ireturn dX12_spot_103 rfl rfl
  · refine B_iconst dX12_spot_36 ic_0 ?_
    exact B_ireturn dX12_spot_37 rfl rfl
def f_X12_spot_J25 (y1 : Int32) (y2 : Int32) (h : dH) : Option (Int32 × dH) :=
  f_X12_spot_J26 y1 y2 true h
set_option maxRecDepth 20000 in
set_option maxHeartbeats 4000000 in
theorem b_X12_spot_J25 (y1 : Int32) (y2 : Int32) (h : dH) : B XM 1 RX12 cX12_spot 3 (some .int) fiI 25 [.ref 0, .int y1, .int y2] [.ref 0] h (f_X12_spot_J25 y1 y2 h) := by
  unfold f_X12_spot_J25
  refine B_iconst dX12_spot_25 ic_1 ?_
  exact b_X12_spot_J26 y1 y2 true h
def f_X12_spot (x1 : Int32) (x2 : Int32) (h : dH) : Option (Int32 × dH) :=
  if (f_X12_isPlace x1 h) then
  if (f_X12_isIn ((x2 : Int32).toInt64) 0 6 h) then
  f_X12_spot_J26 x1 x2 false h
  else
  f_X12_spot_J25 x1 x2 h
  else
  f_X12_spot_J25 x1 x2 h
set_option maxRecDepth 20000 in
set_option maxHeartbeats 4000000 in
theorem t_X12_spot (x1 : Int32) (x2 : Int32) (h : dH) : T XM 1 yX12_spot cX12_spot 3 (some .int) fiI [.ref 0, .int x1, .int x2] h (f_X12_spot x1 x2 h) := by
  refine T_of [.ref 0, .int x1, .int x2] (by decide) (fun _ => rfl) (fun _ => Nat.le_of_ble_eq_true rfl) ?_
  show B XM 1 RX12 cX12_spot 3 (some .int) fiI 0 [.ref 0, .int x1, .int x2] [] h (f_X12_spot x1 x2 h)
  unfold f_X12_spot
  refine B_aload_n dX12_spot_0 rfl rfl ?_
  refine B_aload_n dX12_spot_1 rfl rfl ?_
  refine B_iload_n dX12_spot_2 rfl rfl ?_
  refine B_VTb (st := [.ref 0]) dX12_spot_3 cl_X12_339 (t_X12_isPlace x1 h) (Nat.le_of_ble_eq_true rfl) shM_0 rfl rfl (Nat.le_of_ble_eq_true rfl) ?_
  refine C_ifb_eq (tgt := 25) dX12_spot_6 (by decide) (fun q2 => ?_) (fun q2 => ?_)
  · exact b_X12_spot_J25 x1 x2 h
  · refine B_iload_n dX12_spot_9 rfl rfl ?_
    refine B_i2l dX12_spot_10 ?_
    refine B_lconst (v := 0) dX12_spot_11 (by decide) ?_
    refine B_ldc2 dX12_spot_12 kc_X12_349 ?_
    refine B_STb (st := [.ref 0]) dX12_spot_15 cl_X12_224 (t_X12_isIn ((x2 : Int32).toInt64) 0 6 h) (Nat.le_of_ble_eq_true rfl) rfl rfl (Nat.le_of_ble_eq_true rfl) ?_
    refine C_ifb_eq (tgt := 25) dX12_spot_18 (by decide) (fun q1 => ?_) (fun q1 => ?_)
    · exact b_X12_spot_J25 x1 x2 h
    · refine B_iconst dX12_spot_21 ic_0 ?_
      refine B_goto (tgt := 26) dX12_spot_22 (by decide) ?_
      exact b_X12_spot_J26 x1 x2 false h
def f_X12_law_J28 (y1 : Int32) (h : dH) : Option (Bool × dH) :=
  some (true, (dPut h 0 30 y1))
set_option maxRecDepth 20000 in
set_option maxHeartbeats 4000000 in
theorem b_X12_law_J28 (y1 : Int32) (h : dH) : B XM 1 RX12 cX12_law 2 (some .boolean) fiC 28 [.ref 0, .int y1] [] h (f_X12_law_J28 y1 h) := by
  unfold f_X12_law_J28
  refine B_aload_n dX12_law_28 rfl rfl ?_
  refine B_iload_n dX12_law_29 rfl rfl ?_
  refine B_putI dX12_law_30 fl_X12_61 fw_X12_30 shM_0 rfl ?_
  refine B_iconst dX12_law_33 ic_1 ?_
  exact B_zreturn dX12_law_34 rfl rfl rfl
def f_X12_law (x1 : Int32) (h : dH) : Option (Bool × dH) :=
  (some (dPut h 0 0 0)).bind fun h1 =>
  if x1 = (-1) then
  f_X12_law_J28 x1 h1
  else
  if (f_X12_isIn ((x1 : Int32).toInt64) 0 ((((h1.1 0 7) - 1) : Int32).toInt64) h1) then
  f_X12_law_J28 x1 h1
  else
  some (false, h1)
set_option maxRecDepth 20000 in
set_option maxHeartbeats 4000000 in
theorem t_X12_law (x1 : Int32) (h : dH) : T XM 1 yX12_law cX12_law 2 (some .boolean) fiC [.ref 0, .int x1] h (f_X12_law x1 h) := by
  refine T_of [.ref 0, .int x1] (by decide) (fun _ => rfl) (fun _ => Nat.le_of_ble_eq_true rfl) ?_
  show B XM 1 RX12 cX12_law 2 (some .boolean) fiC 0 [.ref 0, .int x1] [] h (f_X12_law x1 h)
  unfold f_X12_law
  refine B_aload_n dX12_law_0 rfl rfl ?_
  refine B_iconst dX12_law_1 ic_0 ?_
  refine B_putI dX12_law_2 fl_X12_103 fw_X12_0 shM_0 rfl ?_
  refine B_lh (fun h1 => ?_)
  refine B_iload_n dX12_law_5 rfl rfl ?_
  refine B_iconst dX12_law_6 ic_m1 ?_
  refine C_icmp_eq (tgt := 28) dX12_law_7 (by decide) (fun q3 => ?_) (fun q3 => ?_)
  · exact b_X12_law_J28 x1 h1
  · refine B_iload_n dX12_law_10 rfl rfl ?_
    refine B_i2l dX12_law_11 ?_
    refine B_lconst (v := 0) dX12_law_12 (by decide) ?_
    refine B_aload_n dX12_law_13 rfl rfl ?_
    refine B_getI dX12_law_14 fl_X12_285 shM_0 rfl ?_
    refine B_iconst dX12_law_17 ic_1 ?_
    refine B_isub dX12_law_18 ?_
    refine B_i2l dX12_law_19 ?_
    refine B_STb (st := []) dX12_law_20 cl_X12_224 (t_X12_isIn ((x1 : Int32).toInt64) 0 ((((h1.1 0 7) - 1) : Int32).toInt64) h1) (Nat.le_of_ble_eq_true rfl) rfl rfl (Nat.le_of_ble_eq_true rfl) ?_
    refine C_ifb_ne (tgt := 28) dX12_law_23 (by decide) (fun q2 => ?_) (fun q2 => ?_)
    · exact b_X12_law_J28 x1 h1
    · refine B_iconst dX12_law_26 ic_0 ?_
      exact B_zreturn dX12_law_27 rfl rfl rfl
def f_X12_gout (x1 : Int32) (h : dH) : Option (Bool × dH) :=
  (some (dPut h 0 0 0)).bind fun h1 =>
  if (f_X12_isIn ((x1 : Int32).toInt64) 0 9 h1) then
  if x1 = (h1.1 0 31) then
  some (false, h1)
  else
  some (true, (dPut h1 0 31 x1))
  else
  some (false, h1)
set_option maxRecDepth 20000 in
set_option maxHeartbeats 4000000 in
theorem t_X12_gout (x1 : Int32) (h : dH) : T XM 1 yX12_gout cX12_gout 2 (some .boolean) fiC [.ref 0, .int x1] h (f_X12_gout x1 h) := by
  refine T_of [.ref 0, .int x1] (by decide) (fun _ => rfl) (fun _ => Nat.le_of_ble_eq_true rfl) ?_
  show B XM 1 RX12 cX12_gout 2 (some .boolean) fiC 0 [.ref 0, .int x1] [] h (f_X12_gout x1 h)
  unfold f_X12_gout
  refine B_aload_n dX12_gout_0 rfl rfl ?_
  refine B_iconst dX12_gout_1 ic_0 ?_
  refine B_putI dX12_gout_2 fl_X12_103 fw_X12_0 shM_0 rfl ?_
  refine B_lh (fun h1 => ?_)
  refine B_iload_n dX12_gout_5 rfl rfl ?_
  refine B_i2l dX12_gout_6 ?_
  refine B_lconst (v := 0) dX12_gout_7 (by decide) ?_
  refine B_ldc2 dX12_gout_8 kc_X12_351 ?_
  refine B_STb (st := []) dX12_gout_11 cl_X12_224 (t_X12_isIn ((x1 : Int32).toInt64) 0 9 h1) (Nat.le_of_ble_eq_true rfl) rfl rfl (Nat.le_of_ble_eq_true rfl) ?_
  refine C_ifb_eq (tgt := 25) dX12_gout_14 (by decide) (fun q3 => ?_) (fun q3 => ?_)
  · refine B_iconst dX12_gout_25 ic_0 ?_
    exact B_zreturn dX12_gout_26 rfl rfl rfl
  · refine B_iload_n dX12_gout_17 rfl rfl ?_
    refine B_aload_n dX12_gout_18 rfl rfl ?_
    refine B_getI dX12_gout_19 fl_X12_65 shM_0 rfl ?_
    refine C_icmp_ne (tgt := 27) dX12_gout_22 (by decide) (fun q2 => ?_) (fun q2 => ?_)
    · refine B_aload_n dX12_gout_27 rfl rfl ?_
      refine B_iload_n dX12_gout_28 rfl rfl ?_
      refine B_putI dX12_gout_29 fl_X12_65 fw_X12_31 shM_0 rfl ?_
      refine B_iconst dX12_gout_32 ic_1 ?_
      exact B_zreturn dX12_gout_33 rfl rfl rfl
    · refine B_iconst dX12_gout_25 ic_0 ?_
      exact B_zreturn dX12_gout_26 rfl rfl rfl
def f_X12_steps_J28 (y1 : Int32) (y2 : Int32) (h : dH) : Option (Int32 × dH) :=
  if y1 = (-1) then
  (f_X12_far 11 y2 h).bind fun v6 =>
  some (v6, h)
  else
  (f_X12_between y1 y2 h).bind fun v5 =>
  some (v5, h)
set_option maxRecDepth 20000 in
set_option maxHeartbeats 4000000 in
theorem b_X12_steps_J28 (y1 : Int32) (y2 : Int32) (h : dH) : B XM 3 RX12 cX12_steps 3 (some .int) fiI 28 [.ref 0, .int y1, .int y2] [] h (f_X12_steps_J28 y1 y2 h) := by
  unfold f_X12_steps_J28
  refine B_iload_n dX12_steps_28 rfl rfl ?_
  refine B_iconst dX12_steps_29 ic_m1 ?_
  refine C_icmp_ne (tgt := 45) dX12_steps_30 (by decide) (fun q7 => ?_) (fun q7 => ?_)
  · refine B_aload_n dX12_steps_45 rfl rfl ?_
    refine B_iload_n dX12_steps_46 rfl rfl ?_
    refine B_iload_n dX12_steps_47 rfl rfl ?_
    refine B_Vp (st := []) dX12_steps_48 cl_X12_315 (t_X12_between y1 y2 h) (Nat.le_of_ble_eq_true rfl) shM_0 rfl rfl (Nat.le_of_ble_eq_true rfl) (fun v5 _ => ?_)
    exact B_ireturn dX12_steps_51 rfl rfl
  · refine B_aload_n dX12_steps_33 rfl rfl ?_
    refine B_aload_n dX12_steps_34 rfl rfl ?_
    refine B_getR dX12_steps_35 fl_X12_55 shM_0 rfl (rfM_0_28 _) ?_
    refine B_iload_n dX12_steps_38 rfl rfl ?_
    refine B_Vp (st := []) dX12_steps_39 cl_X12_328 (t_X12_far 11 shM_11 y2 h) (Nat.le_of_ble_eq_true rfl) shM_0 rfl rfl (Nat.le_of_ble_eq_true rfl) (fun v6 _ => ?_)
    refine B_goto (tgt := 51) dX12_steps_42 (by decide) ?_
    exact B_ireturn dX12_steps_51 rfl rfl
def f_X12_steps (x1 : Int32) (x2 : Int32) (h : dH) : Option (Int32 × dH) :=
  (some (dPut h 0 0 0)).bind fun h1 =>
  if (f_X12_isPlace x2 h1) then
  if x1 = (-1) then
  f_X12_steps_J28 x1 x2 h1
  else
  if (f_X12_isPlace x1 h1) then
  f_X12_steps_J28 x1 x2 h1
  else
  some ((-1), h1)
  else
  some ((-1), h1)
set_option maxRecDepth 20000 in
set_option maxHeartbeats 4000000 in
theorem t_X12_steps (x1 : Int32) (x2 : Int32) (h : dH) : T XM 3 yX12_steps cX12_steps 3 (some .int) fiI [.ref 0, .int x1, .int x2] h (f_X12_steps x1 x2 h) := by
  refine T_of [.ref 0, .int x1, .int x2] (by decide) (fun _ => rfl) (fun _ => Nat.le_of_ble_eq_true rfl) ?_
  show B XM 3 RX12 cX12_steps 3 (some .int) fiI 0 [.ref 0, .int x1, .int x2] [] h (f_X12_steps x1 x2 h)
  unfold f_X12_steps
  refine B_aload_n dX12_steps_0 rfl rfl ?_
  refine B_iconst dX12_steps_1 ic_0 ?_
  refine B_putI dX12_steps_2 fl_X12_103 fw_X12_0 shM_0 rfl ?_
  refine B_lh (fun h1 => ?_)
  refine B_aload_n dX12_steps_5 rfl rfl ?_
  refine B_iload_n dX12_steps_6 rfl rfl ?_
  refine B_VTb (st := []) dX12_steps_7 cl_X12_339 (t_X12_isPlace x2 h1) (Nat.le_of_ble_eq_true rfl) shM_0 rfl rfl (Nat.le_of_ble_eq_true rfl) ?_
  refine C_ifb_eq (tgt := 26) dX12_steps_10 (by decide) (fun q4 => ?_) (fun q4 => ?_)
  · refine B_iconst dX12_steps_26 ic_m1 ?_
    exact B_ireturn dX12_steps_27 rfl rfl
  · refine B_iload_n dX12_steps_13 rfl rfl ?_
    refine B_iconst dX12_steps_14 ic_m1 ?_
    refine C_icmp_eq (tgt := 28) dX12_steps_15 (by decide) (fun q3 => ?_) (fun q3 => ?_)
    · exact b_X12_steps_J28 x1 x2 h1
    · refine B_aload_n dX12_steps_18 rfl rfl ?_
      refine B_iload_n dX12_steps_19 rfl rfl ?_
      refine B_VTb (st := []) dX12_steps_20 cl_X12_339 (t_X12_isPlace x1 h1) (Nat.le_of_ble_eq_true rfl) shM_0 rfl rfl (Nat.le_of_ble_eq_true rfl) ?_
      refine C_ifb_ne (tgt := 28) dX12_steps_23 (by decide) (fun q2 => ?_) (fun q2 => ?_)
      · exact b_X12_steps_J28 x1 x2 h1
      · refine B_iconst dX12_steps_26 ic_m1 ?_
        exact B_ireturn dX12_steps_27 rfl rfl
def f_X12_remember_L52 : Nat → Int32 → dH → Option (dH)
  | 0, _, _ => none
  | n + 1, y1, h =>
    if y1 < 209 then
    if dIn y1 209 then
    if dIn ((209 * (h.1 0 35)) + y1) 8360 then
    (some (dPut h 15 (dI ((209 * (h.1 0 35)) + y1)) (h.1 11 (dI y1)))).bind fun h9 =>
    (f_X12_remember_L52 n) (y1 + 1) h9
    else none
    else none
    else
    some (dPut h 0 35 ((h.1 0 35) + 1))
set_option maxRecDepth 20000 in
set_option maxHeartbeats 4000000 in
theorem b_X12_remember_L52 : ∀ (n : Nat) (y1 : Int32) (h : dH), B XM 0 RX12 cX12_remember 2 none fiV 52 [.ref 0, .int y1] [] h (f_X12_remember_L52 n y1 h) := by
  intro n
  induction n with
  | zero =>
    intro y1 h
    exact B_none
  | succ n ih =>
    intro y1 h
    rw [f_X12_remember_L52]
    refine B_iload_n dX12_remember_52 rfl rfl ?_
    refine B_sipush dX12_remember_53 sp_209 ?_
    refine C_icmp_ge (tgt := 86) dX12_remember_56 (by decide) (fun q10 => ?_) (fun q10 => ?_)
    · refine B_aload_n dX12_remember_86 rfl rfl ?_
      refine B_dup dX12_remember_87 rfl ?_
      refine B_getI dX12_remember_88 fl_X12_299 shM_0 rfl ?_
      refine B_iconst dX12_remember_91 ic_1 ?_
      refine B_iadd dX12_remember_92 ?_
      refine B_putI dX12_remember_93 fl_X12_299 fw_X12_35 shM_0 rfl ?_
      exact B_return dX12_remember_96 rfl rfl
    · refine B_aload_n dX12_remember_59 rfl rfl ?_
      refine B_getR dX12_remember_60 fl_X12_75 shM_0 rfl (rfM_0_34 _) ?_
      refine B_sipush dX12_remember_63 sp_209 ?_
      refine B_aload_n dX12_remember_66 rfl rfl ?_
      refine B_getI dX12_remember_67 fl_X12_299 shM_0 rfl ?_
      refine B_imul dX12_remember_70 ?_
      refine B_iload_n dX12_remember_71 rfl rfl ?_
      refine B_iadd dX12_remember_72 ?_
      refine B_aload_n dX12_remember_73 rfl rfl ?_
      refine B_getR dX12_remember_74 fl_X12_55 shM_0 rfl (rfM_0_28 _) ?_
      refine B_iload_n dX12_remember_77 rfl rfl ?_
      refine C_chk (fun q7 => ?_)
      refine L_iald dX12_remember_78 shM_11 q7 rfl ?_
      refine C_chk (fun q8 => ?_)
      refine L_iast dX12_remember_79 shM_15 q8 rfl ?_
      refine B_lh (fun h9 => ?_)
      refine B_iinc (w := (y1 + 1)) (ls' := [.ref 0, .int (y1 + 1)]) dX12_remember_80 rfl (congrArg (fun z => y1 + z) ic_1) (Nat.le_of_ble_eq_true rfl) rfl rfl ?_
      refine B_goto (tgt := 52) dX12_remember_83 (by decide) ?_
      exact ih (y1 + 1)  h9
def f_X12_remember_J50 (h : dH) : Option (dH) :=
  f_X12_remember_L52 dFu 0 h
set_option maxRecDepth 20000 in
set_option maxHeartbeats 4000000 in
theorem b_X12_remember_J50 (h : dH) : B XM 0 RX12 cX12_remember 2 none fiV 50 [.ref 0, .null] [] h (f_X12_remember_J50 h) := by
  unfold f_X12_remember_J50
  refine B_iconst dX12_remember_50 ic_0 ?_
  refine B_istore_n (ls' := [.ref 0, .int 0]) dX12_remember_51 rfl (Nat.le_of_ble_eq_true rfl) rfl rfl ?_
  exact b_X12_remember_L52 dFu 0 h
def f_X12_remember_L11 : Nat → Int32 → dH → Option (dH)
  | 0, _, _ => none
  | n + 1, y1, h =>
    if y1 < 8151 then
    if dIn (y1 + 209) 8360 then
    if dIn y1 8360 then
    (some (dPut h 15 (dI y1) (h.1 15 (dI (y1 + 209))))).bind fun h5 =>
    (f_X12_remember_L11 n) (y1 + 1) h5
    else none
    else none
    else
    (some (dPut h 0 35 ((h.1 0 35) - 1))).bind fun h2 =>
    f_X12_remember_J50 h2
set_option maxRecDepth 20000 in
set_option maxHeartbeats 4000000 in
theorem b_X12_remember_L11 : ∀ (n : Nat) (y1 : Int32) (h : dH), B XM 0 RX12 cX12_remember 2 none fiV 11 [.ref 0, .int y1] [] h (f_X12_remember_L11 n y1 h) := by
  intro n
  induction n with
  | zero =>
    intro y1 h
    exact B_none
  | succ n ih =>
    intro y1 h
    rw [f_X12_remember_L11]
    refine B_iload_n dX12_remember_11 rfl rfl ?_
    refine B_sipush dX12_remember_12 sp_8151 ?_
    refine C_icmp_ge (tgt := 40) dX12_remember_15 (by decide) (fun q6 => ?_) (fun q6 => ?_)
    · refine B_aload_n dX12_remember_40 rfl rfl ?_
      refine B_dup dX12_remember_41 rfl ?_
      refine B_getI dX12_remember_42 fl_X12_299 shM_0 rfl ?_
      refine B_iconst dX12_remember_45 ic_1 ?_
      refine B_isub dX12_remember_46 ?_
      refine B_putI dX12_remember_47 fl_X12_299 fw_X12_35 shM_0 rfl ?_
      refine B_lh (fun h2 => ?_)
      refine B_drop 1 (ls' := [.ref 0, .null]) rfl ?_
      exact b_X12_remember_J50 h2
    · refine B_aload_n dX12_remember_18 rfl rfl ?_
      refine B_getR dX12_remember_19 fl_X12_75 shM_0 rfl (rfM_0_34 _) ?_
      refine B_iload_n dX12_remember_22 rfl rfl ?_
      refine B_aload_n dX12_remember_23 rfl rfl ?_
      refine B_getR dX12_remember_24 fl_X12_75 shM_0 rfl (rfM_0_34 _) ?_
      refine B_iload_n dX12_remember_27 rfl rfl ?_
      refine B_sipush dX12_remember_28 sp_209 ?_
      refine B_iadd dX12_remember_31 ?_
      refine C_chk (fun q3 => ?_)
      refine L_iald dX12_remember_32 shM_15 q3 rfl ?_
      refine C_chk (fun q4 => ?_)
      refine L_iast dX12_remember_33 shM_15 q4 rfl ?_
      refine B_lh (fun h5 => ?_)
      refine B_iinc (w := (y1 + 1)) (ls' := [.ref 0, .int (y1 + 1)]) dX12_remember_34 rfl (congrArg (fun z => y1 + z) ic_1) (Nat.le_of_ble_eq_true rfl) rfl rfl ?_
      refine B_goto (tgt := 11) dX12_remember_37 (by decide) ?_
      exact ih (y1 + 1)  h5
def f_X12_remember (h : dH) : Option (dH) :=
  if (h.1 0 35) = 40 then
  f_X12_remember_L11 dFu 0 h
  else
  f_X12_remember_J50 h
set_option maxRecDepth 20000 in
set_option maxHeartbeats 4000000 in
theorem t_X12_remember (h : dH) : T XM 0 yX12_remember cX12_remember 2 none fiV [.ref 0] h (f_X12_remember h) := by
  refine T_of [.ref 0, .null] (by decide) (fun _ => rfl) (fun _ => Nat.le_of_ble_eq_true rfl) ?_
  show B XM 0 RX12 cX12_remember 2 none fiV 0 [.ref 0, .null] [] h (f_X12_remember h)
  unfold f_X12_remember
  refine B_aload_n dX12_remember_0 rfl rfl ?_
  refine B_getI dX12_remember_1 fl_X12_299 shM_0 rfl ?_
  refine B_bipush dX12_remember_4 bp_40 ?_
  refine C_icmp_ne (tgt := 50) dX12_remember_6 (by decide) (fun q1 => ?_) (fun q1 => ?_)
  · exact b_X12_remember_J50 h
  · refine B_iconst dX12_remember_9 ic_0 ?_
    refine B_istore_n (ls' := [.ref 0, .int 0]) dX12_remember_10 rfl (Nat.le_of_ble_eq_true rfl) rfl rfl ?_
    exact b_X12_remember_L11 dFu 0 h
def f_X12_ledge (h : dH) : Option (Int32 × dH) :=
  (some (dPut h 0 0 0)).bind fun h1 =>
  if (h1.1 0 24) = 0 then
  some ((-1), h1)
  else
  if (f_X12_canRest 11 h1) then
  (f_X12_remember h1).bind fun h3 =>
  (f_X12_sitsDown 11 h3).bind fun h5 =>
  some ((h5.1 11 22), h5)
  else
  some ((-1), h1)
set_option maxRecDepth 20000 in
set_option maxHeartbeats 4000000 in
theorem t_X12_ledge (h : dH) : T XM 2 yX12_ledge cX12_ledge 1 (some .int) fiI [.ref 0] h (f_X12_ledge h) := by
  refine T_of [.ref 0] (by decide) (fun _ => rfl) (fun _ => Nat.le_of_ble_eq_true rfl) ?_
  show B XM 2 RX12 cX12_ledge 1 (some .int) fiI 0 [.ref 0] [] h (f_X12_ledge h)
  unfold f_X12_ledge
  refine B_aload_n dX12_ledge_0 rfl rfl ?_
  refine B_iconst dX12_ledge_1 ic_0 ?_
  refine B_putI dX12_ledge_2 fl_X12_103 fw_X12_0 shM_0 rfl ?_
  refine B_lh (fun h1 => ?_)
  refine B_aload_n dX12_ledge_5 rfl rfl ?_
  refine B_getI dX12_ledge_6 fl_X12_293 shM_0 rfl ?_
  refine C_if_eq (tgt := 23) dX12_ledge_9 (by decide) (fun q7 => ?_) (fun q7 => ?_)
  · refine B_iconst dX12_ledge_23 ic_m1 ?_
    exact B_ireturn dX12_ledge_24 rfl rfl
  · refine B_aload_n dX12_ledge_12 rfl rfl ?_
    refine B_aload_n dX12_ledge_13 rfl rfl ?_
    refine B_getR dX12_ledge_14 fl_X12_55 shM_0 rfl (rfM_0_28 _) ?_
    refine B_VTb (st := []) dX12_ledge_17 cl_X12_364 (t_X12_canRest 11 shM_11 h1) (Nat.le_of_ble_eq_true rfl) shM_0 rfl rfl (Nat.le_of_ble_eq_true rfl) ?_
    refine C_ifb_ne (tgt := 25) dX12_ledge_20 (by decide) (fun q6 => ?_) (fun q6 => ?_)
    · refine B_aload_n dX12_ledge_25 rfl rfl ?_
      refine B_VV (st := []) dX12_ledge_26 cl_X12_357 (t_X12_remember h1) (Nat.le_of_ble_eq_true rfl) shM_0 rfl rfl (Nat.le_of_ble_eq_true rfl) (fun h3 _ => ?_)
      refine B_aload_n dX12_ledge_29 rfl rfl ?_
      refine B_getR dX12_ledge_30 fl_X12_55 shM_0 rfl (rfM_0_28 _) ?_
      refine B_SV (st := []) dX12_ledge_33 cl_X12_368 (t_X12_sitsDown 11 shM_11 h3) (Nat.le_of_ble_eq_true rfl) rfl rfl (Nat.le_of_ble_eq_true rfl) (fun h5 _ => ?_)
      refine B_aload_n dX12_ledge_36 rfl rfl ?_
      refine B_getR dX12_ledge_37 fl_X12_55 shM_0 rfl (rfM_0_28 _) ?_
      refine B_bipush dX12_ledge_40 bp_22 ?_
      refine L_iald dX12_ledge_42 shM_11 (by decide) di_22 ?_
      exact B_ireturn dX12_ledge_43 rfl rfl
    · refine B_iconst dX12_ledge_23 ic_m1 ?_
      exact B_ireturn dX12_ledge_24 rfl rfl
def f_X12_canRestore (w : Nat) (x2 : Int32) (h : dH) : Bool :=
  if (f_X12_isPlace x2 h) then
  if (f_X12_has (h.1 w 26) x2 h) then
  true
  else
  false
  else
  false
set_option maxRecDepth 20000 in
set_option maxHeartbeats 4000000 in
theorem t_X12_canRestore (w : Nat) (hw : XM.1[w]? = some (.inr (0, 209))) (x2 : Int32) (h : dH) : T XM 1 yX12_canRestore cX12_canRestore 3 (some .boolean) (fiB h) [.ref 0, .ref w, .int x2] h (some (f_X12_canRestore w x2 h)) := by
  refine T_of [.ref 0, .ref w, .int x2] (by decide) (fun _ => rfl) (fun _ => Nat.le_of_ble_eq_true rfl) ?_
  show B XM 1 RX12 cX12_canRestore 3 (some .boolean) (fiB h) 0 [.ref 0, .ref w, .int x2] [] h (some (f_X12_canRestore w x2 h))
  unfold f_X12_canRestore
  refine B_aload_n dX12_canRestore_0 rfl rfl ?_
  refine B_iload_n dX12_canRestore_1 rfl rfl ?_
  refine B_VTb (st := []) dX12_canRestore_2 cl_X12_339 (t_X12_isPlace x2 h) (Nat.le_of_ble_eq_true rfl) shM_0 rfl rfl (Nat.le_of_ble_eq_true rfl) ?_
  refine C_some ?_
  refine C_ifb_eq (tgt := 23) dX12_canRestore_5 (by decide) (fun q2 => ?_) (fun q2 => ?_)
  · refine B_iconst dX12_canRestore_23 ic_0 ?_
    exact B_zreturn dX12_canRestore_24 rfl rfl rfl
  · refine B_aload_n dX12_canRestore_8 rfl rfl ?_
    refine B_bipush dX12_canRestore_9 bp_26 ?_
    refine L_iald dX12_canRestore_11 hw (by decide) di_26 ?_
    refine B_iload_n dX12_canRestore_12 rfl rfl ?_
    refine B_STb (st := []) dX12_canRestore_13 cl_X12_236 (t_X12_has (h.1 w 26) x2 h) (Nat.le_of_ble_eq_true rfl) rfl rfl (Nat.le_of_ble_eq_true rfl) ?_
    refine C_some ?_
    refine C_ifb_eq (tgt := 23) dX12_canRestore_16 (by decide) (fun q1 => ?_) (fun q1 => ?_)
    · refine B_iconst dX12_canRestore_23 ic_0 ?_
      exact B_zreturn dX12_canRestore_24 rfl rfl rfl
    · refine B_iconst dX12_canRestore_19 ic_1 ?_
      refine B_goto (tgt := 24) dX12_canRestore_20 (by decide) ?_
      exact B_zreturn dX12_canRestore_24 rfl rfl rfl
def f_X12_restores (w : Nat) (x1 : Int32) (h : dH) : Option (dH) :=
  if dIn ((3 * x1) + 0) 209 then
  if dIn ((3 * x1) + 0) 209 then
  (some (dPut h w (dI ((3 * x1) + 0)) ((h.1 w (dI ((3 * x1) + 0))) / 2))).bind fun h3 =>
  some (dPut h3 w 26 ((h3.1 w 26) &&& ((1 <<< (x1 &&& 31)) ^^^ (-1))))
  else none
  else none
set_option maxRecDepth 20000 in
set_option maxHeartbeats 4000000 in
theorem t_X12_restores (w : Nat) (hw : XM.1[w]? = some (.inr (0, 209))) (x1 : Int32) (h : dH) : T XM 0 yX12_restores cX12_restores 2 none fiV [.ref w, .int x1] h (f_X12_restores w x1 h) := by
  refine T_of [.ref w, .int x1] (by decide) (fun _ => rfl) (fun _ => Nat.le_of_ble_eq_true rfl) ?_
  show B XM 0 RX12 cX12_restores 2 none fiV 0 [.ref w, .int x1] [] h (f_X12_restores w x1 h)
  unfold f_X12_restores
  refine B_aload_n dX12_restores_0 rfl rfl ?_
  refine B_iconst dX12_restores_1 ic_3 ?_
  refine B_iload_n dX12_restores_2 rfl rfl ?_
  refine B_imul dX12_restores_3 ?_
  refine B_iconst dX12_restores_4 ic_0 ?_
  refine B_iadd dX12_restores_5 ?_
  refine B_dup2 dX12_restores_6 rfl rfl ?_
  refine C_chk (fun q1 => ?_)
  refine L_iald dX12_restores_7 hw q1 rfl ?_
  refine B_iconst dX12_restores_8 ic_2 ?_
  refine B_idiv dX12_restores_9 (by decide) ?_
  refine C_chk (fun q2 => ?_)
  refine L_iast dX12_restores_10 hw q2 rfl ?_
  refine B_lh (fun h3 => ?_)
  refine B_aload_n dX12_restores_11 rfl rfl ?_
  refine B_bipush dX12_restores_12 bp_26 ?_
  refine B_dup2 dX12_restores_14 rfl rfl ?_
  refine L_iald dX12_restores_15 hw (by decide) di_26 ?_
  refine B_iconst dX12_restores_16 ic_1 ?_
  refine B_iload_n dX12_restores_17 rfl rfl ?_
  refine B_ishl dX12_restores_18 ?_
  refine B_iconst dX12_restores_19 ic_m1 ?_
  refine B_ixor dX12_restores_20 ?_
  refine B_iand dX12_restores_21 ?_
  refine L_iast dX12_restores_22 hw (by decide) di_26 ?_
  exact B_return dX12_restores_23 rfl rfl
def f_X12_restore (x1 : Int32) (h : dH) : Option (Int32 × dH) :=
  (some (dPut h 0 0 0)).bind fun h1 =>
  if (f_X12_canRestore 11 x1 h1) then
  (f_X12_remember h1).bind fun h3 =>
  (f_X12_restores 11 x1 h3).bind fun h5 =>
  if dIn ((3 * x1) + 0) 209 then
  some ((h5.1 11 (dI ((3 * x1) + 0))), h5)
  else none
  else
  some ((-1), h1)
set_option maxRecDepth 20000 in
set_option maxHeartbeats 4000000 in
theorem t_X12_restore (x1 : Int32) (h : dH) : T XM 2 yX12_restore cX12_restore 2 (some .int) fiI [.ref 0, .int x1] h (f_X12_restore x1 h) := by
  refine T_of [.ref 0, .int x1] (by decide) (fun _ => rfl) (fun _ => Nat.le_of_ble_eq_true rfl) ?_
  show B XM 2 RX12 cX12_restore 2 (some .int) fiI 0 [.ref 0, .int x1] [] h (f_X12_restore x1 h)
  unfold f_X12_restore
  refine B_aload_n dX12_restore_0 rfl rfl ?_
  refine B_iconst dX12_restore_1 ic_0 ?_
  refine B_putI dX12_restore_2 fl_X12_103 fw_X12_0 shM_0 rfl ?_
  refine B_lh (fun h1 => ?_)
  refine B_aload_n dX12_restore_5 rfl rfl ?_
  refine B_aload_n dX12_restore_6 rfl rfl ?_
  refine B_getR dX12_restore_7 fl_X12_55 shM_0 rfl (rfM_0_28 _) ?_
  refine B_iload_n dX12_restore_10 rfl rfl ?_
  refine B_VTb (st := []) dX12_restore_11 cl_X12_372 (t_X12_canRestore 11 shM_11 x1 h1) (Nat.le_of_ble_eq_true rfl) shM_0 rfl rfl (Nat.le_of_ble_eq_true rfl) ?_
  refine C_ifb_ne (tgt := 19) dX12_restore_14 (by decide) (fun q7 => ?_) (fun q7 => ?_)
  · refine B_aload_n dX12_restore_19 rfl rfl ?_
    refine B_VV (st := []) dX12_restore_20 cl_X12_357 (t_X12_remember h1) (Nat.le_of_ble_eq_true rfl) shM_0 rfl rfl (Nat.le_of_ble_eq_true rfl) (fun h3 _ => ?_)
    refine B_aload_n dX12_restore_23 rfl rfl ?_
    refine B_getR dX12_restore_24 fl_X12_55 shM_0 rfl (rfM_0_28 _) ?_
    refine B_iload_n dX12_restore_27 rfl rfl ?_
    refine B_SV (st := []) dX12_restore_28 cl_X12_375 (t_X12_restores 11 shM_11 x1 h3) (Nat.le_of_ble_eq_true rfl) rfl rfl (Nat.le_of_ble_eq_true rfl) (fun h5 _ => ?_)
    refine B_aload_n dX12_restore_31 rfl rfl ?_
    refine B_getR dX12_restore_32 fl_X12_55 shM_0 rfl (rfM_0_28 _) ?_
    refine B_iconst dX12_restore_35 ic_3 ?_
    refine B_iload_n dX12_restore_36 rfl rfl ?_
    refine B_imul dX12_restore_37 ?_
    refine B_iconst dX12_restore_38 ic_0 ?_
    refine B_iadd dX12_restore_39 ?_
    refine C_chk (fun q6 => ?_)
    refine L_iald dX12_restore_40 shM_11 q6 rfl ?_
    exact B_ireturn dX12_restore_41 rfl rfl
  · refine B_iconst dX12_restore_17 ic_m1 ?_
    exact B_ireturn dX12_restore_18 rfl rfl
def f_X12_patience (x1 : Int32) (x2 : Int32) (h : dH) : Option (Int32 × dH) :=
  (some (dPut h 0 0 0)).bind fun h1 =>
  if (f_X12_isPlace x1 h1) then
  if (f_X12_isIn ((x2 : Int32).toInt64) 0 30 h1) then
  if dIn ((3 * x1) + 1) 209 then
  if (h1.1 11 (dI ((3 * x1) + 1))) = x2 then
  some ((-1), h1)
  else
  (f_X12_remember h1).bind fun h4 =>
  if dIn ((3 * x1) + 1) 209 then
  (some ((h4.1 11 (dI ((3 * x1) + 1))))).bind fun v6 =>
  if dIn ((3 * x1) + 1) 209 then
  some (v6, (dPut h4 11 (dI ((3 * x1) + 1)) x2))
  else none
  else none
  else none
  else
  some ((-1), h1)
  else
  some ((-1), h1)
set_option maxRecDepth 20000 in
set_option maxHeartbeats 4000000 in
theorem t_X12_patience (x1 : Int32) (x2 : Int32) (h : dH) : T XM 1 yX12_patience cX12_patience 4 (some .int) fiI [.ref 0, .int x1, .int x2] h (f_X12_patience x1 x2 h) := by
  refine T_of [.ref 0, .int x1, .int x2, .null] (by decide) (fun _ => rfl) (fun _ => Nat.le_of_ble_eq_true rfl) ?_
  show B XM 1 RX12 cX12_patience 4 (some .int) fiI 0 [.ref 0, .int x1, .int x2, .null] [] h (f_X12_patience x1 x2 h)
  unfold f_X12_patience
  refine B_aload_n dX12_patience_0 rfl rfl ?_
  refine B_iconst dX12_patience_1 ic_0 ?_
  refine B_putI dX12_patience_2 fl_X12_103 fw_X12_0 shM_0 rfl ?_
  refine B_lh (fun h1 => ?_)
  refine B_aload_n dX12_patience_5 rfl rfl ?_
  refine B_iload_n dX12_patience_6 rfl rfl ?_
  refine B_VTb (st := []) dX12_patience_7 cl_X12_339 (t_X12_isPlace x1 h1) (Nat.le_of_ble_eq_true rfl) shM_0 rfl rfl (Nat.le_of_ble_eq_true rfl) ?_
  refine C_ifb_eq (tgt := 39) dX12_patience_10 (by decide) (fun q10 => ?_) (fun q10 => ?_)
  · refine B_iconst dX12_patience_39 ic_m1 ?_
    exact B_ireturn dX12_patience_40 rfl rfl
  · refine B_iload_n dX12_patience_13 rfl rfl ?_
    refine B_i2l dX12_patience_14 ?_
    refine B_lconst (v := 0) dX12_patience_15 (by decide) ?_
    refine B_ldc2 dX12_patience_16 kc_X12_379 ?_
    refine B_STb (st := []) dX12_patience_19 cl_X12_224 (t_X12_isIn ((x2 : Int32).toInt64) 0 30 h1) (Nat.le_of_ble_eq_true rfl) rfl rfl (Nat.le_of_ble_eq_true rfl) ?_
    refine C_ifb_eq (tgt := 39) dX12_patience_22 (by decide) (fun q9 => ?_) (fun q9 => ?_)
    · refine B_iconst dX12_patience_39 ic_m1 ?_
      exact B_ireturn dX12_patience_40 rfl rfl
    · refine B_aload_n dX12_patience_25 rfl rfl ?_
      refine B_getR dX12_patience_26 fl_X12_55 shM_0 rfl (rfM_0_28 _) ?_
      refine B_iconst dX12_patience_29 ic_3 ?_
      refine B_iload_n dX12_patience_30 rfl rfl ?_
      refine B_imul dX12_patience_31 ?_
      refine B_iconst dX12_patience_32 ic_1 ?_
      refine B_iadd dX12_patience_33 ?_
      refine C_chk (fun q2 => ?_)
      refine L_iald dX12_patience_34 shM_11 q2 rfl ?_
      refine B_iload_n dX12_patience_35 rfl rfl ?_
      refine C_icmp_ne (tgt := 41) dX12_patience_36 (by decide) (fun q8 => ?_) (fun q8 => ?_)
      · refine B_aload_n dX12_patience_41 rfl rfl ?_
        refine B_VV (st := []) dX12_patience_42 cl_X12_357 (t_X12_remember h1) (Nat.le_of_ble_eq_true rfl) shM_0 rfl rfl (Nat.le_of_ble_eq_true rfl) (fun h4 _ => ?_)
        refine B_aload_n dX12_patience_45 rfl rfl ?_
        refine B_getR dX12_patience_46 fl_X12_55 shM_0 rfl (rfM_0_28 _) ?_
        refine B_iconst dX12_patience_49 ic_3 ?_
        refine B_iload_n dX12_patience_50 rfl rfl ?_
        refine B_imul dX12_patience_51 ?_
        refine B_iconst dX12_patience_52 ic_1 ?_
        refine B_iadd dX12_patience_53 ?_
        refine C_chk (fun q5 => ?_)
        refine L_iald dX12_patience_54 shM_11 q5 rfl ?_
        refine B_lv (fun v6 => ?_)
        refine B_istore_n (ls' := [.ref 0, .int x1, .int x2, .int v6]) dX12_patience_55 rfl (Nat.le_of_ble_eq_true rfl) rfl rfl ?_
        refine B_aload_n dX12_patience_56 rfl rfl ?_
        refine B_getR dX12_patience_57 fl_X12_55 shM_0 rfl (rfM_0_28 _) ?_
        refine B_iconst dX12_patience_60 ic_3 ?_
        refine B_iload_n dX12_patience_61 rfl rfl ?_
        refine B_imul dX12_patience_62 ?_
        refine B_iconst dX12_patience_63 ic_1 ?_
        refine B_iadd dX12_patience_64 ?_
        refine B_iload_n dX12_patience_65 rfl rfl ?_
        refine C_chk (fun q7 => ?_)
        refine L_iast dX12_patience_66 shM_11 q7 rfl ?_
        refine B_iload_n dX12_patience_67 rfl rfl ?_
        exact B_ireturn dX12_patience_68 rfl rfl
      · refine B_iconst dX12_patience_39 ic_m1 ?_
        exact B_ireturn dX12_patience_40 rfl rfl
def f_X12_day (h : dH) : Option (Int32 × dH) :=
  (some (dPut h 0 0 0)).bind fun h1 =>
  if (h1.1 0 24) = 0 then
  some ((-1), h1)
  else
  if (h1.1 11 27) = 999 then
  some ((-1), h1)
  else
  (f_X12_remember h1).bind fun h3 =>
  (f_X12_goDay 11 h3).bind fun h5 =>
  some ((h5.1 11 27), h5)
set_option maxRecDepth 20000 in
set_option maxHeartbeats 4000000 in
theorem t_X12_day (h : dH) : T XM 2 yX12_day cX12_day 1 (some .int) fiI [.ref 0] h (f_X12_day h) := by
  refine T_of [.ref 0] (by decide) (fun _ => rfl) (fun _ => Nat.le_of_ble_eq_true rfl) ?_
  show B XM 2 RX12 cX12_day 1 (some .int) fiI 0 [.ref 0] [] h (f_X12_day h)
  unfold f_X12_day
  refine B_aload_n dX12_day_0 rfl rfl ?_
  refine B_iconst dX12_day_1 ic_0 ?_
  refine B_putI dX12_day_2 fl_X12_103 fw_X12_0 shM_0 rfl ?_
  refine B_lh (fun h1 => ?_)
  refine B_aload_n dX12_day_5 rfl rfl ?_
  refine B_getI dX12_day_6 fl_X12_293 shM_0 rfl ?_
  refine C_if_eq (tgt := 25) dX12_day_9 (by decide) (fun q7 => ?_) (fun q7 => ?_)
  · refine B_iconst dX12_day_25 ic_m1 ?_
    exact B_ireturn dX12_day_26 rfl rfl
  · refine B_aload_n dX12_day_12 rfl rfl ?_
    refine B_getR dX12_day_13 fl_X12_55 shM_0 rfl (rfM_0_28 _) ?_
    refine B_bipush dX12_day_16 bp_27 ?_
    refine L_iald dX12_day_18 shM_11 (by decide) di_27 ?_
    refine B_sipush dX12_day_19 sp_999 ?_
    refine C_icmp_ne (tgt := 27) dX12_day_22 (by decide) (fun q6 => ?_) (fun q6 => ?_)
    · refine B_aload_n dX12_day_27 rfl rfl ?_
      refine B_VV (st := []) dX12_day_28 cl_X12_357 (t_X12_remember h1) (Nat.le_of_ble_eq_true rfl) shM_0 rfl rfl (Nat.le_of_ble_eq_true rfl) (fun h3 _ => ?_)
      refine B_aload_n dX12_day_31 rfl rfl ?_
      refine B_aload_n dX12_day_32 rfl rfl ?_
      refine B_getR dX12_day_33 fl_X12_55 shM_0 rfl (rfM_0_28 _) ?_
      refine B_VV (st := []) dX12_day_36 cl_X12_381 (t_X12_goDay 11 shM_11 h3) (Nat.le_of_ble_eq_true rfl) shM_0 rfl rfl (Nat.le_of_ble_eq_true rfl) (fun h5 _ => ?_)
      refine B_aload_n dX12_day_39 rfl rfl ?_
      refine B_getR dX12_day_40 fl_X12_55 shM_0 rfl (rfM_0_28 _) ?_
      refine B_bipush dX12_day_43 bp_27 ?_
      refine L_iald dX12_day_45 shM_11 (by decide) di_27 ?_
      exact B_ireturn dX12_day_46 rfl rfl
    · refine B_iconst dX12_day_25 ic_m1 ?_
      exact B_ireturn dX12_day_26 rfl rfl
def f_X12_draw (x1 : Int32) (h : dH) : Option (Int32 × dH) :=
  (some (dPutL h 0 36 (((h.2.1 0 36) * 6364136223846793005) + 1442695040888963407))).bind fun h1 =>
  if ¬ (x1 : Int32).toInt64 = 0 then
  some ((((((h1.2.1 0 36)).toUInt64 >>> ((33 : Int32).toInt64.toUInt64 &&& Int64.toUInt64 63)).toInt64 - (((h1.2.1 0 36)).toUInt64 >>> ((33 : Int32).toInt64.toUInt64 &&& Int64.toUInt64 63)).toInt64 / (x1 : Int32).toInt64 * (x1 : Int32).toInt64) : Int64).toInt32, h1)
  else none
set_option maxRecDepth 20000 in
set_option maxHeartbeats 4000000 in
theorem t_X12_draw (x1 : Int32) (h : dH) : T XM 0 yX12_draw cX12_draw 2 (some .int) fiI [.ref 0, .int x1] h (f_X12_draw x1 h) := by
  refine T_of [.ref 0, .int x1] (by decide) (fun _ => rfl) (fun _ => Nat.le_of_ble_eq_true rfl) ?_
  show B XM 0 RX12 cX12_draw 2 (some .int) fiI 0 [.ref 0, .int x1] [] h (f_X12_draw x1 h)
  unfold f_X12_draw
  refine B_aload_n dX12_draw_0 rfl rfl ?_
  refine B_aload_n dX12_draw_1 rfl rfl ?_
  refine B_getJ dX12_draw_2 fl_X12_384 shM_0 rfl ?_
  refine B_ldc2 dX12_draw_5 kc_X12_388 ?_
  refine B_lmul dX12_draw_8 ?_
  refine B_ldc2 dX12_draw_9 kc_X12_390 ?_
  refine B_ladd dX12_draw_12 ?_
  refine B_putJ dX12_draw_13 fl_X12_384 fw_X12_36 shM_0 rfl ?_
  refine B_lh (fun h1 => ?_)
  refine B_aload_n dX12_draw_16 rfl rfl ?_
  refine B_getJ dX12_draw_17 fl_X12_384 shM_0 rfl ?_
  refine B_bipush dX12_draw_20 bp_33 ?_
  refine B_lushr dX12_draw_22 ?_
  refine B_iload_n dX12_draw_23 rfl rfl ?_
  refine B_i2l dX12_draw_24 ?_
  refine C_chk (fun q2 => ?_)
  refine B_lrem dX12_draw_25 q2 ?_
  refine B_l2i dX12_draw_26 ?_
  exact B_ireturn dX12_draw_27 rfl rfl
def f_X12_undo_L26 : Nat → Int32 → dH → Option (Int32 × dH)
  | 0, _, _ => none
  | n + 1, y1, h =>
    if y1 < 209 then
    if dIn ((209 * (h.1 0 35)) + y1) 8360 then
    if dIn y1 209 then
    (some (dPut h 11 (dI y1) (h.1 15 (dI ((209 * (h.1 0 35)) + y1))))).bind fun h6 =>
    (f_X12_undo_L26 n) (y1 + 1) h6
    else none
    else none
    else
    some ((h.1 0 35), h)
set_option maxRecDepth 20000 in
set_option maxHeartbeats 4000000 in
theorem b_X12_undo_L26 : ∀ (n : Nat) (y1 : Int32) (h : dH), B XM 0 RX12 cX12_undo 2 (some .int) fiI 26 [.ref 0, .int y1] [] h (f_X12_undo_L26 n y1 h) := by
  intro n
  induction n with
  | zero =>
    intro y1 h
    exact B_none
  | succ n ih =>
    intro y1 h
    rw [f_X12_undo_L26]
    refine B_iload_n dX12_undo_26 rfl rfl ?_
    refine B_sipush dX12_undo_27 sp_209 ?_
    refine C_icmp_ge (tgt := 60) dX12_undo_30 (by decide) (fun q7 => ?_) (fun q7 => ?_)
    · refine B_aload_n dX12_undo_60 rfl rfl ?_
      refine B_getI dX12_undo_61 fl_X12_299 shM_0 rfl ?_
      exact B_ireturn dX12_undo_64 rfl rfl
    · refine B_aload_n dX12_undo_33 rfl rfl ?_
      refine B_getR dX12_undo_34 fl_X12_55 shM_0 rfl (rfM_0_28 _) ?_
      refine B_iload_n dX12_undo_37 rfl rfl ?_
      refine B_aload_n dX12_undo_38 rfl rfl ?_
      refine B_getR dX12_undo_39 fl_X12_75 shM_0 rfl (rfM_0_34 _) ?_
      refine B_sipush dX12_undo_42 sp_209 ?_
      refine B_aload_n dX12_undo_45 rfl rfl ?_
      refine B_getI dX12_undo_46 fl_X12_299 shM_0 rfl ?_
      refine B_imul dX12_undo_49 ?_
      refine B_iload_n dX12_undo_50 rfl rfl ?_
      refine B_iadd dX12_undo_51 ?_
      refine C_chk (fun q4 => ?_)
      refine L_iald dX12_undo_52 shM_15 q4 rfl ?_
      refine C_chk (fun q5 => ?_)
      refine L_iast dX12_undo_53 shM_11 q5 rfl ?_
      refine B_lh (fun h6 => ?_)
      refine B_iinc (w := (y1 + 1)) (ls' := [.ref 0, .int (y1 + 1)]) dX12_undo_54 rfl (congrArg (fun z => y1 + z) ic_1) (Nat.le_of_ble_eq_true rfl) rfl rfl ?_
      refine B_goto (tgt := 26) dX12_undo_57 (by decide) ?_
      exact ih (y1 + 1)  h6
def f_X12_undo (h : dH) : Option (Int32 × dH) :=
  (some (dPut h 0 0 0)).bind fun h1 =>
  if (h1.1 0 35) = 0 then
  some ((-1), h1)
  else
  (some (dPut h1 0 35 ((h1.1 0 35) - 1))).bind fun h2 =>
  f_X12_undo_L26 dFu 0 h2
set_option maxRecDepth 20000 in
set_option maxHeartbeats 4000000 in
theorem t_X12_undo (h : dH) : T XM 0 yX12_undo cX12_undo 2 (some .int) fiI [.ref 0] h (f_X12_undo h) := by
  refine T_of [.ref 0, .null] (by decide) (fun _ => rfl) (fun _ => Nat.le_of_ble_eq_true rfl) ?_
  show B XM 0 RX12 cX12_undo 2 (some .int) fiI 0 [.ref 0, .null] [] h (f_X12_undo h)
  unfold f_X12_undo
  refine B_aload_n dX12_undo_0 rfl rfl ?_
  refine B_iconst dX12_undo_1 ic_0 ?_
  refine B_putI dX12_undo_2 fl_X12_103 fw_X12_0 shM_0 rfl ?_
  refine B_lh (fun h1 => ?_)
  refine B_aload_n dX12_undo_5 rfl rfl ?_
  refine B_getI dX12_undo_6 fl_X12_299 shM_0 rfl ?_
  refine C_if_ne (tgt := 14) dX12_undo_9 (by decide) (fun q3 => ?_) (fun q3 => ?_)
  · refine B_aload_n dX12_undo_14 rfl rfl ?_
    refine B_dup dX12_undo_15 rfl ?_
    refine B_getI dX12_undo_16 fl_X12_299 shM_0 rfl ?_
    refine B_iconst dX12_undo_19 ic_1 ?_
    refine B_isub dX12_undo_20 ?_
    refine B_putI dX12_undo_21 fl_X12_299 fw_X12_35 shM_0 rfl ?_
    refine B_lh (fun h2 => ?_)
    refine B_iconst dX12_undo_24 ic_0 ?_
    refine B_istore_n (ls' := [.ref 0, .int 0]) dX12_undo_25 rfl (Nat.le_of_ble_eq_true rfl) rfl rfl ?_
    exact b_X12_undo_L26 dFu 0 h2
  · refine B_iconst dX12_undo_12 ic_m1 ?_
    exact B_ireturn dX12_undo_13 rfl rfl
def f_X12_log (x1 : Int32) (x2 : Int32) (h : dH) : Option (Int32 × dH) :=
  (some (dPut h 0 0 0)).bind fun h1 =>
  if (f_X12_isIn ((x1 : Int32).toInt64) 0 ((((h1.1 11 28) - 1) : Int32).toInt64) h1) then
  if (f_X12_isIn ((x2 : Int32).toInt64) 0 2 h1) then
  if dIn ((29 + (3 * (((h1.1 11 28) - 1) - x1))) + x2) 209 then
  some ((h1.1 11 (dI ((29 + (3 * (((h1.1 11 28) - 1) - x1))) + x2))), h1)
  else none
  else
  some ((-1), h1)
  else
  some ((-1), h1)
set_option maxRecDepth 20000 in
set_option maxHeartbeats 4000000 in
theorem t_X12_log (x1 : Int32) (x2 : Int32) (h : dH) : T XM 1 yX12_log cX12_log 3 (some .int) fiI [.ref 0, .int x1, .int x2] h (f_X12_log x1 x2 h) := by
  refine T_of [.ref 0, .int x1, .int x2] (by decide) (fun _ => rfl) (fun _ => Nat.le_of_ble_eq_true rfl) ?_
  show B XM 1 RX12 cX12_log 3 (some .int) fiI 0 [.ref 0, .int x1, .int x2] [] h (f_X12_log x1 x2 h)
  unfold f_X12_log
  refine B_aload_n dX12_log_0 rfl rfl ?_
  refine B_iconst dX12_log_1 ic_0 ?_
  refine B_putI dX12_log_2 fl_X12_103 fw_X12_0 shM_0 rfl ?_
  refine B_lh (fun h1 => ?_)
  refine B_iload_n dX12_log_5 rfl rfl ?_
  refine B_i2l dX12_log_6 ?_
  refine B_lconst (v := 0) dX12_log_7 (by decide) ?_
  refine B_aload_n dX12_log_8 rfl rfl ?_
  refine B_getR dX12_log_9 fl_X12_55 shM_0 rfl (rfM_0_28 _) ?_
  refine B_bipush dX12_log_12 bp_28 ?_
  refine L_iald dX12_log_14 shM_11 (by decide) di_28 ?_
  refine B_iconst dX12_log_15 ic_1 ?_
  refine B_isub dX12_log_16 ?_
  refine B_i2l dX12_log_17 ?_
  refine B_STb (st := []) dX12_log_18 cl_X12_224 (t_X12_isIn ((x1 : Int32).toInt64) 0 ((((h1.1 11 28) - 1) : Int32).toInt64) h1) (Nat.le_of_ble_eq_true rfl) rfl rfl (Nat.le_of_ble_eq_true rfl) ?_
  refine C_ifb_eq (tgt := 62) dX12_log_21 (by decide) (fun q4 => ?_) (fun q4 => ?_)
  · refine B_iconst dX12_log_62 ic_m1 ?_
    exact B_ireturn dX12_log_63 rfl rfl
  · refine B_iload_n dX12_log_24 rfl rfl ?_
    refine B_i2l dX12_log_25 ?_
    refine B_lconst (v := 0) dX12_log_26 (by decide) ?_
    refine B_ldc2 dX12_log_27 kc_X12_274 ?_
    refine B_STb (st := []) dX12_log_30 cl_X12_224 (t_X12_isIn ((x2 : Int32).toInt64) 0 2 h1) (Nat.le_of_ble_eq_true rfl) rfl rfl (Nat.le_of_ble_eq_true rfl) ?_
    refine C_ifb_eq (tgt := 62) dX12_log_33 (by decide) (fun q3 => ?_) (fun q3 => ?_)
    · refine B_iconst dX12_log_62 ic_m1 ?_
      exact B_ireturn dX12_log_63 rfl rfl
    · refine B_aload_n dX12_log_36 rfl rfl ?_
      refine B_getR dX12_log_37 fl_X12_55 shM_0 rfl (rfM_0_28 _) ?_
      refine B_bipush dX12_log_40 bp_29 ?_
      refine B_iconst dX12_log_42 ic_3 ?_
      refine B_aload_n dX12_log_43 rfl rfl ?_
      refine B_getR dX12_log_44 fl_X12_55 shM_0 rfl (rfM_0_28 _) ?_
      refine B_bipush dX12_log_47 bp_28 ?_
      refine L_iald dX12_log_49 shM_11 (by decide) di_28 ?_
      refine B_iconst dX12_log_50 ic_1 ?_
      refine B_isub dX12_log_51 ?_
      refine B_iload_n dX12_log_52 rfl rfl ?_
      refine B_isub dX12_log_53 ?_
      refine B_imul dX12_log_54 ?_
      refine B_iadd dX12_log_55 ?_
      refine B_iload_n dX12_log_56 rfl rfl ?_
      refine B_iadd dX12_log_57 ?_
      refine C_chk (fun q2 => ?_)
      refine L_iald dX12_log_58 shM_11 q2 rfl ?_
      refine B_goto (tgt := 63) dX12_log_59 (by decide) ?_
      exact B_ireturn dX12_log_63 rfl rfl
def f_X12_isPlan (x1 : Int32) (h : dH) : Bool :=
  if x1 < 0 then
  false
  else
  if x1 < (h.1 0 26) then
  true
  else
  false
set_option maxRecDepth 20000 in
set_option maxHeartbeats 4000000 in
theorem t_X12_isPlan (x1 : Int32) (h : dH) : T XM 0 yX12_isPlan cX12_isPlan 2 (some .boolean) (fiB h) [.ref 0, .int x1] h (some (f_X12_isPlan x1 h)) := by
  refine T_of [.ref 0, .int x1] (by decide) (fun _ => rfl) (fun _ => Nat.le_of_ble_eq_true rfl) ?_
  show B XM 0 RX12 cX12_isPlan 2 (some .boolean) (fiB h) 0 [.ref 0, .int x1] [] h (some (f_X12_isPlan x1 h))
  unfold f_X12_isPlan
  refine B_iload_n dX12_isPlan_0 rfl rfl ?_
  refine C_some ?_
  refine C_if_lt (tgt := 16) dX12_isPlan_1 (by decide) (fun q2 => ?_) (fun q2 => ?_)
  · refine B_iconst dX12_isPlan_16 ic_0 ?_
    exact B_zreturn dX12_isPlan_17 rfl rfl rfl
  · refine B_iload_n dX12_isPlan_4 rfl rfl ?_
    refine B_aload_n dX12_isPlan_5 rfl rfl ?_
    refine B_getI dX12_isPlan_6 fl_X12_288 shM_0 rfl ?_
    refine C_some ?_
    refine C_icmp_ge (tgt := 16) dX12_isPlan_9 (by decide) (fun q1 => ?_) (fun q1 => ?_)
    · refine B_iconst dX12_isPlan_16 ic_0 ?_
      exact B_zreturn dX12_isPlan_17 rfl rfl rfl
    · refine B_iconst dX12_isPlan_12 ic_1 ?_
      refine B_goto (tgt := 17) dX12_isPlan_13 (by decide) ?_
      exact B_zreturn dX12_isPlan_17 rfl rfl rfl
def f_X12_step (x1 : Int32) (x2 : Int32) (x3 : Int32) (h : dH) : Option (Int32 × dH) :=
  (some (dPut h 0 0 0)).bind fun h1 =>
  if (f_X12_isPlan x1 h1) then
  if dIn x1 5 then
  if (f_X12_isIn ((x2 : Int32).toInt64) 0 ((((h1.1 10 (dI x1)) - 1) : Int32).toInt64) h1) then
  if (f_X12_isIn ((x3 : Int32).toInt64) 0 1 h1) then
  if dIn ((2 * ((16 * x1) + x2)) + x3) 160 then
  some ((h1.1 9 (dI ((2 * ((16 * x1) + x2)) + x3))), h1)
  else none
  else
  some ((-1000000), h1)
  else
  some ((-1000000), h1)
  else none
  else
  some ((-1000000), h1)
set_option maxRecDepth 20000 in
set_option maxHeartbeats 4000000 in
theorem t_X12_step (x1 : Int32) (x2 : Int32) (x3 : Int32) (h : dH) : T XM 1 yX12_step cX12_step 4 (some .int) fiI [.ref 0, .int x1, .int x2, .int x3] h (f_X12_step x1 x2 x3 h) := by
  refine T_of [.ref 0, .int x1, .int x2, .int x3] (by decide) (fun _ => rfl) (fun _ => Nat.le_of_ble_eq_true rfl) ?_
  show B XM 1 RX12 cX12_step 4 (some .int) fiI 0 [.ref 0, .int x1, .int x2, .int x3] [] h (f_X12_step x1 x2 x3 h)
  unfold f_X12_step
  refine B_aload_n dX12_step_0 rfl rfl ?_
  refine B_iconst dX12_step_1 ic_0 ?_
  refine B_putI dX12_step_2 fl_X12_103 fw_X12_0 shM_0 rfl ?_
  refine B_lh (fun h1 => ?_)
  refine B_aload_n dX12_step_5 rfl rfl ?_
  refine B_iload_n dX12_step_6 rfl rfl ?_
  refine B_VTb (st := []) dX12_step_7 cl_X12_397 (t_X12_isPlan x1 h1) (Nat.le_of_ble_eq_true rfl) shM_0 rfl rfl (Nat.le_of_ble_eq_true rfl) ?_
  refine C_ifb_eq (tgt := 59) dX12_step_10 (by decide) (fun q6 => ?_) (fun q6 => ?_)
  · refine B_ldcw dX12_step_59 kc_X12_400 ?_
    exact B_ireturn dX12_step_62 rfl rfl
  · refine B_iload_n dX12_step_13 rfl rfl ?_
    refine B_i2l dX12_step_14 ?_
    refine B_lconst (v := 0) dX12_step_15 (by decide) ?_
    refine B_aload_n dX12_step_16 rfl rfl ?_
    refine B_getR dX12_step_17 fl_X12_52 shM_0 rfl (rfM_0_23 _) ?_
    refine B_iload_n dX12_step_20 rfl rfl ?_
    refine C_chk (fun q2 => ?_)
    refine L_iald dX12_step_21 shM_10 q2 rfl ?_
    refine B_iconst dX12_step_22 ic_1 ?_
    refine B_isub dX12_step_23 ?_
    refine B_i2l dX12_step_24 ?_
    refine B_STb (st := []) dX12_step_25 cl_X12_224 (t_X12_isIn ((x2 : Int32).toInt64) 0 ((((h1.1 10 (dI x1)) - 1) : Int32).toInt64) h1) (Nat.le_of_ble_eq_true rfl) rfl rfl (Nat.le_of_ble_eq_true rfl) ?_
    refine C_ifb_eq (tgt := 59) dX12_step_28 (by decide) (fun q5 => ?_) (fun q5 => ?_)
    · refine B_ldcw dX12_step_59 kc_X12_400 ?_
      exact B_ireturn dX12_step_62 rfl rfl
    · refine B_iload_n dX12_step_31 rfl rfl ?_
      refine B_i2l dX12_step_32 ?_
      refine B_lconst (v := 0) dX12_step_33 (by decide) ?_
      refine B_lconst (v := 1) dX12_step_34 (by decide) ?_
      refine B_STb (st := []) dX12_step_35 cl_X12_224 (t_X12_isIn ((x3 : Int32).toInt64) 0 1 h1) (Nat.le_of_ble_eq_true rfl) rfl rfl (Nat.le_of_ble_eq_true rfl) ?_
      refine C_ifb_eq (tgt := 59) dX12_step_38 (by decide) (fun q4 => ?_) (fun q4 => ?_)
      · refine B_ldcw dX12_step_59 kc_X12_400 ?_
        exact B_ireturn dX12_step_62 rfl rfl
      · refine B_aload_n dX12_step_41 rfl rfl ?_
        refine B_getR dX12_step_42 fl_X12_49 shM_0 rfl (rfM_0_22 _) ?_
        refine B_iconst dX12_step_45 ic_2 ?_
        refine B_bipush dX12_step_46 bp_16 ?_
        refine B_iload_n dX12_step_48 rfl rfl ?_
        refine B_imul dX12_step_49 ?_
        refine B_iload_n dX12_step_50 rfl rfl ?_
        refine B_iadd dX12_step_51 ?_
        refine B_imul dX12_step_52 ?_
        refine B_iload_n dX12_step_53 rfl rfl ?_
        refine B_iadd dX12_step_54 ?_
        refine C_chk (fun q3 => ?_)
        refine L_iald dX12_step_55 shM_9 q3 rfl ?_
        refine B_goto (tgt := 62) dX12_step_56 (by decide) ?_
        exact B_ireturn dX12_step_62 rfl rfl
def f_X12_canStep (w : Nat) (x2 : Int32) (h : dH) : Option (Bool) :=
  if dIn x2 160 then
  if (h.1 9 (dI x2)) = 0 then
  if dIn (x2 + 1) 160 then
  (f_X12_canWalk w (h.1 9 (dI (x2 + 1))) h).bind fun v4 =>
  some v4
  else none
  else
  if (h.1 9 (dI x2)) = 1 then
  some (f_X12_canRest w h)
  else
  if (h.1 9 (dI x2)) = 2 then
  if dIn (x2 + 1) 160 then
  some (f_X12_canRestore w (h.1 9 (dI (x2 + 1))) h)
  else none
  else
  if (h.1 w 27) < 999 then
  some true
  else
  some false
  else none
set_option maxRecDepth 20000 in
set_option maxHeartbeats 4000000 in
theorem t_X12_canStep (w : Nat) (hw : XM.1[w]? = some (.inr (0, 209))) (x2 : Int32) (h : dH) : T XM 4 yX12_canStep cX12_canStep 3 (some .boolean) (fiB h) [.ref 0, .ref w, .int x2] h (f_X12_canStep w x2 h) := by
  refine T_of [.ref 0, .ref w, .int x2] (by decide) (fun _ => rfl) (fun _ => Nat.le_of_ble_eq_true rfl) ?_
  show B XM 4 RX12 cX12_canStep 3 (some .boolean) (fiB h) 0 [.ref 0, .ref w, .int x2] [] h (f_X12_canStep w x2 h)
  unfold f_X12_canStep
  refine B_aload_n dX12_canStep_0 rfl rfl ?_
  refine B_getR dX12_canStep_1 fl_X12_49 shM_0 rfl (rfM_0_22 _) ?_
  refine B_iload_n dX12_canStep_4 rfl rfl ?_
  refine C_chk (fun q1 => ?_)
  refine L_iald dX12_canStep_5 shM_9 q1 rfl ?_
  refine C_ite (fun n2_0 => ?_) (fun n2_0 => ?_)
  · refine B_tswIn (tgt := 32) dX12_canStep_6 (by rw [n2_0]; decide) (by rw [n2_0]; decide) (by rw [n2_0]; decide) (by decide) ?_
    refine B_aload_n dX12_canStep_32 rfl rfl ?_
    refine B_aload_n dX12_canStep_33 rfl rfl ?_
    refine B_aload_n dX12_canStep_34 rfl rfl ?_
    refine B_getR dX12_canStep_35 fl_X12_49 shM_0 rfl (rfM_0_22 _) ?_
    refine B_iload_n dX12_canStep_38 rfl rfl ?_
    refine B_iconst dX12_canStep_39 ic_1 ?_
    refine B_iadd dX12_canStep_40 ?_
    refine C_chk (fun q3 => ?_)
    refine L_iald dX12_canStep_41 shM_9 q3 rfl ?_
    refine B_Vpb (st := []) dX12_canStep_42 cl_X12_353 (t_X12_canWalk w hw (h.1 9 (dI (x2 + 1))) h) (Nat.le_of_ble_eq_true rfl) shM_0 rfl rfl (Nat.le_of_ble_eq_true rfl) (fun v4 _ => ?_)
    exact B_zreturn dX12_canStep_45 rfl (nar_bi v4) rfl
  · refine C_ite (fun n2_1 => ?_) (fun n2_1 => ?_)
    · refine B_tswIn (tgt := 46) dX12_canStep_6 (by rw [n2_1]; decide) (by rw [n2_1]; decide) (by rw [n2_1]; decide) (by decide) ?_
      refine B_aload_n dX12_canStep_46 rfl rfl ?_
      refine B_aload_n dX12_canStep_47 rfl rfl ?_
      refine B_VTb (st := []) dX12_canStep_48 cl_X12_364 (t_X12_canRest w hw h) (Nat.le_of_ble_eq_true rfl) shM_0 rfl rfl (Nat.le_of_ble_eq_true rfl) ?_
      exact B_zreturn dX12_canStep_51 rfl (nar_bi (f_X12_canRest w h)) rfl
    · refine C_ite (fun n2_2 => ?_) (fun n2_2 => ?_)
      · refine B_tswIn (tgt := 52) dX12_canStep_6 (by rw [n2_2]; decide) (by rw [n2_2]; decide) (by rw [n2_2]; decide) (by decide) ?_
        refine B_aload_n dX12_canStep_52 rfl rfl ?_
        refine B_aload_n dX12_canStep_53 rfl rfl ?_
        refine B_aload_n dX12_canStep_54 rfl rfl ?_
        refine B_getR dX12_canStep_55 fl_X12_49 shM_0 rfl (rfM_0_22 _) ?_
        refine B_iload_n dX12_canStep_58 rfl rfl ?_
        refine B_iconst dX12_canStep_59 ic_1 ?_
        refine B_iadd dX12_canStep_60 ?_
        refine C_chk (fun q5 => ?_)
        refine L_iald dX12_canStep_61 shM_9 q5 rfl ?_
        refine B_VTb (st := []) dX12_canStep_62 cl_X12_372 (t_X12_canRestore w hw (h.1 9 (dI (x2 + 1))) h) (Nat.le_of_ble_eq_true rfl) shM_0 rfl rfl (Nat.le_of_ble_eq_true rfl) ?_
        exact B_zreturn dX12_canStep_65 rfl (nar_bi (f_X12_canRestore w (h.1 9 (dI (x2 + 1))) h)) rfl
      · refine B_tswOut (tgt := 66) dX12_canStep_6 (dsw (fun c h1 h2 => ?_)) (by decide) ?_
        · rcases (show c = 0 ∨ c = 1 ∨ c = 2 by omega) with rfl | rfl | rfl
          · exact n2_0
          · exact n2_1
          · exact n2_2
        · refine B_aload_n dX12_canStep_66 rfl rfl ?_
          refine B_bipush dX12_canStep_67 bp_27 ?_
          refine L_iald dX12_canStep_69 hw (by decide) di_27 ?_
          refine B_sipush dX12_canStep_70 sp_999 ?_
          refine C_icmp_ge (tgt := 80) dX12_canStep_73 (by decide) (fun q6 => ?_) (fun q6 => ?_)
          · refine B_iconst dX12_canStep_80 ic_0 ?_
            exact B_zreturn dX12_canStep_81 rfl rfl rfl
          · refine B_iconst dX12_canStep_76 ic_1 ?_
            refine B_goto (tgt := 81) dX12_canStep_77 (by decide) ?_
            exact B_zreturn dX12_canStep_81 rfl rfl rfl
def f_X12_keep_L2 : Nat → Int32 → Int32 → dH → Option (dH)
  | 0, _, _, _ => none
  | n + 1, y1, y2, h =>
    if y2 < 29 then
    if dIn y2 209 then
    if dIn ((29 * y1) + y2) 232 then
    (some (dPut h 16 (dI ((29 * y1) + y2)) (h.1 12 (dI y2)))).bind fun h3 =>
    (f_X12_keep_L2 n) y1 (y2 + 1) h3
    else none
    else none
    else
    some h
set_option maxRecDepth 20000 in
set_option maxHeartbeats 4000000 in
theorem b_X12_keep_L2 : ∀ (n : Nat) (y1 : Int32) (y2 : Int32) (h : dH), B XM 0 RX12 cX12_keep 3 none fiV 2 [.ref 0, .int y1, .int y2] [] h (f_X12_keep_L2 n y1 y2 h) := by
  intro n
  induction n with
  | zero =>
    intro y1 y2 h
    exact B_none
  | succ n ih =>
    intro y1 y2 h
    rw [f_X12_keep_L2]
    refine B_iload_n dX12_keep_2 rfl rfl ?_
    refine B_bipush dX12_keep_3 bp_29 ?_
    refine C_icmp_ge (tgt := 31) dX12_keep_5 (by decide) (fun q4 => ?_) (fun q4 => ?_)
    · exact B_return dX12_keep_31 rfl rfl
    · refine B_aload_n dX12_keep_8 rfl rfl ?_
      refine B_getR dX12_keep_9 fl_X12_78 shM_0 rfl (rfM_0_37 _) ?_
      refine B_bipush dX12_keep_12 bp_29 ?_
      refine B_iload_n dX12_keep_14 rfl rfl ?_
      refine B_imul dX12_keep_15 ?_
      refine B_iload_n dX12_keep_16 rfl rfl ?_
      refine B_iadd dX12_keep_17 ?_
      refine B_aload_n dX12_keep_18 rfl rfl ?_
      refine B_getR dX12_keep_19 fl_X12_58 shM_0 rfl (rfM_0_29 _) ?_
      refine B_iload_n dX12_keep_22 rfl rfl ?_
      refine C_chk (fun q1 => ?_)
      refine L_iald dX12_keep_23 shM_12 q1 rfl ?_
      refine C_chk (fun q2 => ?_)
      refine L_iast dX12_keep_24 shM_16 q2 rfl ?_
      refine B_lh (fun h3 => ?_)
      refine B_iinc (w := (y2 + 1)) (ls' := [.ref 0, .int y1, .int (y2 + 1)]) dX12_keep_25 rfl (congrArg (fun z => y2 + z) ic_1) (Nat.le_of_ble_eq_true rfl) rfl rfl ?_
      refine B_goto (tgt := 2) dX12_keep_28 (by decide) ?_
      exact ih y1 (y2 + 1)  h3
def f_X12_keep (x1 : Int32) (h : dH) : Option (dH) :=
  f_X12_keep_L2 dFu x1 0 h
set_option maxRecDepth 20000 in
set_option maxHeartbeats 4000000 in
theorem t_X12_keep (x1 : Int32) (h : dH) : T XM 0 yX12_keep cX12_keep 3 none fiV [.ref 0, .int x1] h (f_X12_keep x1 h) := by
  refine T_of [.ref 0, .int x1, .null] (by decide) (fun _ => rfl) (fun _ => Nat.le_of_ble_eq_true rfl) ?_
  show B XM 0 RX12 cX12_keep 3 none fiV 0 [.ref 0, .int x1, .null] [] h (f_X12_keep x1 h)
  unfold f_X12_keep
  refine B_iconst dX12_keep_0 ic_0 ?_
  refine B_istore_n (ls' := [.ref 0, .int x1, .int 0]) dX12_keep_1 rfl (Nat.le_of_ble_eq_true rfl) rfl rfl ?_
  exact b_X12_keep_L2 dFu x1 0 h
def f_X12_again_L2 : Nat → Int32 → Int32 → dH → Option (dH)
  | 0, _, _, _ => none
  | n + 1, y1, y2, h =>
    if y2 < 29 then
    if dIn ((29 * y1) + y2) 232 then
    if dIn y2 209 then
    (some (dPut h 12 (dI y2) (h.1 16 (dI ((29 * y1) + y2))))).bind fun h3 =>
    (f_X12_again_L2 n) y1 (y2 + 1) h3
    else none
    else none
    else
    some h
set_option maxRecDepth 20000 in
set_option maxHeartbeats 4000000 in
theorem b_X12_again_L2 : ∀ (n : Nat) (y1 : Int32) (y2 : Int32) (h : dH), B XM 0 RX12 cX12_again 3 none fiV 2 [.ref 0, .int y1, .int y2] [] h (f_X12_again_L2 n y1 y2 h) := by
  intro n
  induction n with
  | zero =>
    intro y1 y2 h
    exact B_none
  | succ n ih =>
    intro y1 y2 h
    rw [f_X12_again_L2]
    refine B_iload_n dX12_again_2 rfl rfl ?_
    refine B_bipush dX12_again_3 bp_29 ?_
    refine C_icmp_ge (tgt := 31) dX12_again_5 (by decide) (fun q4 => ?_) (fun q4 => ?_)
    · exact B_return dX12_again_31 rfl rfl
    · refine B_aload_n dX12_again_8 rfl rfl ?_
      refine B_getR dX12_again_9 fl_X12_58 shM_0 rfl (rfM_0_29 _) ?_
      refine B_iload_n dX12_again_12 rfl rfl ?_
      refine B_aload_n dX12_again_13 rfl rfl ?_
      refine B_getR dX12_again_14 fl_X12_78 shM_0 rfl (rfM_0_37 _) ?_
      refine B_bipush dX12_again_17 bp_29 ?_
      refine B_iload_n dX12_again_19 rfl rfl ?_
      refine B_imul dX12_again_20 ?_
      refine B_iload_n dX12_again_21 rfl rfl ?_
      refine B_iadd dX12_again_22 ?_
      refine C_chk (fun q1 => ?_)
      refine L_iald dX12_again_23 shM_16 q1 rfl ?_
      refine C_chk (fun q2 => ?_)
      refine L_iast dX12_again_24 shM_12 q2 rfl ?_
      refine B_lh (fun h3 => ?_)
      refine B_iinc (w := (y2 + 1)) (ls' := [.ref 0, .int y1, .int (y2 + 1)]) dX12_again_25 rfl (congrArg (fun z => y2 + z) ic_1) (Nat.le_of_ble_eq_true rfl) rfl rfl ?_
      refine B_goto (tgt := 2) dX12_again_28 (by decide) ?_
      exact ih y1 (y2 + 1)  h3
def f_X12_again (x1 : Int32) (h : dH) : Option (dH) :=
  f_X12_again_L2 dFu x1 0 h
set_option maxRecDepth 20000 in
set_option maxHeartbeats 4000000 in
theorem t_X12_again (x1 : Int32) (h : dH) : T XM 0 yX12_again cX12_again 3 none fiV [.ref 0, .int x1] h (f_X12_again x1 h) := by
  refine T_of [.ref 0, .int x1, .null] (by decide) (fun _ => rfl) (fun _ => Nat.le_of_ble_eq_true rfl) ?_
  show B XM 0 RX12 cX12_again 3 none fiV 0 [.ref 0, .int x1, .null] [] h (f_X12_again x1 h)
  unfold f_X12_again
  refine B_iconst dX12_again_0 ic_0 ?_
  refine B_istore_n (ls' := [.ref 0, .int x1, .int 0]) dX12_again_1 rfl (Nat.le_of_ble_eq_true rfl) rfl rfl ?_
  exact b_X12_again_L2 dFu x1 0 h
def f_X12_isSet (x1 : Int32) (h : dH) : Bool :=
  if 0 < (h.1 0 24) then
  if (f_X12_isIn ((x1 : Int32).toInt64) 1 ((((1 <<< ((h.1 0 24) &&& 31)) - 1) : Int32).toInt64) h) then
  true
  else
  false
  else
  false
set_option maxRecDepth 20000 in
set_option maxHeartbeats 4000000 in
theorem t_X12_isSet (x1 : Int32) (h : dH) : T XM 1 yX12_isSet cX12_isSet 2 (some .boolean) (fiB h) [.ref 0, .int x1] h (some (f_X12_isSet x1 h)) := by
  refine T_of [.ref 0, .int x1] (by decide) (fun _ => rfl) (fun _ => Nat.le_of_ble_eq_true rfl) ?_
  show B XM 1 RX12 cX12_isSet 2 (some .boolean) (fiB h) 0 [.ref 0, .int x1] [] h (some (f_X12_isSet x1 h))
  unfold f_X12_isSet
  refine B_aload_n dX12_isSet_0 rfl rfl ?_
  refine B_getI dX12_isSet_1 fl_X12_293 shM_0 rfl ?_
  refine C_some ?_
  refine C_if_le (tgt := 29) dX12_isSet_4 (by decide) (fun q2 => ?_) (fun q2 => ?_)
  · refine B_iconst dX12_isSet_29 ic_0 ?_
    exact B_zreturn dX12_isSet_30 rfl rfl rfl
  · refine B_iload_n dX12_isSet_7 rfl rfl ?_
    refine B_i2l dX12_isSet_8 ?_
    refine B_lconst (v := 1) dX12_isSet_9 (by decide) ?_
    refine B_iconst dX12_isSet_10 ic_1 ?_
    refine B_aload_n dX12_isSet_11 rfl rfl ?_
    refine B_getI dX12_isSet_12 fl_X12_293 shM_0 rfl ?_
    refine B_ishl dX12_isSet_15 ?_
    refine B_iconst dX12_isSet_16 ic_1 ?_
    refine B_isub dX12_isSet_17 ?_
    refine B_i2l dX12_isSet_18 ?_
    refine B_STb (st := []) dX12_isSet_19 cl_X12_224 (t_X12_isIn ((x1 : Int32).toInt64) 1 ((((1 <<< ((h.1 0 24) &&& 31)) - 1) : Int32).toInt64) h) (Nat.le_of_ble_eq_true rfl) rfl rfl (Nat.le_of_ble_eq_true rfl) ?_
    refine C_some ?_
    refine C_ifb_eq (tgt := 29) dX12_isSet_22 (by decide) (fun q1 => ?_) (fun q1 => ?_)
    · refine B_iconst dX12_isSet_29 ic_0 ?_
      exact B_zreturn dX12_isSet_30 rfl rfl rfl
    · refine B_iconst dX12_isSet_25 ic_1 ?_
      refine B_goto (tgt := 30) dX12_isSet_26 (by decide) ?_
      exact B_zreturn dX12_isSet_30 rfl rfl rfl
def f_X12_noted (x1 : Int32) (x2 : Int32) (x3 : Bool) (h : dH) : Option (Int32 × dH) :=
  (some (dPut h 0 0 0)).bind fun h1 =>
  if (f_X12_isPlace x1 h1) then
  if (f_X12_isIn ((x2 : Int32).toInt64) 0 60 h1) then
  if (h1.1 0 47) = 10 then
  some ((-1), h1)
  else
  if dIn (h1.1 0 47) 10 then
  (some (dPut h1 17 (dI (h1.1 0 47)) x1)).bind fun h3 =>
  if dIn (h3.1 0 47) 10 then
  (some (dPut h3 18 (dI (h3.1 0 47)) x2)).bind fun h5 =>
  if dIn (h5.1 0 47) 10 then
  (some (dPut h5 21 (dI (h5.1 0 47)) (vp_nar .boolean (bi x3)))).bind fun h7 =>
  some (((dPut h7 0 47 ((h7.1 0 47) + 1)).1 0 47), (dPut h7 0 47 ((h7.1 0 47) + 1)))
  else none
  else none
  else none
  else
  some ((-1), h1)
  else
  some ((-1), h1)
set_option maxRecDepth 20000 in
set_option maxHeartbeats 4000000 in
theorem t_X12_noted (x1 : Int32) (x2 : Int32) (x3 : Bool) (h : dH) : T XM 1 yX12_noted cX12_noted 4 (some .int) fiI [.ref 0, .int x1, .int x2, .int (bi x3)] h (f_X12_noted x1 x2 x3 h) := by
  refine T_of [.ref 0, .int x1, .int x2, .int (bi x3)] (by decide) (fun _ => rfl) (fun _ => Nat.le_of_ble_eq_true rfl) ?_
  show B XM 1 RX12 cX12_noted 4 (some .int) fiI 0 [.ref 0, .int x1, .int x2, .int (bi x3)] [] h (f_X12_noted x1 x2 x3 h)
  unfold f_X12_noted
  refine B_aload_n dX12_noted_0 rfl rfl ?_
  refine B_iconst dX12_noted_1 ic_0 ?_
  refine B_putI dX12_noted_2 fl_X12_103 fw_X12_0 shM_0 rfl ?_
  refine B_lh (fun h1 => ?_)
  refine B_aload_n dX12_noted_5 rfl rfl ?_
  refine B_iload_n dX12_noted_6 rfl rfl ?_
  refine B_VTb (st := []) dX12_noted_7 cl_X12_339 (t_X12_isPlace x1 h1) (Nat.le_of_ble_eq_true rfl) shM_0 rfl rfl (Nat.le_of_ble_eq_true rfl) ?_
  refine C_ifb_eq (tgt := 34) dX12_noted_10 (by decide) (fun q10 => ?_) (fun q10 => ?_)
  · refine B_iconst dX12_noted_34 ic_m1 ?_
    exact B_ireturn dX12_noted_35 rfl rfl
  · refine B_iload_n dX12_noted_13 rfl rfl ?_
    refine B_i2l dX12_noted_14 ?_
    refine B_lconst (v := 0) dX12_noted_15 (by decide) ?_
    refine B_ldc2 dX12_noted_16 kc_X12_392 ?_
    refine B_STb (st := []) dX12_noted_19 cl_X12_224 (t_X12_isIn ((x2 : Int32).toInt64) 0 60 h1) (Nat.le_of_ble_eq_true rfl) rfl rfl (Nat.le_of_ble_eq_true rfl) ?_
    refine C_ifb_eq (tgt := 34) dX12_noted_22 (by decide) (fun q9 => ?_) (fun q9 => ?_)
    · refine B_iconst dX12_noted_34 ic_m1 ?_
      exact B_ireturn dX12_noted_35 rfl rfl
    · refine B_aload_n dX12_noted_25 rfl rfl ?_
      refine B_getI dX12_noted_26 fl_X12_296 shM_0 rfl ?_
      refine B_bipush dX12_noted_29 bp_10 ?_
      refine C_icmp_ne (tgt := 36) dX12_noted_31 (by decide) (fun q8 => ?_) (fun q8 => ?_)
      · refine B_aload_n dX12_noted_36 rfl rfl ?_
        refine B_getR dX12_noted_37 fl_X12_81 shM_0 rfl (rfM_0_42 _) ?_
        refine B_aload_n dX12_noted_40 rfl rfl ?_
        refine B_getI dX12_noted_41 fl_X12_296 shM_0 rfl ?_
        refine B_iload_n dX12_noted_44 rfl rfl ?_
        refine C_chk (fun q2 => ?_)
        refine L_iast dX12_noted_45 shM_17 q2 rfl ?_
        refine B_lh (fun h3 => ?_)
        refine B_aload_n dX12_noted_46 rfl rfl ?_
        refine B_getR dX12_noted_47 fl_X12_84 shM_0 rfl (rfM_0_43 _) ?_
        refine B_aload_n dX12_noted_50 rfl rfl ?_
        refine B_getI dX12_noted_51 fl_X12_296 shM_0 rfl ?_
        refine B_iload_n dX12_noted_54 rfl rfl ?_
        refine C_chk (fun q4 => ?_)
        refine L_iast dX12_noted_55 shM_18 q4 rfl ?_
        refine B_lh (fun h5 => ?_)
        refine B_aload_n dX12_noted_56 rfl rfl ?_
        refine B_getR dX12_noted_57 fl_X12_93 shM_0 rfl (rfM_0_46 _) ?_
        refine B_aload_n dX12_noted_60 rfl rfl ?_
        refine B_getI dX12_noted_61 fl_X12_296 shM_0 rfl ?_
        refine B_iload_n dX12_noted_64 rfl rfl ?_
        refine C_chk (fun q6 => ?_)
        refine L_zast dX12_noted_65 shM_21 q6 rfl ?_
        refine B_lh (fun h7 => ?_)
        refine B_aload_n dX12_noted_66 rfl rfl ?_
        refine B_dup dX12_noted_67 rfl ?_
        refine B_getI dX12_noted_68 fl_X12_296 shM_0 rfl ?_
        refine B_iconst dX12_noted_71 ic_1 ?_
        refine B_iadd dX12_noted_72 ?_
        refine B_putI dX12_noted_73 fl_X12_296 fw_X12_47 shM_0 rfl ?_
        refine B_aload_n dX12_noted_76 rfl rfl ?_
        refine B_getI dX12_noted_77 fl_X12_296 shM_0 rfl ?_
        exact B_ireturn dX12_noted_80 rfl rfl
      · refine B_iconst dX12_noted_34 ic_m1 ?_
        exact B_ireturn dX12_noted_35 rfl rfl
def f_X12_isNoted_J45 (kL2 : Int32 → Int32 → Option (Bool)) (y1 : Int32) (y2 : Int32) (z0 : Bool) (h : dH) : Option (Bool) :=
  if dIn y2 10 then
  if (bi z0) = (h.1 21 (dI y2)) then
  kL2 y1 (y2 + 1)
  else
  some false
  else none
set_option maxRecDepth 20000 in
set_option maxHeartbeats 4000000 in
theorem b_X12_isNoted_J45 {kL2 : Int32 → Int32 → Option (Bool)} (h : dH) (hkL2 : ∀ (y1 : Int32) (y2 : Int32), B XM 1 RX12 cX12_isNoted 5 (some .boolean) (fiB h) 2 [.ref 0, .int y1, .int y2, .null, .null] [] h (kL2 y1 y2)) (y1 : Int32) (y2 : Int32) (z0 : Bool) : B XM 1 RX12 cX12_isNoted 5 (some .boolean) (fiB h) 45 [.ref 0, .int y1, .int y2, .null, .null] [.int (bi z0)] h (f_X12_isNoted_J45 kL2 y1 y2 z0 h) := by
  unfold f_X12_isNoted_J45
  refine B_istore (ls' := [.ref 0, .int y1, .int y2, .null, .int (bi z0)]) dX12_isNoted_45 (Nat.le_of_ble_eq_true rfl) rfl rfl ?_
  refine B_iload dX12_isNoted_47 rfl ?_
  refine B_aload_n dX12_isNoted_49 rfl rfl ?_
  refine B_getR dX12_isNoted_50 fl_X12_93 shM_0 rfl (rfM_0_46 _) ?_
  refine B_iload_n dX12_isNoted_53 rfl rfl ?_
  refine C_chk (fun q8 => ?_)
  refine L_zald dX12_isNoted_54 shM_21 q8 rfl ?_
  refine C_icmp_eq (tgt := 60) dX12_isNoted_55 (by decide) (fun q9 => ?_) (fun q9 => ?_)
  · refine B_iinc (w := (y2 + 1)) (ls' := [.ref 0, .int y1, .int (y2 + 1), .null, .int (bi z0)]) dX12_isNoted_60 rfl (congrArg (fun z => y2 + z) ic_1) (Nat.le_of_ble_eq_true rfl) rfl rfl ?_
    refine B_goto (tgt := 2) dX12_isNoted_63 (by decide) ?_
    refine B_drop 4 (ls' := [.ref 0, .int y1, .int (y2 + 1), .null, .null]) rfl ?_
    exact hkL2 y1 (y2 + 1)  
  · refine B_iconst dX12_isNoted_58 ic_0 ?_
    exact B_zreturn dX12_isNoted_59 rfl rfl rfl
def f_X12_isNoted_J44 (kL2 : Int32 → Int32 → Option (Bool)) (y1 : Int32) (y2 : Int32) (h : dH) : Option (Bool) :=
  f_X12_isNoted_J45 kL2 y1 y2 false h
set_option maxRecDepth 20000 in
set_option maxHeartbeats 4000000 in
theorem b_X12_isNoted_J44 {kL2 : Int32 → Int32 → Option (Bool)} (h : dH) (hkL2 : ∀ (y1 : Int32) (y2 : Int32), B XM 1 RX12 cX12_isNoted 5 (some .boolean) (fiB h) 2 [.ref 0, .int y1, .int y2, .null, .null] [] h (kL2 y1 y2)) (y1 : Int32) (y2 : Int32) : B XM 1 RX12 cX12_isNoted 5 (some .boolean) (fiB h) 44 [.ref 0, .int y1, .int y2, .null, .null] [] h (f_X12_isNoted_J44 kL2 y1 y2 h) := by
  unfold f_X12_isNoted_J44
  refine B_iconst dX12_isNoted_44 ic_0 ?_
  exact b_X12_isNoted_J45 h hkL2 y1 y2 false
def f_X12_isNoted_L2 (h : dH) : Nat → Int32 → Int32 → Option (Bool)
  | 0, _, _ => none
  | n + 1, y1, y2 =>
    if y2 < (h.1 0 47) then
    if dIn y2 10 then
    (some ((h.1 17 (dI y2)))).bind fun v2 =>
    if (f_X12_has y1 v2 h) then
    if dIn v2 7 then
    if dIn y2 10 then
    if (h.1 18 (dI y2)) < (h.1 19 (dI v2)) then
    f_X12_isNoted_J44 (f_X12_isNoted_L2 h n) y1 y2 h
    else
    f_X12_isNoted_J45 (f_X12_isNoted_L2 h n) y1 y2 true h
    else none
    else none
    else
    f_X12_isNoted_J44 (f_X12_isNoted_L2 h n) y1 y2 h
    else none
    else
    some true
set_option maxRecDepth 20000 in
set_option maxHeartbeats 4000000 in
theorem b_X12_isNoted_L2 (h : dH) : ∀ (n : Nat) (y1 : Int32) (y2 : Int32), B XM 1 RX12 cX12_isNoted 5 (some .boolean) (fiB h) 2 [.ref 0, .int y1, .int y2, .null, .null] [] h (f_X12_isNoted_L2 h n y1 y2) := by
  intro n
  induction n with
  | zero =>
    intro y1 y2
    exact B_none
  | succ n ih =>
    intro y1 y2
    rw [f_X12_isNoted_L2]
    refine B_iload_n dX12_isNoted_2 rfl rfl ?_
    refine B_aload_n dX12_isNoted_3 rfl rfl ?_
    refine B_getI dX12_isNoted_4 fl_X12_296 shM_0 rfl ?_
    refine C_icmp_ge (tgt := 66) dX12_isNoted_7 (by decide) (fun q7 => ?_) (fun q7 => ?_)
    · refine B_iconst dX12_isNoted_66 ic_1 ?_
      exact B_zreturn dX12_isNoted_67 rfl rfl rfl
    · refine B_aload_n dX12_isNoted_10 rfl rfl ?_
      refine B_getR dX12_isNoted_11 fl_X12_81 shM_0 rfl (rfM_0_42 _) ?_
      refine B_iload_n dX12_isNoted_14 rfl rfl ?_
      refine C_chk (fun q1 => ?_)
      refine L_iald dX12_isNoted_15 shM_17 q1 rfl ?_
      refine B_lv (fun v2 => ?_)
      refine B_istore_n (ls' := [.ref 0, .int y1, .int y2, .int v2, .null]) dX12_isNoted_16 rfl (Nat.le_of_ble_eq_true rfl) rfl rfl ?_
      refine B_iload_n dX12_isNoted_17 rfl rfl ?_
      refine B_iload_n dX12_isNoted_18 rfl rfl ?_
      refine B_STb (st := []) dX12_isNoted_19 cl_X12_236 (t_X12_has y1 v2 h) (Nat.le_of_ble_eq_true rfl) rfl rfl (Nat.le_of_ble_eq_true rfl) ?_
      refine C_ifb_eq (tgt := 44) dX12_isNoted_22 (by decide) (fun q6 => ?_) (fun q6 => ?_)
      · refine B_drop 3 (ls' := [.ref 0, .int y1, .int y2, .null, .null]) rfl ?_
        exact b_X12_isNoted_J44 h (fun qy1 qy2 => ih qy1 qy2) y1 y2
      · refine B_aload_n dX12_isNoted_25 rfl rfl ?_
        refine B_getR dX12_isNoted_26 fl_X12_87 shM_0 rfl (rfM_0_44 _) ?_
        refine B_iload_n dX12_isNoted_29 rfl rfl ?_
        refine C_chk (fun q3 => ?_)
        refine L_iald dX12_isNoted_30 shM_19 q3 rfl ?_
        refine B_aload_n dX12_isNoted_31 rfl rfl ?_
        refine B_getR dX12_isNoted_32 fl_X12_84 shM_0 rfl (rfM_0_43 _) ?_
        refine B_iload_n dX12_isNoted_35 rfl rfl ?_
        refine C_chk (fun q4 => ?_)
        refine L_iald dX12_isNoted_36 shM_18 q4 rfl ?_
        refine C_icmp_gt (tgt := 44) dX12_isNoted_37 (by decide) (fun q5 => ?_) (fun q5 => ?_)
        · refine B_drop 3 (ls' := [.ref 0, .int y1, .int y2, .null, .null]) rfl ?_
          exact b_X12_isNoted_J44 h (fun qy1 qy2 => ih qy1 qy2) y1 y2
        · refine B_iconst dX12_isNoted_40 ic_1 ?_
          refine B_goto (tgt := 45) dX12_isNoted_41 (by decide) ?_
          refine B_drop 3 (ls' := [.ref 0, .int y1, .int y2, .null, .null]) rfl ?_
          exact b_X12_isNoted_J45 h (fun qy1 qy2 => ih qy1 qy2) y1 y2 true
def f_X12_isNoted (x1 : Int32) (h : dH) : Option (Bool) :=
  f_X12_isNoted_L2 h dFu x1 0
set_option maxRecDepth 20000 in
set_option maxHeartbeats 4000000 in
theorem t_X12_isNoted (x1 : Int32) (h : dH) : T XM 1 yX12_isNoted cX12_isNoted 5 (some .boolean) (fiB h) [.ref 0, .int x1] h (f_X12_isNoted x1 h) := by
  refine T_of [.ref 0, .int x1, .null, .null, .null] (by decide) (fun _ => rfl) (fun _ => Nat.le_of_ble_eq_true rfl) ?_
  show B XM 1 RX12 cX12_isNoted 5 (some .boolean) (fiB h) 0 [.ref 0, .int x1, .null, .null, .null] [] h (f_X12_isNoted x1 h)
  unfold f_X12_isNoted
  refine B_iconst dX12_isNoted_0 ic_0 ?_
  refine B_istore_n (ls' := [.ref 0, .int x1, .int 0, .null, .null]) dX12_isNoted_1 rfl (Nat.le_of_ble_eq_true rfl) rfl rfl ?_
  exact b_X12_isNoted_L2 h dFu x1 0
def f_X12_roundAt_J64 (kL7 : Int32 → Int32 → Int32 → Int32 → Option (Int32)) (kL16 : Int32 → Int32 → Int32 → Int32 → Int32 → Option (Int32)) (y1 : Int32) (y2 : Int32) (y3 : Int32) (y4 : Int32) (y5 : Int32) (h : dH) : Option (Int32) :=
  kL16 y1 y2 y3 y4 (y5 + 1)
set_option maxRecDepth 20000 in
set_option maxHeartbeats 4000000 in
theorem b_X12_roundAt_J64 {kL7 : Int32 → Int32 → Int32 → Int32 → Option (Int32)} {kL16 : Int32 → Int32 → Int32 → Int32 → Int32 → Option (Int32)} (h : dH) (hkL7 : ∀ (y1 : Int32) (y2 : Int32) (y3 : Int32) (y4 : Int32), B XM 2 RX12 cX12_roundAt 6 (some .int) (fiP h) 7 [.ref 0, .int y1, .int y2, .int y3, .int y4, .null] [] h (kL7 y1 y2 y3 y4)) (hkL16 : ∀ (y1 : Int32) (y2 : Int32) (y3 : Int32) (y4 : Int32) (y5 : Int32), B XM 2 RX12 cX12_roundAt 6 (some .int) (fiP h) 16 [.ref 0, .int y1, .int y2, .int y3, .int y4, .int y5] [] h (kL16 y1 y2 y3 y4 y5)) (y1 : Int32) (y2 : Int32) (y3 : Int32) (y4 : Int32) (y5 : Int32) : B XM 2 RX12 cX12_roundAt 6 (some .int) (fiP h) 64 [.ref 0, .int y1, .int y2, .int y3, .int y4, .int y5] [] h (f_X12_roundAt_J64 kL7 kL16 y1 y2 y3 y4 y5 h) := by
  unfold f_X12_roundAt_J64
  refine B_iinc (w := (y5 + 1)) (ls' := [.ref 0, .int y1, .int y2, .int y3, .int y4, .int (y5 + 1)]) dX12_roundAt_64 rfl (congrArg (fun z => y5 + z) ic_1) (Nat.le_of_ble_eq_true rfl) rfl rfl ?_
  refine B_goto (tgt := 16) dX12_roundAt_67 (by decide) ?_
  exact hkL16 y1 y2 y3 y4 (y5 + 1)  
def f_X12_roundAt_L16 (kL7 : Int32 → Int32 → Int32 → Int32 → Option (Int32)) (h : dH) : Nat → Int32 → Int32 → Int32 → Int32 → Int32 → Option (Int32)
  | 0, _, _, _, _, _ => none
  | n + 1, y1, y2, y3, y4, y5 =>
    if y5 < (h.1 0 24) then
    (f_X12_of y5 2 h).bind fun v2 =>
    if v2 = y4 then
    (f_X12_between y3 y5 h).bind fun v3 =>
    if y5 = y1 then
    some (y2 + v3)
    else
    f_X12_roundAt_J64 kL7 (f_X12_roundAt_L16 kL7 h n) y1 ((y2 + v3) + 2) y5 y4 y5 h
    else
    f_X12_roundAt_J64 kL7 (f_X12_roundAt_L16 kL7 h n) y1 y2 y3 y4 y5 h
    else
    kL7 y1 y2 y3 (y4 + 1)
set_option maxRecDepth 20000 in
set_option maxHeartbeats 4000000 in
theorem b_X12_roundAt_L16 {kL7 : Int32 → Int32 → Int32 → Int32 → Option (Int32)} (h : dH) (hkL7 : ∀ (y1 : Int32) (y2 : Int32) (y3 : Int32) (y4 : Int32), B XM 2 RX12 cX12_roundAt 6 (some .int) (fiP h) 7 [.ref 0, .int y1, .int y2, .int y3, .int y4, .null] [] h (kL7 y1 y2 y3 y4)) : ∀ (n : Nat) (y1 : Int32) (y2 : Int32) (y3 : Int32) (y4 : Int32) (y5 : Int32), B XM 2 RX12 cX12_roundAt 6 (some .int) (fiP h) 16 [.ref 0, .int y1, .int y2, .int y3, .int y4, .int y5] [] h (f_X12_roundAt_L16 kL7 h n y1 y2 y3 y4 y5) := by
  intro n
  induction n with
  | zero =>
    intro y1 y2 y3 y4 y5
    exact B_none
  | succ n ih =>
    intro y1 y2 y3 y4 y5
    rw [f_X12_roundAt_L16]
    refine B_iload dX12_roundAt_16 rfl ?_
    refine B_aload_n dX12_roundAt_18 rfl rfl ?_
    refine B_getI dX12_roundAt_19 fl_X12_293 shM_0 rfl ?_
    refine C_icmp_ge (tgt := 70) dX12_roundAt_22 (by decide) (fun q6 => ?_) (fun q6 => ?_)
    · refine B_iinc (w := (y4 + 1)) (ls' := [.ref 0, .int y1, .int y2, .int y3, .int (y4 + 1), .int y5]) dX12_roundAt_70 rfl (congrArg (fun z => y4 + z) ic_1) (Nat.le_of_ble_eq_true rfl) rfl rfl ?_
      refine B_goto (tgt := 7) dX12_roundAt_73 (by decide) ?_
      refine B_drop 5 (ls' := [.ref 0, .int y1, .int y2, .int y3, .int (y4 + 1), .null]) rfl ?_
      exact hkL7 y1 y2 y3 (y4 + 1)  
    · refine B_aload_n dX12_roundAt_25 rfl rfl ?_
      refine B_iload dX12_roundAt_26 rfl ?_
      refine B_iconst dX12_roundAt_28 ic_2 ?_
      refine B_Vp (st := []) dX12_roundAt_29 cl_X12_305 (t_X12_of y5 2 h) (Nat.le_of_ble_eq_true rfl) shM_0 rfl rfl (Nat.le_of_ble_eq_true rfl) (fun v2 _ => ?_)
      refine B_iload dX12_roundAt_32 rfl ?_
      refine C_icmp_eq (tgt := 40) dX12_roundAt_34 (by decide) (fun q5 => ?_) (fun q5 => ?_)
      · refine B_iload_n dX12_roundAt_40 rfl rfl ?_
        refine B_aload_n dX12_roundAt_41 rfl rfl ?_
        refine B_iload_n dX12_roundAt_42 rfl rfl ?_
        refine B_iload dX12_roundAt_43 rfl ?_
        refine B_Vp (st := [.int y2]) dX12_roundAt_45 cl_X12_315 (t_X12_between y3 y5 h) (Nat.le_of_ble_eq_true rfl) shM_0 rfl rfl (Nat.le_of_ble_eq_true rfl) (fun v3 _ => ?_)
        refine B_iadd dX12_roundAt_48 ?_
        refine B_istore_n (ls' := [.ref 0, .int y1, .int (y2 + v3), .int y3, .int y4, .int y5]) dX12_roundAt_49 rfl (Nat.le_of_ble_eq_true rfl) rfl rfl ?_
        refine B_iload dX12_roundAt_50 rfl ?_
        refine B_iload_n dX12_roundAt_52 rfl rfl ?_
        refine C_icmp_ne (tgt := 58) dX12_roundAt_53 (by decide) (fun q4 => ?_) (fun q4 => ?_)
        · refine B_iinc (w := ((y2 + v3) + 2)) (ls' := [.ref 0, .int y1, .int ((y2 + v3) + 2), .int y3, .int y4, .int y5]) dX12_roundAt_58 rfl (congrArg (fun z => (y2 + v3) + z) ic_2) (Nat.le_of_ble_eq_true rfl) rfl rfl ?_
          refine B_iload dX12_roundAt_61 rfl ?_
          refine B_istore_n (ls' := [.ref 0, .int y1, .int ((y2 + v3) + 2), .int y5, .int y4, .int y5]) dX12_roundAt_63 rfl (Nat.le_of_ble_eq_true rfl) rfl rfl ?_
          exact b_X12_roundAt_J64 h hkL7 (fun qy1 qy2 qy3 qy4 qy5 => ih qy1 qy2 qy3 qy4 qy5) y1 ((y2 + v3) + 2) y5 y4 y5
        · refine B_iload_n dX12_roundAt_56 rfl rfl ?_
          exact B_ireturn dX12_roundAt_57 rfl rfl
      · refine B_goto (tgt := 64) dX12_roundAt_37 (by decide) ?_
        exact b_X12_roundAt_J64 h hkL7 (fun qy1 qy2 qy3 qy4 qy5 => ih qy1 qy2 qy3 qy4 qy5) y1 y2 y3 y4 y5
def f_X12_roundAt_L7 (h : dH) : Nat → Int32 → Int32 → Int32 → Int32 → Option (Int32)
  | 0, _, _, _, _ => none
  | n + 1, y1, y2, y3, y4 =>
    if y4 < 4 then
    f_X12_roundAt_L16 (f_X12_roundAt_L7 h n) h dFu y1 y2 y3 y4 0
    else
    some (-1)
set_option maxRecDepth 20000 in
set_option maxHeartbeats 4000000 in
theorem b_X12_roundAt_L7 (h : dH) : ∀ (n : Nat) (y1 : Int32) (y2 : Int32) (y3 : Int32) (y4 : Int32), B XM 2 RX12 cX12_roundAt 6 (some .int) (fiP h) 7 [.ref 0, .int y1, .int y2, .int y3, .int y4, .null] [] h (f_X12_roundAt_L7 h n y1 y2 y3 y4) := by
  intro n
  induction n with
  | zero =>
    intro y1 y2 y3 y4
    exact B_none
  | succ n ih =>
    intro y1 y2 y3 y4
    rw [f_X12_roundAt_L7]
    refine B_iload dX12_roundAt_7 rfl ?_
    refine B_iconst dX12_roundAt_9 ic_4 ?_
    refine C_icmp_ge (tgt := 76) dX12_roundAt_10 (by decide) (fun q1 => ?_) (fun q1 => ?_)
    · refine B_iconst dX12_roundAt_76 ic_m1 ?_
      exact B_ireturn dX12_roundAt_77 rfl rfl
    · refine B_iconst dX12_roundAt_13 ic_0 ?_
      refine B_istore (ls' := [.ref 0, .int y1, .int y2, .int y3, .int y4, .int 0]) dX12_roundAt_14 (Nat.le_of_ble_eq_true rfl) rfl rfl ?_
      exact b_X12_roundAt_L16 h (fun qy1 qy2 qy3 qy4 => ih qy1 qy2 qy3 qy4) dFu y1 y2 y3 y4 0
def f_X12_roundAt (x1 : Int32) (h : dH) : Option (Int32) :=
  f_X12_roundAt_L7 h dFu x1 0 (-1) 0
set_option maxRecDepth 20000 in
set_option maxHeartbeats 4000000 in
theorem t_X12_roundAt (x1 : Int32) (h : dH) : T XM 2 yX12_roundAt cX12_roundAt 6 (some .int) (fiP h) [.ref 0, .int x1] h (f_X12_roundAt x1 h) := by
  refine T_of [.ref 0, .int x1, .null, .null, .null, .null] (by decide) (fun _ => rfl) (fun _ => Nat.le_of_ble_eq_true rfl) ?_
  show B XM 2 RX12 cX12_roundAt 6 (some .int) (fiP h) 0 [.ref 0, .int x1, .null, .null, .null, .null] [] h (f_X12_roundAt x1 h)
  unfold f_X12_roundAt
  refine B_iconst dX12_roundAt_0 ic_0 ?_
  refine B_istore_n (ls' := [.ref 0, .int x1, .int 0, .null, .null, .null]) dX12_roundAt_1 rfl (Nat.le_of_ble_eq_true rfl) rfl rfl ?_
  refine B_iconst dX12_roundAt_2 ic_m1 ?_
  refine B_istore_n (ls' := [.ref 0, .int x1, .int 0, .int (-1), .null, .null]) dX12_roundAt_3 rfl (Nat.le_of_ble_eq_true rfl) rfl rfl ?_
  refine B_iconst dX12_roundAt_4 ic_0 ?_
  refine B_istore (ls' := [.ref 0, .int x1, .int 0, .int (-1), .int 0, .null]) dX12_roundAt_5 (Nat.le_of_ble_eq_true rfl) rfl rfl ?_
  exact b_X12_roundAt_L7 h dFu x1 0 (-1) 0
def f_X12_round (x1 : Int32) (h : dH) : Option (Int32 × dH) :=
  (some (dPut h 0 0 0)).bind fun h1 =>
  if (f_X12_isPlace x1 h1) then
  (f_X12_roundAt x1 h1).bind fun v2 =>
  some (v2, h1)
  else
  some ((-1), h1)
set_option maxRecDepth 20000 in
set_option maxHeartbeats 4000000 in
theorem t_X12_round (x1 : Int32) (h : dH) : T XM 3 yX12_round cX12_round 2 (some .int) fiI [.ref 0, .int x1] h (f_X12_round x1 h) := by
  refine T_of [.ref 0, .int x1] (by decide) (fun _ => rfl) (fun _ => Nat.le_of_ble_eq_true rfl) ?_
  show B XM 3 RX12 cX12_round 2 (some .int) fiI 0 [.ref 0, .int x1] [] h (f_X12_round x1 h)
  unfold f_X12_round
  refine B_aload_n dX12_round_0 rfl rfl ?_
  refine B_iconst dX12_round_1 ic_0 ?_
  refine B_putI dX12_round_2 fl_X12_103 fw_X12_0 shM_0 rfl ?_
  refine B_lh (fun h1 => ?_)
  refine B_aload_n dX12_round_5 rfl rfl ?_
  refine B_iload_n dX12_round_6 rfl rfl ?_
  refine B_VTb (st := []) dX12_round_7 cl_X12_339 (t_X12_isPlace x1 h1) (Nat.le_of_ble_eq_true rfl) shM_0 rfl rfl (Nat.le_of_ble_eq_true rfl) ?_
  refine C_ifb_eq (tgt := 21) dX12_round_10 (by decide) (fun q3 => ?_) (fun q3 => ?_)
  · refine B_iconst dX12_round_21 ic_m1 ?_
    exact B_ireturn dX12_round_22 rfl rfl
  · refine B_aload_n dX12_round_13 rfl rfl ?_
    refine B_iload_n dX12_round_14 rfl rfl ?_
    refine B_Vp (st := []) dX12_round_15 cl_X12_463 (t_X12_roundAt x1 h1) (Nat.le_of_ble_eq_true rfl) shM_0 rfl rfl (Nat.le_of_ble_eq_true rfl) (fun v2 _ => ?_)
    refine B_goto (tgt := 22) dX12_round_18 (by decide) ?_
    exact B_ireturn dX12_round_22 rfl rfl
def f_X12_laysRow_L35 : Nat → Int32 → Int32 → Int32 → dH → Option (Bool × dH)
  | 0, _, _, _, _ => none
  | n + 1, y3, y4, y5, h =>
    if y5 < 0 then
    if y3 = 0 then
    some (true, h)
    else
    some (false, h)
    else
    (some ((y3 - y3 / 10 * 10))).bind fun v5 =>
    if (f_X12_isPlace v5 h) then
    if (f_X12_has y4 v5 h) then
    some (false, h)
    else
    (some ((y4 ||| (1 <<< (v5 &&& 31))))).bind fun v6 =>
    if dIn y5 7 then
    (some (dPut h 22 (dI y5) v5)).bind fun h8 =>
    (f_X12_laysRow_L35 n) (y3 / 10) v6 (y5 + (-1)) h8
    else none
    else
    some (false, h)
set_option maxRecDepth 20000 in
set_option maxHeartbeats 4000000 in
theorem b_X12_laysRow_L35 : ∀ (n : Nat) (y3 : Int32) (y4 : Int32) (y5 : Int32) (h : dH), B XM 1 RX12 cX12_laysRow 7 (some .boolean) fiC 35 [.ref 0, .null, .null, .int y3, .int y4, .int y5, .null] [] h (f_X12_laysRow_L35 n y3 y4 y5 h) := by
  intro n
  induction n with
  | zero =>
    intro y3 y4 y5 h
    exact B_none
  | succ n ih =>
    intro y3 y4 y5 h
    rw [f_X12_laysRow_L35]
    refine B_iload dX12_laysRow_35 rfl ?_
    refine C_if_lt (tgt := 96) dX12_laysRow_37 (by decide) (fun q11 => ?_) (fun q11 => ?_)
    · refine B_iload_n dX12_laysRow_96 rfl rfl ?_
      refine C_if_ne (tgt := 104) dX12_laysRow_97 (by decide) (fun q4 => ?_) (fun q4 => ?_)
      · refine B_iconst dX12_laysRow_104 ic_0 ?_
        exact B_zreturn dX12_laysRow_105 rfl rfl rfl
      · refine B_iconst dX12_laysRow_100 ic_1 ?_
        refine B_goto (tgt := 105) dX12_laysRow_101 (by decide) ?_
        exact B_zreturn dX12_laysRow_105 rfl rfl rfl
    · refine B_iload_n dX12_laysRow_40 rfl rfl ?_
      refine B_bipush dX12_laysRow_41 bp_10 ?_
      refine B_irem dX12_laysRow_43 (by decide) ?_
      refine B_lv (fun v5 => ?_)
      refine B_istore (ls' := [.ref 0, .null, .null, .int y3, .int y4, .int y5, .int v5]) dX12_laysRow_44 (Nat.le_of_ble_eq_true rfl) rfl rfl ?_
      refine B_iload_n dX12_laysRow_46 rfl rfl ?_
      refine B_bipush dX12_laysRow_47 bp_10 ?_
      refine B_idiv dX12_laysRow_49 (by decide) ?_
      refine B_istore_n (ls' := [.ref 0, .null, .null, .int (y3 / 10), .int y4, .int y5, .int v5]) dX12_laysRow_50 rfl (Nat.le_of_ble_eq_true rfl) rfl rfl ?_
      refine B_aload_n dX12_laysRow_51 rfl rfl ?_
      refine B_iload dX12_laysRow_52 rfl ?_
      refine B_VTb (st := []) dX12_laysRow_54 cl_X12_339 (t_X12_isPlace v5 h) (Nat.le_of_ble_eq_true rfl) shM_0 rfl rfl (Nat.le_of_ble_eq_true rfl) ?_
      refine C_ifb_eq (tgt := 70) dX12_laysRow_57 (by decide) (fun q10 => ?_) (fun q10 => ?_)
      · refine B_iconst dX12_laysRow_70 ic_0 ?_
        exact B_zreturn dX12_laysRow_71 rfl rfl rfl
      · refine B_iload dX12_laysRow_60 rfl ?_
        refine B_iload dX12_laysRow_62 rfl ?_
        refine B_STb (st := []) dX12_laysRow_64 cl_X12_236 (t_X12_has y4 v5 h) (Nat.le_of_ble_eq_true rfl) rfl rfl (Nat.le_of_ble_eq_true rfl) ?_
        refine C_ifb_eq (tgt := 72) dX12_laysRow_67 (by decide) (fun q9 => ?_) (fun q9 => ?_)
        · refine B_iload dX12_laysRow_72 rfl ?_
          refine B_iconst dX12_laysRow_74 ic_1 ?_
          refine B_iload dX12_laysRow_75 rfl ?_
          refine B_ishl dX12_laysRow_77 ?_
          refine B_ior dX12_laysRow_78 ?_
          refine B_lv (fun v6 => ?_)
          refine B_istore (ls' := [.ref 0, .null, .null, .int (y3 / 10), .int v6, .int y5, .int v5]) dX12_laysRow_79 (Nat.le_of_ble_eq_true rfl) rfl rfl ?_
          refine B_aload_n dX12_laysRow_81 rfl rfl ?_
          refine B_getR dX12_laysRow_82 fl_X12_97 shM_0 rfl (rfM_0_52 _) ?_
          refine B_iload dX12_laysRow_85 rfl ?_
          refine B_iload dX12_laysRow_87 rfl ?_
          refine C_chk (fun q7 => ?_)
          refine L_iast dX12_laysRow_89 shM_22 q7 rfl ?_
          refine B_lh (fun h8 => ?_)
          refine B_iinc (w := (y5 + (-1))) (ls' := [.ref 0, .null, .null, .int (y3 / 10), .int v6, .int (y5 + (-1)), .int v5]) dX12_laysRow_90 rfl (congrArg (fun z => y5 + z) ic_m1) (Nat.le_of_ble_eq_true rfl) rfl rfl ?_
          refine B_goto (tgt := 35) dX12_laysRow_93 (by decide) ?_
          refine B_drop 6 (ls' := [.ref 0, .null, .null, .int (y3 / 10), .int v6, .int (y5 + (-1)), .null]) rfl ?_
          exact ih (y3 / 10) v6 (y5 + (-1))  h8
        · refine B_iconst dX12_laysRow_70 ic_0 ?_
          exact B_zreturn dX12_laysRow_71 rfl rfl rfl
def f_X12_laysRow (x1 : Int32) (x2 : Int32) (h : dH) : Option (Bool × dH) :=
  if (h.1 0 24) = 0 then
  some (false, h)
  else
  if (f_X12_isIn ((x2 : Int32).toInt64) 1 7 h) then
  if x1 < 0 then
  some (false, h)
  else
  f_X12_laysRow_L35 dFu x1 0 (x2 - 1) h
  else
  some (false, h)
set_option maxRecDepth 20000 in
set_option maxHeartbeats 4000000 in
theorem t_X12_laysRow (x1 : Int32) (x2 : Int32) (h : dH) : T XM 1 yX12_laysRow cX12_laysRow 7 (some .boolean) fiC [.ref 0, .int x1, .int x2] h (f_X12_laysRow x1 x2 h) := by
  refine T_of [.ref 0, .int x1, .int x2, .null, .null, .null, .null] (by decide) (fun _ => rfl) (fun _ => Nat.le_of_ble_eq_true rfl) ?_
  show B XM 1 RX12 cX12_laysRow 7 (some .boolean) fiC 0 [.ref 0, .int x1, .int x2, .null, .null, .null, .null] [] h (f_X12_laysRow x1 x2 h)
  unfold f_X12_laysRow
  refine B_aload_n dX12_laysRow_0 rfl rfl ?_
  refine B_getI dX12_laysRow_1 fl_X12_293 shM_0 rfl ?_
  refine C_if_eq (tgt := 23) dX12_laysRow_4 (by decide) (fun q3 => ?_) (fun q3 => ?_)
  · refine B_iconst dX12_laysRow_23 ic_0 ?_
    exact B_zreturn dX12_laysRow_24 rfl rfl rfl
  · refine B_iload_n dX12_laysRow_7 rfl rfl ?_
    refine B_i2l dX12_laysRow_8 ?_
    refine B_lconst (v := 1) dX12_laysRow_9 (by decide) ?_
    refine B_ldc2 dX12_laysRow_10 kc_X12_466 ?_
    refine B_STb (st := []) dX12_laysRow_13 cl_X12_224 (t_X12_isIn ((x2 : Int32).toInt64) 1 7 h) (Nat.le_of_ble_eq_true rfl) rfl rfl (Nat.le_of_ble_eq_true rfl) ?_
    refine C_ifb_eq (tgt := 23) dX12_laysRow_16 (by decide) (fun q2 => ?_) (fun q2 => ?_)
    · refine B_iconst dX12_laysRow_23 ic_0 ?_
      exact B_zreturn dX12_laysRow_24 rfl rfl rfl
    · refine B_iload_n dX12_laysRow_19 rfl rfl ?_
      refine C_if_ge (tgt := 25) dX12_laysRow_20 (by decide) (fun q1 => ?_) (fun q1 => ?_)
      · refine B_iload_n dX12_laysRow_25 rfl rfl ?_
        refine B_istore_n (ls' := [.ref 0, .int x1, .int x2, .int x1, .null, .null, .null]) dX12_laysRow_26 rfl (Nat.le_of_ble_eq_true rfl) rfl rfl ?_
        refine B_iconst dX12_laysRow_27 ic_0 ?_
        refine B_istore (ls' := [.ref 0, .int x1, .int x2, .int x1, .int 0, .null, .null]) dX12_laysRow_28 (Nat.le_of_ble_eq_true rfl) rfl rfl ?_
        refine B_iload_n dX12_laysRow_30 rfl rfl ?_
        refine B_iconst dX12_laysRow_31 ic_1 ?_
        refine B_isub dX12_laysRow_32 ?_
        refine B_istore (ls' := [.ref 0, .int x1, .int x2, .int x1, .int 0, .int (x2 - 1), .null]) dX12_laysRow_33 (Nat.le_of_ble_eq_true rfl) rfl rfl ?_
        refine B_drop 1 (ls' := [.ref 0, .null, .int x2, .int x1, .int 0, .int (x2 - 1), .null]) rfl ?_
        refine B_drop 2 (ls' := [.ref 0, .null, .null, .int x1, .int 0, .int (x2 - 1), .null]) rfl ?_
        exact b_X12_laysRow_L35 dFu x1 0 (x2 - 1) h
      · refine B_iconst dX12_laysRow_23 ic_0 ?_
        exact B_zreturn dX12_laysRow_24 rfl rfl rfl
def f_X12_isGame (x1 : Int32) (x2 : Int32) (h : dH) : Bool :=
  if (f_X12_isPlace x1 h) then
  if (f_X12_isPlace x2 h) then
  if x1 = x2 then
  false
  else
  true
  else
  false
  else
  false
set_option maxRecDepth 20000 in
set_option maxHeartbeats 4000000 in
theorem t_X12_isGame (x1 : Int32) (x2 : Int32) (h : dH) : T XM 1 yX12_isGame cX12_isGame 3 (some .boolean) (fiB h) [.ref 0, .int x1, .int x2] h (some (f_X12_isGame x1 x2 h)) := by
  refine T_of [.ref 0, .int x1, .int x2] (by decide) (fun _ => rfl) (fun _ => Nat.le_of_ble_eq_true rfl) ?_
  show B XM 1 RX12 cX12_isGame 3 (some .boolean) (fiB h) 0 [.ref 0, .int x1, .int x2] [] h (some (f_X12_isGame x1 x2 h))
  unfold f_X12_isGame
  refine B_aload_n dX12_isGame_0 rfl rfl ?_
  refine B_iload_n dX12_isGame_1 rfl rfl ?_
  refine B_VTb (st := []) dX12_isGame_2 cl_X12_339 (t_X12_isPlace x1 h) (Nat.le_of_ble_eq_true rfl) shM_0 rfl rfl (Nat.le_of_ble_eq_true rfl) ?_
  refine C_some ?_
  refine C_ifb_eq (tgt := 25) dX12_isGame_5 (by decide) (fun q3 => ?_) (fun q3 => ?_)
  · refine B_iconst dX12_isGame_25 ic_0 ?_
    exact B_zreturn dX12_isGame_26 rfl rfl rfl
  · refine B_aload_n dX12_isGame_8 rfl rfl ?_
    refine B_iload_n dX12_isGame_9 rfl rfl ?_
    refine B_VTb (st := []) dX12_isGame_10 cl_X12_339 (t_X12_isPlace x2 h) (Nat.le_of_ble_eq_true rfl) shM_0 rfl rfl (Nat.le_of_ble_eq_true rfl) ?_
    refine C_some ?_
    refine C_ifb_eq (tgt := 25) dX12_isGame_13 (by decide) (fun q2 => ?_) (fun q2 => ?_)
    · refine B_iconst dX12_isGame_25 ic_0 ?_
      exact B_zreturn dX12_isGame_26 rfl rfl rfl
    · refine B_iload_n dX12_isGame_16 rfl rfl ?_
      refine B_iload_n dX12_isGame_17 rfl rfl ?_
      refine C_some ?_
      refine C_icmp_eq (tgt := 25) dX12_isGame_18 (by decide) (fun q1 => ?_) (fun q1 => ?_)
      · refine B_iconst dX12_isGame_25 ic_0 ?_
        exact B_zreturn dX12_isGame_26 rfl rfl rfl
      · refine B_iconst dX12_isGame_21 ic_1 ?_
        refine B_goto (tgt := 26) dX12_isGame_22 (by decide) ?_
        exact B_zreturn dX12_isGame_26 rfl rfl rfl
def f_X12_isFirst (x1 : Int32) (x2 : Int32) (x3 : Int32) (x4 : Int32) (h : dH) : Option (Bool) :=
  (f_X12_of x1 3 h).bind fun v1 =>
  (f_X12_of x2 3 h).bind fun v2 =>
  (some ((((v1 + x3) - v2) - x4))).bind fun v3 =>
  if v3 = 0 then
  (f_X12_far 11 x2 h).bind fun v4 =>
  (f_X12_far 11 x1 h).bind fun v5 =>
  if (v4 - v5) = 0 then
  if x1 < x2 then
  some true
  else
  some false
  else
  if 0 < (v4 - v5) then
  some true
  else
  some false
  else
  if 0 < v3 then
  some true
  else
  some false
set_option maxRecDepth 20000 in
set_option maxHeartbeats 4000000 in
theorem t_X12_isFirst (x1 : Int32) (x2 : Int32) (x3 : Int32) (x4 : Int32) (h : dH) : T XM 3 yX12_isFirst cX12_isFirst 7 (some .boolean) (fiB h) [.ref 0, .int x1, .int x2, .int x3, .int x4] h (f_X12_isFirst x1 x2 x3 x4 h) := by
  refine T_of [.ref 0, .int x1, .int x2, .int x3, .int x4, .null, .null] (by decide) (fun _ => rfl) (fun _ => Nat.le_of_ble_eq_true rfl) ?_
  show B XM 3 RX12 cX12_isFirst 7 (some .boolean) (fiB h) 0 [.ref 0, .int x1, .int x2, .int x3, .int x4, .null, .null] [] h (f_X12_isFirst x1 x2 x3 x4 h)
  unfold f_X12_isFirst
  refine B_aload_n dX12_isFirst_0 rfl rfl ?_
  refine B_iload_n dX12_isFirst_1 rfl rfl ?_
  refine B_iconst dX12_isFirst_2 ic_3 ?_
  refine B_Vp (st := []) dX12_isFirst_3 cl_X12_305 (t_X12_of x1 3 h) (Nat.le_of_ble_eq_true rfl) shM_0 rfl rfl (Nat.le_of_ble_eq_true rfl) (fun v1 _ => ?_)
  refine B_iload_n dX12_isFirst_6 rfl rfl ?_
  refine B_iadd dX12_isFirst_7 ?_
  refine B_aload_n dX12_isFirst_8 rfl rfl ?_
  refine B_iload_n dX12_isFirst_9 rfl rfl ?_
  refine B_iconst dX12_isFirst_10 ic_3 ?_
  refine B_Vp (st := [.int (v1 + x3)]) dX12_isFirst_11 cl_X12_305 (t_X12_of x2 3 h) (Nat.le_of_ble_eq_true rfl) shM_0 rfl rfl (Nat.le_of_ble_eq_true rfl) (fun v2 _ => ?_)
  refine B_isub dX12_isFirst_14 ?_
  refine B_iload dX12_isFirst_15 rfl ?_
  refine B_isub dX12_isFirst_17 ?_
  refine B_lv (fun v3 => ?_)
  refine B_istore (ls' := [.ref 0, .int x1, .int x2, .int x3, .int x4, .int v3, .null]) dX12_isFirst_18 (Nat.le_of_ble_eq_true rfl) rfl rfl ?_
  refine B_iload dX12_isFirst_20 rfl ?_
  refine C_if_eq (tgt := 36) dX12_isFirst_22 (by decide) (fun q10 => ?_) (fun q10 => ?_)
  · refine B_aload_n dX12_isFirst_36 rfl rfl ?_
    refine B_aload_n dX12_isFirst_37 rfl rfl ?_
    refine B_getR dX12_isFirst_38 fl_X12_55 shM_0 rfl (rfM_0_28 _) ?_
    refine B_iload_n dX12_isFirst_41 rfl rfl ?_
    refine B_Vp (st := []) dX12_isFirst_42 cl_X12_328 (t_X12_far 11 shM_11 x2 h) (Nat.le_of_ble_eq_true rfl) shM_0 rfl rfl (Nat.le_of_ble_eq_true rfl) (fun v4 _ => ?_)
    refine B_aload_n dX12_isFirst_45 rfl rfl ?_
    refine B_aload_n dX12_isFirst_46 rfl rfl ?_
    refine B_getR dX12_isFirst_47 fl_X12_55 shM_0 rfl (rfM_0_28 _) ?_
    refine B_iload_n dX12_isFirst_50 rfl rfl ?_
    refine B_Vp (st := [.int v4]) dX12_isFirst_51 cl_X12_328 (t_X12_far 11 shM_11 x1 h) (Nat.le_of_ble_eq_true rfl) shM_0 rfl rfl (Nat.le_of_ble_eq_true rfl) (fun v5 _ => ?_)
    refine B_isub dX12_isFirst_54 ?_
    refine B_istore (ls' := [.ref 0, .int x1, .int x2, .int x3, .int x4, .int v3, .int (v4 - v5)]) dX12_isFirst_55 (Nat.le_of_ble_eq_true rfl) rfl rfl ?_
    refine B_iload dX12_isFirst_57 rfl ?_
    refine C_if_ne (tgt := 75) dX12_isFirst_59 (by decide) (fun q8 => ?_) (fun q8 => ?_)
    · refine B_iload dX12_isFirst_75 rfl ?_
      refine C_if_le (tgt := 84) dX12_isFirst_77 (by decide) (fun q6 => ?_) (fun q6 => ?_)
      · refine B_iconst dX12_isFirst_84 ic_0 ?_
        exact B_zreturn dX12_isFirst_85 rfl rfl rfl
      · refine B_iconst dX12_isFirst_80 ic_1 ?_
        refine B_goto (tgt := 85) dX12_isFirst_81 (by decide) ?_
        exact B_zreturn dX12_isFirst_85 rfl rfl rfl
    · refine B_iload_n dX12_isFirst_62 rfl rfl ?_
      refine B_iload_n dX12_isFirst_63 rfl rfl ?_
      refine C_icmp_ge (tgt := 71) dX12_isFirst_64 (by decide) (fun q7 => ?_) (fun q7 => ?_)
      · refine B_iconst dX12_isFirst_71 ic_0 ?_
        refine B_goto (tgt := 85) dX12_isFirst_72 (by decide) ?_
        exact B_zreturn dX12_isFirst_85 rfl rfl rfl
      · refine B_iconst dX12_isFirst_67 ic_1 ?_
        refine B_goto (tgt := 85) dX12_isFirst_68 (by decide) ?_
        exact B_zreturn dX12_isFirst_85 rfl rfl rfl
  · refine B_iload dX12_isFirst_25 rfl ?_
    refine C_if_le (tgt := 34) dX12_isFirst_27 (by decide) (fun q9 => ?_) (fun q9 => ?_)
    · refine B_iconst dX12_isFirst_34 ic_0 ?_
      exact B_zreturn dX12_isFirst_35 rfl rfl rfl
    · refine B_iconst dX12_isFirst_30 ic_1 ?_
      refine B_goto (tgt := 35) dX12_isFirst_31 (by decide) ?_
      exact B_zreturn dX12_isFirst_35 rfl rfl rfl
def f_X12_cost (x1 : Int32) (h : dH) : Option (Int32 × dH) :=
  (some (dPut h 0 0 0)).bind fun h1 =>
  if (f_X12_isPlace x1 h1) then
  (f_X12_far 11 x1 h1).bind fun v2 =>
  (f_X12_between (-1) x1 h1).bind fun v3 =>
  some ((v2 + v3), h1)
  else
  some ((-1), h1)
set_option maxRecDepth 20000 in
set_option maxHeartbeats 4000000 in
theorem t_X12_cost (x1 : Int32) (h : dH) : T XM 3 yX12_cost cX12_cost 2 (some .int) fiI [.ref 0, .int x1] h (f_X12_cost x1 h) := by
  refine T_of [.ref 0, .int x1] (by decide) (fun _ => rfl) (fun _ => Nat.le_of_ble_eq_true rfl) ?_
  show B XM 3 RX12 cX12_cost 2 (some .int) fiI 0 [.ref 0, .int x1] [] h (f_X12_cost x1 h)
  unfold f_X12_cost
  refine B_aload_n dX12_cost_0 rfl rfl ?_
  refine B_iconst dX12_cost_1 ic_0 ?_
  refine B_putI dX12_cost_2 fl_X12_103 fw_X12_0 shM_0 rfl ?_
  refine B_lh (fun h1 => ?_)
  refine B_aload_n dX12_cost_5 rfl rfl ?_
  refine B_iload_n dX12_cost_6 rfl rfl ?_
  refine B_VTb (st := []) dX12_cost_7 cl_X12_339 (t_X12_isPlace x1 h1) (Nat.le_of_ble_eq_true rfl) shM_0 rfl rfl (Nat.le_of_ble_eq_true rfl) ?_
  refine C_ifb_eq (tgt := 32) dX12_cost_10 (by decide) (fun q4 => ?_) (fun q4 => ?_)
  · refine B_iconst dX12_cost_32 ic_m1 ?_
    exact B_ireturn dX12_cost_33 rfl rfl
  · refine B_aload_n dX12_cost_13 rfl rfl ?_
    refine B_aload_n dX12_cost_14 rfl rfl ?_
    refine B_getR dX12_cost_15 fl_X12_55 shM_0 rfl (rfM_0_28 _) ?_
    refine B_iload_n dX12_cost_18 rfl rfl ?_
    refine B_Vp (st := []) dX12_cost_19 cl_X12_328 (t_X12_far 11 shM_11 x1 h1) (Nat.le_of_ble_eq_true rfl) shM_0 rfl rfl (Nat.le_of_ble_eq_true rfl) (fun v2 _ => ?_)
    refine B_aload_n dX12_cost_22 rfl rfl ?_
    refine B_iconst dX12_cost_23 ic_m1 ?_
    refine B_iload_n dX12_cost_24 rfl rfl ?_
    refine B_Vp (st := [.int v2]) dX12_cost_25 cl_X12_315 (t_X12_between (-1) x1 h1) (Nat.le_of_ble_eq_true rfl) shM_0 rfl rfl (Nat.le_of_ble_eq_true rfl) (fun v3 _ => ?_)
    refine B_iadd dX12_cost_28 ?_
    refine B_goto (tgt := 33) dX12_cost_29 (by decide) ?_
    exact B_ireturn dX12_cost_33 rfl rfl
def f_X12_valueOf (x1 : Int32) (x2 : Int32) (h : dH) : Option (Int32) :=
  if x1 = 2 then
  if dIn ((3 * x2) + 1) 209 then
  if dIn ((3 * x2) + 0) 209 then
  some ((h.1 11 (dI ((3 * x2) + 1))) - (h.1 11 (dI ((3 * x2) + 0))))
  else none
  else none
  else
  if x1 = 3 then
  if dIn ((3 * x2) + 0) 209 then
  some (h.1 11 (dI ((3 * x2) + 0)))
  else none
  else
  if x1 = 4 then
  (f_X12_of x2 3 h).bind fun v5 =>
  some v5
  else
  if x1 = 5 then
  (f_X12_between (-1) x2 h).bind fun v6 =>
  some v6
  else
  (f_X12_far 11 x2 h).bind fun v7 =>
  some (-v7)
set_option maxRecDepth 20000 in
set_option maxHeartbeats 4000000 in
theorem t_X12_valueOf (x1 : Int32) (x2 : Int32) (h : dH) : T XM 3 yX12_valueOf cX12_valueOf 3 (some .int) (fiP h) [.ref 0, .int x1, .int x2] h (f_X12_valueOf x1 x2 h) := by
  refine T_of [.ref 0, .int x1, .int x2] (by decide) (fun _ => rfl) (fun _ => Nat.le_of_ble_eq_true rfl) ?_
  show B XM 3 RX12 cX12_valueOf 3 (some .int) (fiP h) 0 [.ref 0, .int x1, .int x2] [] h (f_X12_valueOf x1 x2 h)
  unfold f_X12_valueOf
  refine B_iload_n dX12_valueOf_0 rfl rfl ?_
  refine C_ite (fun n1_2 => ?_) (fun n1_2 => ?_)
  · refine B_tswIn (tgt := 32) dX12_valueOf_1 (by rw [n1_2]; decide) (by rw [n1_2]; decide) (by rw [n1_2]; decide) (by decide) ?_
    refine B_aload_n dX12_valueOf_32 rfl rfl ?_
    refine B_getR dX12_valueOf_33 fl_X12_55 shM_0 rfl (rfM_0_28 _) ?_
    refine B_iconst dX12_valueOf_36 ic_3 ?_
    refine B_iload_n dX12_valueOf_37 rfl rfl ?_
    refine B_imul dX12_valueOf_38 ?_
    refine B_iconst dX12_valueOf_39 ic_1 ?_
    refine B_iadd dX12_valueOf_40 ?_
    refine C_chk (fun q2 => ?_)
    refine L_iald dX12_valueOf_41 shM_11 q2 rfl ?_
    refine B_aload_n dX12_valueOf_42 rfl rfl ?_
    refine B_getR dX12_valueOf_43 fl_X12_55 shM_0 rfl (rfM_0_28 _) ?_
    refine B_iconst dX12_valueOf_46 ic_3 ?_
    refine B_iload_n dX12_valueOf_47 rfl rfl ?_
    refine B_imul dX12_valueOf_48 ?_
    refine B_iconst dX12_valueOf_49 ic_0 ?_
    refine B_iadd dX12_valueOf_50 ?_
    refine C_chk (fun q3 => ?_)
    refine L_iald dX12_valueOf_51 shM_11 q3 rfl ?_
    refine B_isub dX12_valueOf_52 ?_
    exact B_ireturn dX12_valueOf_53 rfl rfl
  · refine C_ite (fun n1_3 => ?_) (fun n1_3 => ?_)
    · refine B_tswIn (tgt := 54) dX12_valueOf_1 (by rw [n1_3]; decide) (by rw [n1_3]; decide) (by rw [n1_3]; decide) (by decide) ?_
      refine B_aload_n dX12_valueOf_54 rfl rfl ?_
      refine B_getR dX12_valueOf_55 fl_X12_55 shM_0 rfl (rfM_0_28 _) ?_
      refine B_iconst dX12_valueOf_58 ic_3 ?_
      refine B_iload_n dX12_valueOf_59 rfl rfl ?_
      refine B_imul dX12_valueOf_60 ?_
      refine B_iconst dX12_valueOf_61 ic_0 ?_
      refine B_iadd dX12_valueOf_62 ?_
      refine C_chk (fun q4 => ?_)
      refine L_iald dX12_valueOf_63 shM_11 q4 rfl ?_
      exact B_ireturn dX12_valueOf_64 rfl rfl
    · refine C_ite (fun n1_4 => ?_) (fun n1_4 => ?_)
      · refine B_tswIn (tgt := 65) dX12_valueOf_1 (by rw [n1_4]; decide) (by rw [n1_4]; decide) (by rw [n1_4]; decide) (by decide) ?_
        refine B_aload_n dX12_valueOf_65 rfl rfl ?_
        refine B_iload_n dX12_valueOf_66 rfl rfl ?_
        refine B_iconst dX12_valueOf_67 ic_3 ?_
        refine B_Vp (st := []) dX12_valueOf_68 cl_X12_305 (t_X12_of x2 3 h) (Nat.le_of_ble_eq_true rfl) shM_0 rfl rfl (Nat.le_of_ble_eq_true rfl) (fun v5 _ => ?_)
        exact B_ireturn dX12_valueOf_71 rfl rfl
      · refine C_ite (fun n1_5 => ?_) (fun n1_5 => ?_)
        · refine B_tswIn (tgt := 72) dX12_valueOf_1 (by rw [n1_5]; decide) (by rw [n1_5]; decide) (by rw [n1_5]; decide) (by decide) ?_
          refine B_aload_n dX12_valueOf_72 rfl rfl ?_
          refine B_iconst dX12_valueOf_73 ic_m1 ?_
          refine B_iload_n dX12_valueOf_74 rfl rfl ?_
          refine B_Vp (st := []) dX12_valueOf_75 cl_X12_315 (t_X12_between (-1) x2 h) (Nat.le_of_ble_eq_true rfl) shM_0 rfl rfl (Nat.le_of_ble_eq_true rfl) (fun v6 _ => ?_)
          exact B_ireturn dX12_valueOf_78 rfl rfl
        · refine B_tswOut (tgt := 79) dX12_valueOf_1 (dsw (fun c h1 h2 => ?_)) (by decide) ?_
          · rcases (show c = 2 ∨ c = 3 ∨ c = 4 ∨ c = 5 by omega) with rfl | rfl | rfl | rfl
            · exact n1_2
            · exact n1_3
            · exact n1_4
            · exact n1_5
          · refine B_aload_n dX12_valueOf_79 rfl rfl ?_
            refine B_aload_n dX12_valueOf_80 rfl rfl ?_
            refine B_getR dX12_valueOf_81 fl_X12_55 shM_0 rfl (rfM_0_28 _) ?_
            refine B_iload_n dX12_valueOf_84 rfl rfl ?_
            refine B_Vp (st := []) dX12_valueOf_85 cl_X12_328 (t_X12_far 11 shM_11 x2 h) (Nat.le_of_ble_eq_true rfl) shM_0 rfl rfl (Nat.le_of_ble_eq_true rfl) (fun v7 _ => ?_)
            refine B_ineg dX12_valueOf_88 ?_
            exact B_ireturn dX12_valueOf_89 rfl rfl
def f_X12_greatest_J54 (kL4 : Int32 → Int32 → Int32 → Option (Int32)) (y1 : Int32) (y2 : Int32) (y3 : Int32) (h : dH) : Option (Int32) :=
  kL4 y1 y2 (y3 + 1)
set_option maxRecDepth 20000 in
set_option maxHeartbeats 4000000 in
theorem b_X12_greatest_J54 {kL4 : Int32 → Int32 → Int32 → Option (Int32)} (h : dH) (hkL4 : ∀ (y1 : Int32) (y2 : Int32) (y3 : Int32), B XM 4 RX12 cX12_greatest 4 (some .int) (fiP h) 4 [.ref 0, .int y1, .int y2, .int y3] [] h (kL4 y1 y2 y3)) (y1 : Int32) (y2 : Int32) (y3 : Int32) : B XM 4 RX12 cX12_greatest 4 (some .int) (fiP h) 54 [.ref 0, .int y1, .int y2, .int y3] [] h (f_X12_greatest_J54 kL4 y1 y2 y3 h) := by
  unfold f_X12_greatest_J54
  refine B_iinc (w := (y3 + 1)) (ls' := [.ref 0, .int y1, .int y2, .int (y3 + 1)]) dX12_greatest_54 rfl (congrArg (fun z => y3 + z) ic_1) (Nat.le_of_ble_eq_true rfl) rfl rfl ?_
  refine B_goto (tgt := 4) dX12_greatest_57 (by decide) ?_
  exact hkL4 y1 y2 (y3 + 1)  
def f_X12_greatest_J52 (kL4 : Int32 → Int32 → Int32 → Option (Int32)) (y1 : Int32) (y3 : Int32) (h : dH) : Option (Int32) :=
  f_X12_greatest_J54 kL4 y1 y3 y3 h
set_option maxRecDepth 20000 in
set_option maxHeartbeats 4000000 in
theorem b_X12_greatest_J52 {kL4 : Int32 → Int32 → Int32 → Option (Int32)} (h : dH) (hkL4 : ∀ (y1 : Int32) (y2 : Int32) (y3 : Int32), B XM 4 RX12 cX12_greatest 4 (some .int) (fiP h) 4 [.ref 0, .int y1, .int y2, .int y3] [] h (kL4 y1 y2 y3)) (y1 : Int32) (y3 : Int32) : B XM 4 RX12 cX12_greatest 4 (some .int) (fiP h) 52 [.ref 0, .int y1, .null, .int y3] [] h (f_X12_greatest_J52 kL4 y1 y3 h) := by
  unfold f_X12_greatest_J52
  refine B_iload_n dX12_greatest_52 rfl rfl ?_
  refine B_istore_n (ls' := [.ref 0, .int y1, .int y3, .int y3]) dX12_greatest_53 rfl (Nat.le_of_ble_eq_true rfl) rfl rfl ?_
  exact b_X12_greatest_J54 h hkL4 y1 y3 y3
def f_X12_greatest_J32 (kL4 : Int32 → Int32 → Int32 → Option (Int32)) (y1 : Int32) (y2 : Int32) (y3 : Int32) (h : dH) : Option (Int32) :=
  if y2 = (-1) then
  f_X12_greatest_J52 kL4 y1 y3 h
  else
  (f_X12_valueOf y1 y3 h).bind fun v4 =>
  (f_X12_valueOf y1 y2 h).bind fun v5 =>
  if v5 < v4 then
  f_X12_greatest_J52 kL4 y1 y3 h
  else
  f_X12_greatest_J54 kL4 y1 y2 y3 h
set_option maxRecDepth 20000 in
set_option maxHeartbeats 4000000 in
theorem b_X12_greatest_J32 {kL4 : Int32 → Int32 → Int32 → Option (Int32)} (h : dH) (hkL4 : ∀ (y1 : Int32) (y2 : Int32) (y3 : Int32), B XM 4 RX12 cX12_greatest 4 (some .int) (fiP h) 4 [.ref 0, .int y1, .int y2, .int y3] [] h (kL4 y1 y2 y3)) (y1 : Int32) (y2 : Int32) (y3 : Int32) : B XM 4 RX12 cX12_greatest 4 (some .int) (fiP h) 32 [.ref 0, .int y1, .int y2, .int y3] [] h (f_X12_greatest_J32 kL4 y1 y2 y3 h) := by
  unfold f_X12_greatest_J32
  refine B_iload_n dX12_greatest_32 rfl rfl ?_
  refine B_iconst dX12_greatest_33 ic_m1 ?_
  refine C_icmp_eq (tgt := 52) dX12_greatest_34 (by decide) (fun q7 => ?_) (fun q7 => ?_)
  · refine B_drop 2 (ls' := [.ref 0, .int y1, .null, .int y3]) rfl ?_
    exact b_X12_greatest_J52 h hkL4 y1 y3
  · refine B_aload_n dX12_greatest_37 rfl rfl ?_
    refine B_iload_n dX12_greatest_38 rfl rfl ?_
    refine B_iload_n dX12_greatest_39 rfl rfl ?_
    refine B_Vp (st := []) dX12_greatest_40 cl_X12_491 (t_X12_valueOf y1 y3 h) (Nat.le_of_ble_eq_true rfl) shM_0 rfl rfl (Nat.le_of_ble_eq_true rfl) (fun v4 _ => ?_)
    refine B_aload_n dX12_greatest_43 rfl rfl ?_
    refine B_iload_n dX12_greatest_44 rfl rfl ?_
    refine B_iload_n dX12_greatest_45 rfl rfl ?_
    refine B_Vp (st := [.int v4]) dX12_greatest_46 cl_X12_491 (t_X12_valueOf y1 y2 h) (Nat.le_of_ble_eq_true rfl) shM_0 rfl rfl (Nat.le_of_ble_eq_true rfl) (fun v5 _ => ?_)
    refine C_icmp_le (tgt := 54) dX12_greatest_49 (by decide) (fun q6 => ?_) (fun q6 => ?_)
    · exact b_X12_greatest_J54 h hkL4 y1 y2 y3
    · refine B_drop 2 (ls' := [.ref 0, .int y1, .null, .int y3]) rfl ?_
      exact b_X12_greatest_J52 h hkL4 y1 y3
def f_X12_greatest_L4 (h : dH) : Nat → Int32 → Int32 → Int32 → Option (Int32)
  | 0, _, _, _ => none
  | n + 1, y1, y2, y3 =>
    if y3 < (h.1 0 24) then
    if y1 = 6 then
    if y3 = (f_X12_where 11 h) then
    f_X12_greatest_J54 (f_X12_greatest_L4 h n) y1 y2 y3 h
    else
    f_X12_greatest_J32 (f_X12_greatest_L4 h n) y1 y2 y3 h
    else
    f_X12_greatest_J32 (f_X12_greatest_L4 h n) y1 y2 y3 h
    else
    some y2
set_option maxRecDepth 20000 in
set_option maxHeartbeats 4000000 in
theorem b_X12_greatest_L4 (h : dH) : ∀ (n : Nat) (y1 : Int32) (y2 : Int32) (y3 : Int32), B XM 4 RX12 cX12_greatest 4 (some .int) (fiP h) 4 [.ref 0, .int y1, .int y2, .int y3] [] h (f_X12_greatest_L4 h n y1 y2 y3) := by
  intro n
  induction n with
  | zero =>
    intro y1 y2 y3
    exact B_none
  | succ n ih =>
    intro y1 y2 y3
    rw [f_X12_greatest_L4]
    refine B_iload_n dX12_greatest_4 rfl rfl ?_
    refine B_aload_n dX12_greatest_5 rfl rfl ?_
    refine B_getI dX12_greatest_6 fl_X12_293 shM_0 rfl ?_
    refine C_icmp_ge (tgt := 60) dX12_greatest_9 (by decide) (fun q3 => ?_) (fun q3 => ?_)
    · refine B_iload_n dX12_greatest_60 rfl rfl ?_
      exact B_ireturn dX12_greatest_61 rfl rfl
    · refine B_iload_n dX12_greatest_12 rfl rfl ?_
      refine B_bipush dX12_greatest_13 bp_6 ?_
      refine C_icmp_ne (tgt := 32) dX12_greatest_15 (by decide) (fun q2 => ?_) (fun q2 => ?_)
      · exact b_X12_greatest_J32 h (fun qy1 qy2 qy3 => ih qy1 qy2 qy3) y1 y2 y3
      · refine B_iload_n dX12_greatest_18 rfl rfl ?_
        refine B_aload_n dX12_greatest_19 rfl rfl ?_
        refine B_getR dX12_greatest_20 fl_X12_55 shM_0 rfl (rfM_0_28 _) ?_
        refine B_St (st := [.int y3]) dX12_greatest_23 cl_X12_311 (t_X12_where 11 shM_11 h) (Nat.le_of_ble_eq_true rfl) rfl rfl (Nat.le_of_ble_eq_true rfl) ?_
        refine C_icmp_ne (tgt := 32) dX12_greatest_26 (by decide) (fun q1 => ?_) (fun q1 => ?_)
        · exact b_X12_greatest_J32 h (fun qy1 qy2 qy3 => ih qy1 qy2 qy3) y1 y2 y3
        · refine B_goto (tgt := 54) dX12_greatest_29 (by decide) ?_
          exact b_X12_greatest_J54 h (fun qy1 qy2 qy3 => ih qy1 qy2 qy3) y1 y2 y3
def f_X12_greatest (x1 : Int32) (h : dH) : Option (Int32) :=
  f_X12_greatest_L4 h dFu x1 (-1) 0
set_option maxRecDepth 20000 in
set_option maxHeartbeats 4000000 in
theorem t_X12_greatest (x1 : Int32) (h : dH) : T XM 4 yX12_greatest cX12_greatest 4 (some .int) (fiP h) [.ref 0, .int x1] h (f_X12_greatest x1 h) := by
  refine T_of [.ref 0, .int x1, .null, .null] (by decide) (fun _ => rfl) (fun _ => Nat.le_of_ble_eq_true rfl) ?_
  show B XM 4 RX12 cX12_greatest 4 (some .int) (fiP h) 0 [.ref 0, .int x1, .null, .null] [] h (f_X12_greatest x1 h)
  unfold f_X12_greatest
  refine B_iconst dX12_greatest_0 ic_m1 ?_
  refine B_istore_n (ls' := [.ref 0, .int x1, .int (-1), .null]) dX12_greatest_1 rfl (Nat.le_of_ble_eq_true rfl) rfl rfl ?_
  refine B_iconst dX12_greatest_2 ic_0 ?_
  refine B_istore_n (ls' := [.ref 0, .int x1, .int (-1), .int 0]) dX12_greatest_3 rfl (Nat.le_of_ble_eq_true rfl) rfl rfl ?_
  exact b_X12_greatest_L4 h dFu x1 (-1) 0
def f_X12_reach_J32 (kL4 : Int32 → Int32 → Option (Int32)) (y2 : Int32) (z0 : Int32) (z1 : Int32) (h : dH) : Option (Int32) :=
  (some ((z0 ||| z1))).bind fun v4 =>
  kL4 v4 (y2 + 1)
set_option maxRecDepth 20000 in
set_option maxHeartbeats 4000000 in
theorem b_X12_reach_J32 {kL4 : Int32 → Int32 → Option (Int32)} (h : dH) (hkL4 : ∀ (y1 : Int32) (y2 : Int32), B XM 4 RX12 cX12_reach 3 (some .int) (fiP h) 4 [.ref 0, .int y1, .int y2] [] h (kL4 y1 y2)) (y2 : Int32) (z0 : Int32) (z1 : Int32) : B XM 4 RX12 cX12_reach 3 (some .int) (fiP h) 32 [.ref 0, .null, .int y2] [.int z1, .int z0] h (f_X12_reach_J32 kL4 y2 z0 z1 h) := by
  unfold f_X12_reach_J32
  refine B_ior dX12_reach_32 ?_
  refine B_lv (fun v4 => ?_)
  refine B_istore_n (ls' := [.ref 0, .int v4, .int y2]) dX12_reach_33 rfl (Nat.le_of_ble_eq_true rfl) rfl rfl ?_
  refine B_iinc (w := (y2 + 1)) (ls' := [.ref 0, .int v4, .int (y2 + 1)]) dX12_reach_34 rfl (congrArg (fun z => y2 + z) ic_1) (Nat.le_of_ble_eq_true rfl) rfl rfl ?_
  refine B_goto (tgt := 4) dX12_reach_37 (by decide) ?_
  exact hkL4 v4 (y2 + 1)  
def f_X12_reach_L4 (h : dH) : Nat → Int32 → Int32 → Option (Int32)
  | 0, _, _ => none
  | n + 1, y1, y2 =>
    if y2 < (h.1 0 24) then
    (f_X12_canWalk 11 y2 h).bind fun v1 =>
    if v1 then
    f_X12_reach_J32 (f_X12_reach_L4 h n) y2 y1 (1 <<< (y2 &&& 31)) h
    else
    f_X12_reach_J32 (f_X12_reach_L4 h n) y2 y1 0 h
    else
    some y1
set_option maxRecDepth 20000 in
set_option maxHeartbeats 4000000 in
theorem b_X12_reach_L4 (h : dH) : ∀ (n : Nat) (y1 : Int32) (y2 : Int32), B XM 4 RX12 cX12_reach 3 (some .int) (fiP h) 4 [.ref 0, .int y1, .int y2] [] h (f_X12_reach_L4 h n y1 y2) := by
  intro n
  induction n with
  | zero =>
    intro y1 y2
    exact B_none
  | succ n ih =>
    intro y1 y2
    rw [f_X12_reach_L4]
    refine B_iload_n dX12_reach_4 rfl rfl ?_
    refine B_aload_n dX12_reach_5 rfl rfl ?_
    refine B_getI dX12_reach_6 fl_X12_293 shM_0 rfl ?_
    refine C_icmp_ge (tgt := 40) dX12_reach_9 (by decide) (fun q3 => ?_) (fun q3 => ?_)
    · refine B_iload_n dX12_reach_40 rfl rfl ?_
      exact B_ireturn dX12_reach_41 rfl rfl
    · refine B_iload_n dX12_reach_12 rfl rfl ?_
      refine B_aload_n dX12_reach_13 rfl rfl ?_
      refine B_aload_n dX12_reach_14 rfl rfl ?_
      refine B_getR dX12_reach_15 fl_X12_55 shM_0 rfl (rfM_0_28 _) ?_
      refine B_iload_n dX12_reach_18 rfl rfl ?_
      refine B_Vpb (st := [.int y1]) dX12_reach_19 cl_X12_353 (t_X12_canWalk 11 shM_11 y2 h) (Nat.le_of_ble_eq_true rfl) shM_0 rfl rfl (Nat.le_of_ble_eq_true rfl) (fun v1 _ => ?_)
      refine C_ifb_eq (tgt := 31) dX12_reach_22 (by decide) (fun q2 => ?_) (fun q2 => ?_)
      · refine B_iconst dX12_reach_31 ic_0 ?_
        refine B_drop 1 (ls' := [.ref 0, .null, .int y2]) rfl ?_
        exact b_X12_reach_J32 h (fun qy1 qy2 => ih qy1 qy2) y2 y1 0
      · refine B_iconst dX12_reach_25 ic_1 ?_
        refine B_iload_n dX12_reach_26 rfl rfl ?_
        refine B_ishl dX12_reach_27 ?_
        refine B_goto (tgt := 32) dX12_reach_28 (by decide) ?_
        refine B_drop 1 (ls' := [.ref 0, .null, .int y2]) rfl ?_
        exact b_X12_reach_J32 h (fun qy1 qy2 => ih qy1 qy2) y2 y1 (1 <<< (y2 &&& 31))
def f_X12_reach (h : dH) : Option (Int32) :=
  f_X12_reach_L4 h dFu 0 0
set_option maxRecDepth 20000 in
set_option maxHeartbeats 4000000 in
theorem t_X12_reach (h : dH) : T XM 4 yX12_reach cX12_reach 3 (some .int) (fiP h) [.ref 0] h (f_X12_reach h) := by
  refine T_of [.ref 0, .null, .null] (by decide) (fun _ => rfl) (fun _ => Nat.le_of_ble_eq_true rfl) ?_
  show B XM 4 RX12 cX12_reach 3 (some .int) (fiP h) 0 [.ref 0, .null, .null] [] h (f_X12_reach h)
  unfold f_X12_reach
  refine B_iconst dX12_reach_0 ic_0 ?_
  refine B_istore_n (ls' := [.ref 0, .int 0, .null]) dX12_reach_1 rfl (Nat.le_of_ble_eq_true rfl) rfl rfl ?_
  refine B_iconst dX12_reach_2 ic_0 ?_
  refine B_istore_n (ls' := [.ref 0, .int 0, .int 0]) dX12_reach_3 rfl (Nat.le_of_ble_eq_true rfl) rfl rfl ?_
  exact b_X12_reach_L4 h dFu 0 0
def f_X12_spread_L14 (kL4 : Int32 → Int32 → Option (Int32)) (h : dH) : Nat → Int32 → Int32 → Int32 → Option (Int32)
  | 0, _, _, _ => none
  | n + 1, y1, y2, y3 =>
    if y3 < y2 then
    (f_X12_between y2 y3 h).bind fun v2 =>
    (some ((jmax y1 v2))).bind fun v3 =>
    (f_X12_spread_L14 kL4 h n) v3 y2 (y3 + 1)
    else
    kL4 y1 (y2 + 1)
set_option maxRecDepth 20000 in
set_option maxHeartbeats 4000000 in
theorem b_X12_spread_L14 {kL4 : Int32 → Int32 → Option (Int32)} (h : dH) (hkL4 : ∀ (y1 : Int32) (y2 : Int32), B XM 2 RX12 cX12_spread 4 (some .int) (fiP h) 4 [.ref 0, .int y1, .int y2, .null] [] h (kL4 y1 y2)) : ∀ (n : Nat) (y1 : Int32) (y2 : Int32) (y3 : Int32), B XM 2 RX12 cX12_spread 4 (some .int) (fiP h) 14 [.ref 0, .int y1, .int y2, .int y3] [] h (f_X12_spread_L14 kL4 h n y1 y2 y3) := by
  intro n
  induction n with
  | zero =>
    intro y1 y2 y3
    exact B_none
  | succ n ih =>
    intro y1 y2 y3
    rw [f_X12_spread_L14]
    refine B_iload_n dX12_spread_14 rfl rfl ?_
    refine B_iload_n dX12_spread_15 rfl rfl ?_
    refine C_icmp_ge (tgt := 36) dX12_spread_16 (by decide) (fun q4 => ?_) (fun q4 => ?_)
    · refine B_iinc (w := (y2 + 1)) (ls' := [.ref 0, .int y1, .int (y2 + 1), .int y3]) dX12_spread_36 rfl (congrArg (fun z => y2 + z) ic_1) (Nat.le_of_ble_eq_true rfl) rfl rfl ?_
      refine B_goto (tgt := 4) dX12_spread_39 (by decide) ?_
      refine B_drop 3 (ls' := [.ref 0, .int y1, .int (y2 + 1), .null]) rfl ?_
      exact hkL4 y1 (y2 + 1)  
    · refine B_iload_n dX12_spread_19 rfl rfl ?_
      refine B_aload_n dX12_spread_20 rfl rfl ?_
      refine B_iload_n dX12_spread_21 rfl rfl ?_
      refine B_iload_n dX12_spread_22 rfl rfl ?_
      refine B_Vp (st := [.int y1]) dX12_spread_23 cl_X12_315 (t_X12_between y2 y3 h) (Nat.le_of_ble_eq_true rfl) shM_0 rfl rfl (Nat.le_of_ble_eq_true rfl) (fun v2 _ => ?_)
      refine B_mmax dX12_spread_26 mt_X12_337 (Nat.le_of_ble_eq_true rfl) (Nat.le_of_ble_eq_true rfl) ?_
      refine B_lv (fun v3 => ?_)
      refine B_istore_n (ls' := [.ref 0, .int v3, .int y2, .int y3]) dX12_spread_29 rfl (Nat.le_of_ble_eq_true rfl) rfl rfl ?_
      refine B_iinc (w := (y3 + 1)) (ls' := [.ref 0, .int v3, .int y2, .int (y3 + 1)]) dX12_spread_30 rfl (congrArg (fun z => y3 + z) ic_1) (Nat.le_of_ble_eq_true rfl) rfl rfl ?_
      refine B_goto (tgt := 14) dX12_spread_33 (by decide) ?_
      exact ih v3 y2 (y3 + 1)  
def f_X12_spread_L4 (h : dH) : Nat → Int32 → Int32 → Option (Int32)
  | 0, _, _ => none
  | n + 1, y1, y2 =>
    if y2 < (h.1 0 24) then
    f_X12_spread_L14 (f_X12_spread_L4 h n) h dFu y1 y2 0
    else
    some y1
set_option maxRecDepth 20000 in
set_option maxHeartbeats 4000000 in
theorem b_X12_spread_L4 (h : dH) : ∀ (n : Nat) (y1 : Int32) (y2 : Int32), B XM 2 RX12 cX12_spread 4 (some .int) (fiP h) 4 [.ref 0, .int y1, .int y2, .null] [] h (f_X12_spread_L4 h n y1 y2) := by
  intro n
  induction n with
  | zero =>
    intro y1 y2
    exact B_none
  | succ n ih =>
    intro y1 y2
    rw [f_X12_spread_L4]
    refine B_iload_n dX12_spread_4 rfl rfl ?_
    refine B_aload_n dX12_spread_5 rfl rfl ?_
    refine B_getI dX12_spread_6 fl_X12_293 shM_0 rfl ?_
    refine C_icmp_ge (tgt := 42) dX12_spread_9 (by decide) (fun q1 => ?_) (fun q1 => ?_)
    · refine B_iload_n dX12_spread_42 rfl rfl ?_
      exact B_ireturn dX12_spread_43 rfl rfl
    · refine B_iconst dX12_spread_12 ic_0 ?_
      refine B_istore_n (ls' := [.ref 0, .int y1, .int y2, .int 0]) dX12_spread_13 rfl (Nat.le_of_ble_eq_true rfl) rfl rfl ?_
      exact b_X12_spread_L14 h (fun qy1 qy2 => ih qy1 qy2) dFu y1 y2 0
def f_X12_spread (h : dH) : Option (Int32) :=
  f_X12_spread_L4 h dFu 0 0
set_option maxRecDepth 20000 in
set_option maxHeartbeats 4000000 in
theorem t_X12_spread (h : dH) : T XM 2 yX12_spread cX12_spread 4 (some .int) (fiP h) [.ref 0] h (f_X12_spread h) := by
  refine T_of [.ref 0, .null, .null, .null] (by decide) (fun _ => rfl) (fun _ => Nat.le_of_ble_eq_true rfl) ?_
  show B XM 2 RX12 cX12_spread 4 (some .int) (fiP h) 0 [.ref 0, .null, .null, .null] [] h (f_X12_spread h)
  unfold f_X12_spread
  refine B_iconst dX12_spread_0 ic_0 ?_
  refine B_istore_n (ls' := [.ref 0, .int 0, .null, .null]) dX12_spread_1 rfl (Nat.le_of_ble_eq_true rfl) rfl rfl ?_
  refine B_iconst dX12_spread_2 ic_0 ?_
  refine B_istore_n (ls' := [.ref 0, .int 0, .int 0, .null]) dX12_spread_3 rfl (Nat.le_of_ble_eq_true rfl) rfl rfl ?_
  exact b_X12_spread_L4 h dFu 0 0
def f_X12_all (x1 : Int32) (h : dH) : Option (Int32 × dH) :=
  (some (dPut h 0 0 0)).bind fun h1 =>
  if (h1.1 0 24) = 0 then
  some ((-1), h1)
  else
  if x1 = 0 then
  some ((h1.1 11 26), h1)
  else
  if x1 = 1 then
  (f_X12_tooMuch 11 h1).bind fun v3 =>
  some (v3, h1)
  else
  if x1 = 2 then
  (f_X12_greatest x1 h1).bind fun v4 =>
  some (v4, h1)
  else
  if x1 = 3 then
  (f_X12_greatest x1 h1).bind fun v5 =>
  some (v5, h1)
  else
  if x1 = 4 then
  (f_X12_greatest x1 h1).bind fun v6 =>
  some (v6, h1)
  else
  if x1 = 5 then
  (f_X12_greatest x1 h1).bind fun v7 =>
  some (v7, h1)
  else
  if x1 = 6 then
  (f_X12_greatest x1 h1).bind fun v8 =>
  some (v8, h1)
  else
  if x1 = 7 then
  (f_X12_reach h1).bind fun v9 =>
  some (v9, h1)
  else
  if x1 = 8 then
  some (((h1.1 5 0) - (h1.1 11 22)), h1)
  else
  if x1 = 9 then
  (f_X12_spread h1).bind fun v10 =>
  some (v10, h1)
  else
  some ((-1), h1)
set_option maxRecDepth 20000 in
set_option maxHeartbeats 4000000 in
theorem t_X12_all (x1 : Int32) (h : dH) : T XM 5 yX12_all cX12_all 2 (some .int) fiI [.ref 0, .int x1] h (f_X12_all x1 h) := by
  refine T_of [.ref 0, .int x1] (by decide) (fun _ => rfl) (fun _ => Nat.le_of_ble_eq_true rfl) ?_
  show B XM 5 RX12 cX12_all 2 (some .int) fiI 0 [.ref 0, .int x1] [] h (f_X12_all x1 h)
  unfold f_X12_all
  refine B_aload_n dX12_all_0 rfl rfl ?_
  refine B_iconst dX12_all_1 ic_0 ?_
  refine B_putI dX12_all_2 fl_X12_103 fw_X12_0 shM_0 rfl ?_
  refine B_lh (fun h1 => ?_)
  refine B_aload_n dX12_all_5 rfl rfl ?_
  refine B_getI dX12_all_6 fl_X12_293 shM_0 rfl ?_
  refine C_if_ne (tgt := 14) dX12_all_9 (by decide) (fun q11 => ?_) (fun q11 => ?_)
  · refine B_iload_n dX12_all_14 rfl rfl ?_
    refine C_ite (fun n2_0 => ?_) (fun n2_0 => ?_)
    · refine B_tswIn (tgt := 68) dX12_all_15 (by rw [n2_0]; decide) (by rw [n2_0]; decide) (by rw [n2_0]; decide) (by decide) ?_
      refine B_aload_n dX12_all_68 rfl rfl ?_
      refine B_getR dX12_all_69 fl_X12_55 shM_0 rfl (rfM_0_28 _) ?_
      refine B_bipush dX12_all_72 bp_26 ?_
      refine L_iald dX12_all_74 shM_11 (by decide) di_26 ?_
      exact B_ireturn dX12_all_75 rfl rfl
    · refine C_ite (fun n2_1 => ?_) (fun n2_1 => ?_)
      · refine B_tswIn (tgt := 76) dX12_all_15 (by rw [n2_1]; decide) (by rw [n2_1]; decide) (by rw [n2_1]; decide) (by decide) ?_
        refine B_aload_n dX12_all_76 rfl rfl ?_
        refine B_aload_n dX12_all_77 rfl rfl ?_
        refine B_getR dX12_all_78 fl_X12_55 shM_0 rfl (rfM_0_28 _) ?_
        refine B_Vp (st := []) dX12_all_81 cl_X12_346 (t_X12_tooMuch 11 shM_11 h1) (Nat.le_of_ble_eq_true rfl) shM_0 rfl rfl (Nat.le_of_ble_eq_true rfl) (fun v3 _ => ?_)
        exact B_ireturn dX12_all_84 rfl rfl
      · refine C_ite (fun n2_2 => ?_) (fun n2_2 => ?_)
        · refine B_tswIn (tgt := 85) dX12_all_15 (by rw [n2_2]; decide) (by rw [n2_2]; decide) (by rw [n2_2]; decide) (by decide) ?_
          refine B_aload_n dX12_all_85 rfl rfl ?_
          refine B_iload_n dX12_all_86 rfl rfl ?_
          refine B_Vp (st := []) dX12_all_87 cl_X12_494 (t_X12_greatest x1 h1) (Nat.le_of_ble_eq_true rfl) shM_0 rfl rfl (Nat.le_of_ble_eq_true rfl) (fun v4 _ => ?_)
          exact B_ireturn dX12_all_90 rfl rfl
        · refine C_ite (fun n2_3 => ?_) (fun n2_3 => ?_)
          · refine B_tswIn (tgt := 85) dX12_all_15 (by rw [n2_3]; decide) (by rw [n2_3]; decide) (by rw [n2_3]; decide) (by decide) ?_
            refine B_aload_n dX12_all_85 rfl rfl ?_
            refine B_iload_n dX12_all_86 rfl rfl ?_
            refine B_Vp (st := []) dX12_all_87 cl_X12_494 (t_X12_greatest x1 h1) (Nat.le_of_ble_eq_true rfl) shM_0 rfl rfl (Nat.le_of_ble_eq_true rfl) (fun v5 _ => ?_)
            exact B_ireturn dX12_all_90 rfl rfl
          · refine C_ite (fun n2_4 => ?_) (fun n2_4 => ?_)
            · refine B_tswIn (tgt := 85) dX12_all_15 (by rw [n2_4]; decide) (by rw [n2_4]; decide) (by rw [n2_4]; decide) (by decide) ?_
              refine B_aload_n dX12_all_85 rfl rfl ?_
              refine B_iload_n dX12_all_86 rfl rfl ?_
              refine B_Vp (st := []) dX12_all_87 cl_X12_494 (t_X12_greatest x1 h1) (Nat.le_of_ble_eq_true rfl) shM_0 rfl rfl (Nat.le_of_ble_eq_true rfl) (fun v6 _ => ?_)
              exact B_ireturn dX12_all_90 rfl rfl
            · refine C_ite (fun n2_5 => ?_) (fun n2_5 => ?_)
              · refine B_tswIn (tgt := 85) dX12_all_15 (by rw [n2_5]; decide) (by rw [n2_5]; decide) (by rw [n2_5]; decide) (by decide) ?_
                refine B_aload_n dX12_all_85 rfl rfl ?_
                refine B_iload_n dX12_all_86 rfl rfl ?_
                refine B_Vp (st := []) dX12_all_87 cl_X12_494 (t_X12_greatest x1 h1) (Nat.le_of_ble_eq_true rfl) shM_0 rfl rfl (Nat.le_of_ble_eq_true rfl) (fun v7 _ => ?_)
                exact B_ireturn dX12_all_90 rfl rfl
              · refine C_ite (fun n2_6 => ?_) (fun n2_6 => ?_)
                · refine B_tswIn (tgt := 85) dX12_all_15 (by rw [n2_6]; decide) (by rw [n2_6]; decide) (by rw [n2_6]; decide) (by decide) ?_
                  refine B_aload_n dX12_all_85 rfl rfl ?_
                  refine B_iload_n dX12_all_86 rfl rfl ?_
                  refine B_Vp (st := []) dX12_all_87 cl_X12_494 (t_X12_greatest x1 h1) (Nat.le_of_ble_eq_true rfl) shM_0 rfl rfl (Nat.le_of_ble_eq_true rfl) (fun v8 _ => ?_)
                  exact B_ireturn dX12_all_90 rfl rfl
                · refine C_ite (fun n2_7 => ?_) (fun n2_7 => ?_)
                  · refine B_tswIn (tgt := 91) dX12_all_15 (by rw [n2_7]; decide) (by rw [n2_7]; decide) (by rw [n2_7]; decide) (by decide) ?_
                    refine B_aload_n dX12_all_91 rfl rfl ?_
                    refine B_Vp (st := []) dX12_all_92 cl_X12_497 (t_X12_reach h1) (Nat.le_of_ble_eq_true rfl) shM_0 rfl rfl (Nat.le_of_ble_eq_true rfl) (fun v9 _ => ?_)
                    exact B_ireturn dX12_all_95 rfl rfl
                  · refine C_ite (fun n2_8 => ?_) (fun n2_8 => ?_)
                    · refine B_tswIn (tgt := 96) dX12_all_15 (by rw [n2_8]; decide) (by rw [n2_8]; decide) (by rw [n2_8]; decide) (by decide) ?_
                      refine B_aload_n dX12_all_96 rfl rfl ?_
                      refine B_getR dX12_all_97 fl_X12_37 shM_0 rfl (rfM_0_18 _) ?_
                      refine B_iconst dX12_all_100 ic_0 ?_
                      refine L_iald dX12_all_101 shM_5 (by decide) di_0 ?_
                      refine B_aload_n dX12_all_102 rfl rfl ?_
                      refine B_getR dX12_all_103 fl_X12_55 shM_0 rfl (rfM_0_28 _) ?_
                      refine B_bipush dX12_all_106 bp_22 ?_
                      refine L_iald dX12_all_108 shM_11 (by decide) di_22 ?_
                      refine B_isub dX12_all_109 ?_
                      exact B_ireturn dX12_all_110 rfl rfl
                    · refine C_ite (fun n2_9 => ?_) (fun n2_9 => ?_)
                      · refine B_tswIn (tgt := 111) dX12_all_15 (by rw [n2_9]; decide) (by rw [n2_9]; decide) (by rw [n2_9]; decide) (by decide) ?_
                        refine B_aload_n dX12_all_111 rfl rfl ?_
                        refine B_Vp (st := []) dX12_all_112 cl_X12_500 (t_X12_spread h1) (Nat.le_of_ble_eq_true rfl) shM_0 rfl rfl (Nat.le_of_ble_eq_true rfl) (fun v10 _ => ?_)
                        exact B_ireturn dX12_all_115 rfl rfl
                      · refine B_tswOut (tgt := 116) dX12_all_15 (dsw (fun c h1 h2 => ?_)) (by decide) ?_
                        · rcases (show c = 0 ∨ c = 1 ∨ c = 2 ∨ c = 3 ∨ c = 4 ∨ c = 5 ∨ c = 6 ∨ c = 7 ∨ c = 8 ∨ c = 9 by omega) with rfl | rfl | rfl | rfl | rfl | rfl | rfl | rfl | rfl | rfl
                          · exact n2_0
                          · exact n2_1
                          · exact n2_2
                          · exact n2_3
                          · exact n2_4
                          · exact n2_5
                          · exact n2_6
                          · exact n2_7
                          · exact n2_8
                          · exact n2_9
                        · refine B_iconst dX12_all_116 ic_m1 ?_
                          exact B_ireturn dX12_all_117 rfl rfl
  · refine B_iconst dX12_all_12 ic_m1 ?_
    exact B_ireturn dX12_all_13 rfl rfl
def f_X12_kinds_J56 (kL30 : Int32 → Int32 → Int32 → dH → Option (Int32 × dH)) (y1 : Int32) (y3 : Int32) (z0 : Int32) (z1 : Int32) (h : dH) : Option (Int32 × dH) :=
  (some ((z0 ||| z1))).bind fun v7 =>
  kL30 y1 v7 (y3 + 1) h
set_option maxRecDepth 20000 in
set_option maxHeartbeats 4000000 in
theorem b_X12_kinds_J56 {kL30 : Int32 → Int32 → Int32 → dH → Option (Int32 × dH)} (hkL30 : ∀ (y1 : Int32) (y2 : Int32) (y3 : Int32) (h : dH), B XM 1 RX12 cX12_kinds 4 (some .int) fiI 30 [.ref 0, .int y1, .int y2, .int y3] [] h (kL30 y1 y2 y3 h)) (y1 : Int32) (y3 : Int32) (z0 : Int32) (z1 : Int32) (h : dH) : B XM 1 RX12 cX12_kinds 4 (some .int) fiI 56 [.ref 0, .int y1, .null, .int y3] [.int z1, .int z0] h (f_X12_kinds_J56 kL30 y1 y3 z0 z1 h) := by
  unfold f_X12_kinds_J56
  refine B_ior dX12_kinds_56 ?_
  refine B_lv (fun v7 => ?_)
  refine B_istore_n (ls' := [.ref 0, .int y1, .int v7, .int y3]) dX12_kinds_57 rfl (Nat.le_of_ble_eq_true rfl) rfl rfl ?_
  refine B_iinc (w := (y3 + 1)) (ls' := [.ref 0, .int y1, .int v7, .int (y3 + 1)]) dX12_kinds_58 rfl (congrArg (fun z => y3 + z) ic_1) (Nat.le_of_ble_eq_true rfl) rfl rfl ?_
  refine B_goto (tgt := 30) dX12_kinds_61 (by decide) ?_
  exact hkL30 y1 v7 (y3 + 1)  h
def f_X12_kinds_L30 : Nat → Int32 → Int32 → Int32 → dH → Option (Int32 × dH)
  | 0, _, _, _, _ => none
  | n + 1, y1, y2, y3, h =>
    if y3 < (h.1 0 24) then
    (f_X12_of y3 2 h).bind fun v4 =>
    if v4 = y1 then
    f_X12_kinds_J56 (f_X12_kinds_L30 n) y1 y3 y2 (1 <<< (y3 &&& 31)) h
    else
    f_X12_kinds_J56 (f_X12_kinds_L30 n) y1 y3 y2 0 h
    else
    some (y2, h)
set_option maxRecDepth 20000 in
set_option maxHeartbeats 4000000 in
theorem b_X12_kinds_L30 : ∀ (n : Nat) (y1 : Int32) (y2 : Int32) (y3 : Int32) (h : dH), B XM 1 RX12 cX12_kinds 4 (some .int) fiI 30 [.ref 0, .int y1, .int y2, .int y3] [] h (f_X12_kinds_L30 n y1 y2 y3 h) := by
  intro n
  induction n with
  | zero =>
    intro y1 y2 y3 h
    exact B_none
  | succ n ih =>
    intro y1 y2 y3 h
    rw [f_X12_kinds_L30]
    refine B_iload_n dX12_kinds_30 rfl rfl ?_
    refine B_aload_n dX12_kinds_31 rfl rfl ?_
    refine B_getI dX12_kinds_32 fl_X12_293 shM_0 rfl ?_
    refine C_icmp_ge (tgt := 64) dX12_kinds_35 (by decide) (fun q6 => ?_) (fun q6 => ?_)
    · refine B_iload_n dX12_kinds_64 rfl rfl ?_
      exact B_ireturn dX12_kinds_65 rfl rfl
    · refine B_iload_n dX12_kinds_38 rfl rfl ?_
      refine B_aload_n dX12_kinds_39 rfl rfl ?_
      refine B_iload_n dX12_kinds_40 rfl rfl ?_
      refine B_iconst dX12_kinds_41 ic_2 ?_
      refine B_Vp (st := [.int y2]) dX12_kinds_42 cl_X12_305 (t_X12_of y3 2 h) (Nat.le_of_ble_eq_true rfl) shM_0 rfl rfl (Nat.le_of_ble_eq_true rfl) (fun v4 _ => ?_)
      refine B_iload_n dX12_kinds_45 rfl rfl ?_
      refine C_icmp_ne (tgt := 55) dX12_kinds_46 (by decide) (fun q5 => ?_) (fun q5 => ?_)
      · refine B_iconst dX12_kinds_55 ic_0 ?_
        refine B_drop 2 (ls' := [.ref 0, .int y1, .null, .int y3]) rfl ?_
        exact b_X12_kinds_J56 (fun qy1 qy2 qy3 qh => ih qy1 qy2 qy3 qh) y1 y3 y2 0 h
      · refine B_iconst dX12_kinds_49 ic_1 ?_
        refine B_iload_n dX12_kinds_50 rfl rfl ?_
        refine B_ishl dX12_kinds_51 ?_
        refine B_goto (tgt := 56) dX12_kinds_52 (by decide) ?_
        refine B_drop 2 (ls' := [.ref 0, .int y1, .null, .int y3]) rfl ?_
        exact b_X12_kinds_J56 (fun qy1 qy2 qy3 qh => ih qy1 qy2 qy3 qh) y1 y3 y2 (1 <<< (y3 &&& 31)) h
def f_X12_kinds (x1 : Int32) (h : dH) : Option (Int32 × dH) :=
  (some (dPut h 0 0 0)).bind fun h1 =>
  if (h1.1 0 24) = 0 then
  some ((-1), h1)
  else
  if (f_X12_isIn ((x1 : Int32).toInt64) 0 3 h1) then
  f_X12_kinds_L30 dFu x1 0 0 h1
  else
  some ((-1), h1)
set_option maxRecDepth 20000 in
set_option maxHeartbeats 4000000 in
theorem t_X12_kinds (x1 : Int32) (h : dH) : T XM 1 yX12_kinds cX12_kinds 4 (some .int) fiI [.ref 0, .int x1] h (f_X12_kinds x1 h) := by
  refine T_of [.ref 0, .int x1, .null, .null] (by decide) (fun _ => rfl) (fun _ => Nat.le_of_ble_eq_true rfl) ?_
  show B XM 1 RX12 cX12_kinds 4 (some .int) fiI 0 [.ref 0, .int x1, .null, .null] [] h (f_X12_kinds x1 h)
  unfold f_X12_kinds
  refine B_aload_n dX12_kinds_0 rfl rfl ?_
  refine B_iconst dX12_kinds_1 ic_0 ?_
  refine B_putI dX12_kinds_2 fl_X12_103 fw_X12_0 shM_0 rfl ?_
  refine B_lh (fun h1 => ?_)
  refine B_aload_n dX12_kinds_5 rfl rfl ?_
  refine B_getI dX12_kinds_6 fl_X12_293 shM_0 rfl ?_
  refine C_if_eq (tgt := 24) dX12_kinds_9 (by decide) (fun q3 => ?_) (fun q3 => ?_)
  · refine B_iconst dX12_kinds_24 ic_m1 ?_
    exact B_ireturn dX12_kinds_25 rfl rfl
  · refine B_iload_n dX12_kinds_12 rfl rfl ?_
    refine B_i2l dX12_kinds_13 ?_
    refine B_lconst (v := 0) dX12_kinds_14 (by decide) ?_
    refine B_ldc2 dX12_kinds_15 kc_X12_478 ?_
    refine B_STb (st := []) dX12_kinds_18 cl_X12_224 (t_X12_isIn ((x1 : Int32).toInt64) 0 3 h1) (Nat.le_of_ble_eq_true rfl) rfl rfl (Nat.le_of_ble_eq_true rfl) ?_
    refine C_ifb_ne (tgt := 26) dX12_kinds_21 (by decide) (fun q2 => ?_) (fun q2 => ?_)
    · refine B_iconst dX12_kinds_26 ic_0 ?_
      refine B_istore_n (ls' := [.ref 0, .int x1, .int 0, .null]) dX12_kinds_27 rfl (Nat.le_of_ble_eq_true rfl) rfl rfl ?_
      refine B_iconst dX12_kinds_28 ic_0 ?_
      refine B_istore_n (ls' := [.ref 0, .int x1, .int 0, .int 0]) dX12_kinds_29 rfl (Nat.le_of_ble_eq_true rfl) rfl rfl ?_
      exact b_X12_kinds_L30 dFu x1 0 0 h1
    · refine B_iconst dX12_kinds_24 ic_m1 ?_
      exact B_ireturn dX12_kinds_25 rfl rfl
def f_X12_calm_L17 : Nat → Int32 → Int32 → dH → Option (Int32 × dH)
  | 0, _, _, _ => none
  | n + 1, y1, y2, h =>
    if 60 < y2 then
    some ((-1), h)
    else
    if dIn ((3 * y1) + 0) 209 then
    if dIn ((3 * y1) + 1) 209 then
    if (h.1 11 (dI ((3 * y1) + 1))) < (jmax 0 ((h.1 11 (dI ((3 * y1) + 0))) - (y2 * (h.1 5 2)))) then
    (f_X12_calm_L17 n) y1 (y2 + 1) h
    else
    some (y2, h)
    else none
    else none
set_option maxRecDepth 20000 in
set_option maxHeartbeats 4000000 in
theorem b_X12_calm_L17 : ∀ (n : Nat) (y1 : Int32) (y2 : Int32) (h : dH), B XM 1 RX12 cX12_calm 3 (some .int) fiI 17 [.ref 0, .int y1, .int y2] [] h (f_X12_calm_L17 n y1 y2 h) := by
  intro n
  induction n with
  | zero =>
    intro y1 y2 h
    exact B_none
  | succ n ih =>
    intro y1 y2 h
    rw [f_X12_calm_L17]
    refine B_iload_n dX12_calm_17 rfl rfl ?_
    refine B_bipush dX12_calm_18 bp_60 ?_
    refine C_icmp_gt (tgt := 67) dX12_calm_20 (by decide) (fun q6 => ?_) (fun q6 => ?_)
    · refine B_iconst dX12_calm_67 ic_m1 ?_
      exact B_ireturn dX12_calm_68 rfl rfl
    · refine B_iconst dX12_calm_23 ic_0 ?_
      refine B_aload_n dX12_calm_24 rfl rfl ?_
      refine B_getR dX12_calm_25 fl_X12_55 shM_0 rfl (rfM_0_28 _) ?_
      refine B_iconst dX12_calm_28 ic_3 ?_
      refine B_iload_n dX12_calm_29 rfl rfl ?_
      refine B_imul dX12_calm_30 ?_
      refine B_iconst dX12_calm_31 ic_0 ?_
      refine B_iadd dX12_calm_32 ?_
      refine C_chk (fun q3 => ?_)
      refine L_iald dX12_calm_33 shM_11 q3 rfl ?_
      refine B_iload_n dX12_calm_34 rfl rfl ?_
      refine B_aload_n dX12_calm_35 rfl rfl ?_
      refine B_getR dX12_calm_36 fl_X12_37 shM_0 rfl (rfM_0_18 _) ?_
      refine B_iconst dX12_calm_39 ic_2 ?_
      refine L_iald dX12_calm_40 shM_5 (by decide) di_2 ?_
      refine B_imul dX12_calm_41 ?_
      refine B_isub dX12_calm_42 ?_
      refine B_mmax dX12_calm_43 mt_X12_337 (Nat.le_of_ble_eq_true rfl) (Nat.le_of_ble_eq_true rfl) ?_
      refine B_aload_n dX12_calm_46 rfl rfl ?_
      refine B_getR dX12_calm_47 fl_X12_55 shM_0 rfl (rfM_0_28 _) ?_
      refine B_iconst dX12_calm_50 ic_3 ?_
      refine B_iload_n dX12_calm_51 rfl rfl ?_
      refine B_imul dX12_calm_52 ?_
      refine B_iconst dX12_calm_53 ic_1 ?_
      refine B_iadd dX12_calm_54 ?_
      refine C_chk (fun q4 => ?_)
      refine L_iald dX12_calm_55 shM_11 q4 rfl ?_
      refine C_icmp_gt (tgt := 61) dX12_calm_56 (by decide) (fun q5 => ?_) (fun q5 => ?_)
      · refine B_iinc (w := (y2 + 1)) (ls' := [.ref 0, .int y1, .int (y2 + 1)]) dX12_calm_61 rfl (congrArg (fun z => y2 + z) ic_1) (Nat.le_of_ble_eq_true rfl) rfl rfl ?_
        refine B_goto (tgt := 17) dX12_calm_64 (by decide) ?_
        exact ih y1 (y2 + 1)  h
      · refine B_iload_n dX12_calm_59 rfl rfl ?_
        exact B_ireturn dX12_calm_60 rfl rfl
def f_X12_calm (x1 : Int32) (h : dH) : Option (Int32 × dH) :=
  (some (dPut h 0 0 0)).bind fun h1 =>
  if (f_X12_isPlace x1 h1) then
  f_X12_calm_L17 dFu x1 0 h1
  else
  some ((-1), h1)
set_option maxRecDepth 20000 in
set_option maxHeartbeats 4000000 in
theorem t_X12_calm (x1 : Int32) (h : dH) : T XM 1 yX12_calm cX12_calm 3 (some .int) fiI [.ref 0, .int x1] h (f_X12_calm x1 h) := by
  refine T_of [.ref 0, .int x1, .null] (by decide) (fun _ => rfl) (fun _ => Nat.le_of_ble_eq_true rfl) ?_
  show B XM 1 RX12 cX12_calm 3 (some .int) fiI 0 [.ref 0, .int x1, .null] [] h (f_X12_calm x1 h)
  unfold f_X12_calm
  refine B_aload_n dX12_calm_0 rfl rfl ?_
  refine B_iconst dX12_calm_1 ic_0 ?_
  refine B_putI dX12_calm_2 fl_X12_103 fw_X12_0 shM_0 rfl ?_
  refine B_lh (fun h1 => ?_)
  refine B_aload_n dX12_calm_5 rfl rfl ?_
  refine B_iload_n dX12_calm_6 rfl rfl ?_
  refine B_VTb (st := []) dX12_calm_7 cl_X12_339 (t_X12_isPlace x1 h1) (Nat.le_of_ble_eq_true rfl) shM_0 rfl rfl (Nat.le_of_ble_eq_true rfl) ?_
  refine C_ifb_ne (tgt := 15) dX12_calm_10 (by decide) (fun q2 => ?_) (fun q2 => ?_)
  · refine B_iconst dX12_calm_15 ic_0 ?_
    refine B_istore_n (ls' := [.ref 0, .int x1, .int 0]) dX12_calm_16 rfl (Nat.le_of_ble_eq_true rfl) rfl rfl ?_
    exact b_X12_calm_L17 dFu x1 0 h1
  · refine B_iconst dX12_calm_13 ic_m1 ?_
    exact B_ireturn dX12_calm_14 rfl rfl
def f_X12_image_L16 : Nat → Int32 → dH → Option (Int32 × dH)
  | 0, _, _ => none
  | n + 1, y1, h =>
    if y1 < 209 then
    if dIn y1 209 then
    if dIn y1 209 then
    (some (dPut h 23 (dI y1) (h.1 11 (dI y1)))).bind fun h5 =>
    (f_X12_image_L16 n) (y1 + 1) h5
    else none
    else none
    else
    some (((dPut h 0 54 1).1 11 27), (dPut h 0 54 1))
set_option maxRecDepth 20000 in
set_option maxHeartbeats 4000000 in
theorem b_X12_image_L16 : ∀ (n : Nat) (y1 : Int32) (h : dH), B XM 0 RX12 cX12_image 2 (some .int) fiI 16 [.ref 0, .int y1] [] h (f_X12_image_L16 n y1 h) := by
  intro n
  induction n with
  | zero =>
    intro y1 h
    exact B_none
  | succ n ih =>
    intro y1 h
    rw [f_X12_image_L16]
    refine B_iload_n dX12_image_16 rfl rfl ?_
    refine B_sipush dX12_image_17 sp_209 ?_
    refine C_icmp_ge (tgt := 41) dX12_image_20 (by decide) (fun q6 => ?_) (fun q6 => ?_)
    · refine B_aload_n dX12_image_41 rfl rfl ?_
      refine B_iconst dX12_image_42 ic_1 ?_
      refine B_putZ dX12_image_43 fl_X12_302 fw_X12_54 shM_0 rfl (Or.inr rfl) ?_
      refine B_aload_n dX12_image_46 rfl rfl ?_
      refine B_getR dX12_image_47 fl_X12_55 shM_0 rfl (rfM_0_28 _) ?_
      refine B_bipush dX12_image_50 bp_27 ?_
      refine L_iald dX12_image_52 shM_11 (by decide) di_27 ?_
      exact B_ireturn dX12_image_53 rfl rfl
    · refine B_aload_n dX12_image_23 rfl rfl ?_
      refine B_getR dX12_image_24 fl_X12_100 shM_0 rfl (rfM_0_53 _) ?_
      refine B_iload_n dX12_image_27 rfl rfl ?_
      refine B_aload_n dX12_image_28 rfl rfl ?_
      refine B_getR dX12_image_29 fl_X12_55 shM_0 rfl (rfM_0_28 _) ?_
      refine B_iload_n dX12_image_32 rfl rfl ?_
      refine C_chk (fun q3 => ?_)
      refine L_iald dX12_image_33 shM_11 q3 rfl ?_
      refine C_chk (fun q4 => ?_)
      refine L_iast dX12_image_34 shM_23 q4 rfl ?_
      refine B_lh (fun h5 => ?_)
      refine B_iinc (w := (y1 + 1)) (ls' := [.ref 0, .int (y1 + 1)]) dX12_image_35 rfl (congrArg (fun z => y1 + z) ic_1) (Nat.le_of_ble_eq_true rfl) rfl rfl ?_
      refine B_goto (tgt := 16) dX12_image_38 (by decide) ?_
      exact ih (y1 + 1)  h5
def f_X12_image (h : dH) : Option (Int32 × dH) :=
  (some (dPut h 0 0 0)).bind fun h1 =>
  if (h1.1 0 24) = 0 then
  some ((-1), h1)
  else
  f_X12_image_L16 dFu 0 h1
set_option maxRecDepth 20000 in
set_option maxHeartbeats 4000000 in
theorem t_X12_image (h : dH) : T XM 0 yX12_image cX12_image 2 (some .int) fiI [.ref 0] h (f_X12_image h) := by
  refine T_of [.ref 0, .null] (by decide) (fun _ => rfl) (fun _ => Nat.le_of_ble_eq_true rfl) ?_
  show B XM 0 RX12 cX12_image 2 (some .int) fiI 0 [.ref 0, .null] [] h (f_X12_image h)
  unfold f_X12_image
  refine B_aload_n dX12_image_0 rfl rfl ?_
  refine B_iconst dX12_image_1 ic_0 ?_
  refine B_putI dX12_image_2 fl_X12_103 fw_X12_0 shM_0 rfl ?_
  refine B_lh (fun h1 => ?_)
  refine B_aload_n dX12_image_5 rfl rfl ?_
  refine B_getI dX12_image_6 fl_X12_293 shM_0 rfl ?_
  refine C_if_ne (tgt := 14) dX12_image_9 (by decide) (fun q2 => ?_) (fun q2 => ?_)
  · refine B_iconst dX12_image_14 ic_0 ?_
    refine B_istore_n (ls' := [.ref 0, .int 0]) dX12_image_15 rfl (Nat.le_of_ble_eq_true rfl) rfl rfl ?_
    exact b_X12_image_L16 dFu 0 h1
  · refine B_iconst dX12_image_12 ic_m1 ?_
    exact B_ireturn dX12_image_13 rfl rfl
def f_X12_back_L16 : Nat → Int32 → dH → Option (Int32 × dH)
  | 0, _, _ => none
  | n + 1, y1, h =>
    if y1 < 209 then
    if dIn y1 209 then
    if dIn y1 209 then
    (some (dPut h 11 (dI y1) (h.1 23 (dI y1)))).bind fun h5 =>
    (f_X12_back_L16 n) (y1 + 1) h5
    else none
    else none
    else
    some (((dPut h 0 35 0).1 11 27), (dPut h 0 35 0))
set_option maxRecDepth 20000 in
set_option maxHeartbeats 4000000 in
theorem b_X12_back_L16 : ∀ (n : Nat) (y1 : Int32) (h : dH), B XM 0 RX12 cX12_back 2 (some .int) fiI 16 [.ref 0, .int y1] [] h (f_X12_back_L16 n y1 h) := by
  intro n
  induction n with
  | zero =>
    intro y1 h
    exact B_none
  | succ n ih =>
    intro y1 h
    rw [f_X12_back_L16]
    refine B_iload_n dX12_back_16 rfl rfl ?_
    refine B_sipush dX12_back_17 sp_209 ?_
    refine C_icmp_ge (tgt := 41) dX12_back_20 (by decide) (fun q6 => ?_) (fun q6 => ?_)
    · refine B_aload_n dX12_back_41 rfl rfl ?_
      refine B_iconst dX12_back_42 ic_0 ?_
      refine B_putI dX12_back_43 fl_X12_299 fw_X12_35 shM_0 rfl ?_
      refine B_aload_n dX12_back_46 rfl rfl ?_
      refine B_getR dX12_back_47 fl_X12_55 shM_0 rfl (rfM_0_28 _) ?_
      refine B_bipush dX12_back_50 bp_27 ?_
      refine L_iald dX12_back_52 shM_11 (by decide) di_27 ?_
      exact B_ireturn dX12_back_53 rfl rfl
    · refine B_aload_n dX12_back_23 rfl rfl ?_
      refine B_getR dX12_back_24 fl_X12_55 shM_0 rfl (rfM_0_28 _) ?_
      refine B_iload_n dX12_back_27 rfl rfl ?_
      refine B_aload_n dX12_back_28 rfl rfl ?_
      refine B_getR dX12_back_29 fl_X12_100 shM_0 rfl (rfM_0_53 _) ?_
      refine B_iload_n dX12_back_32 rfl rfl ?_
      refine C_chk (fun q3 => ?_)
      refine L_iald dX12_back_33 shM_23 q3 rfl ?_
      refine C_chk (fun q4 => ?_)
      refine L_iast dX12_back_34 shM_11 q4 rfl ?_
      refine B_lh (fun h5 => ?_)
      refine B_iinc (w := (y1 + 1)) (ls' := [.ref 0, .int (y1 + 1)]) dX12_back_35 rfl (congrArg (fun z => y1 + z) ic_1) (Nat.le_of_ble_eq_true rfl) rfl rfl ?_
      refine B_goto (tgt := 16) dX12_back_38 (by decide) ?_
      exact ih (y1 + 1)  h5
def f_X12_back (h : dH) : Option (Int32 × dH) :=
  (some (dPut h 0 0 0)).bind fun h1 =>
  if (h1.1 0 54) = 0 then
  some ((-1), h1)
  else
  f_X12_back_L16 dFu 0 h1
set_option maxRecDepth 20000 in
set_option maxHeartbeats 4000000 in
theorem t_X12_back (h : dH) : T XM 0 yX12_back cX12_back 2 (some .int) fiI [.ref 0] h (f_X12_back h) := by
  refine T_of [.ref 0, .null] (by decide) (fun _ => rfl) (fun _ => Nat.le_of_ble_eq_true rfl) ?_
  show B XM 0 RX12 cX12_back 2 (some .int) fiI 0 [.ref 0, .null] [] h (f_X12_back h)
  unfold f_X12_back
  refine B_aload_n dX12_back_0 rfl rfl ?_
  refine B_iconst dX12_back_1 ic_0 ?_
  refine B_putI dX12_back_2 fl_X12_103 fw_X12_0 shM_0 rfl ?_
  refine B_lh (fun h1 => ?_)
  refine B_aload_n dX12_back_5 rfl rfl ?_
  refine B_getZ dX12_back_6 fl_X12_302 shM_0 rfl ?_
  refine C_if_ne (tgt := 14) dX12_back_9 (by decide) (fun q2 => ?_) (fun q2 => ?_)
  · refine B_iconst dX12_back_14 ic_0 ?_
    refine B_istore_n (ls' := [.ref 0, .int 0]) dX12_back_15 rfl (Nat.le_of_ble_eq_true rfl) rfl rfl ?_
    exact b_X12_back_L16 dFu 0 h1
  · refine B_iconst dX12_back_12 ic_m1 ?_
    exact B_ireturn dX12_back_13 rfl rfl
def f_X12_count (x1 : Int32) (h : dH) : Option (Int32 × dH) :=
  (some (dPut h 0 0 0)).bind fun h1 =>
  if x1 = 0 then
  some ((h1.1 0 24), h1)
  else
  if x1 = 1 then
  some ((h1.1 0 7), h1)
  else
  if x1 = 2 then
  some ((h1.1 0 26), h1)
  else
  if x1 = 3 then
  some ((h1.1 0 6), h1)
  else
  if x1 = 4 then
  some ((h1.1 0 30), h1)
  else
  if x1 = 5 then
  some ((h1.1 11 27), h1)
  else
  if x1 = 6 then
  some ((h1.1 11 21), h1)
  else
  if x1 = 7 then
  some ((h1.1 11 22), h1)
  else
  if x1 = 8 then
  some ((f_X12_where 11 h1), h1)
  else
  if x1 = 9 then
  some ((h1.1 11 24), h1)
  else
  if x1 = 10 then
  some ((h1.1 11 25), h1)
  else
  if x1 = 11 then
  some ((h1.1 0 31), h1)
  else
  if x1 = 12 then
  some ((h1.1 0 47), h1)
  else
  if x1 = 13 then
  some ((h1.1 11 28), h1)
  else
  if x1 = 14 then
  some ((h1.1 0 35), h1)
  else
  some ((-1000000), h1)
set_option maxRecDepth 20000 in
set_option maxHeartbeats 4000000 in
theorem t_X12_count (x1 : Int32) (h : dH) : T XM 1 yX12_count cX12_count 2 (some .int) fiI [.ref 0, .int x1] h (f_X12_count x1 h) := by
  refine T_of [.ref 0, .int x1] (by decide) (fun _ => rfl) (fun _ => Nat.le_of_ble_eq_true rfl) ?_
  show B XM 1 RX12 cX12_count 2 (some .int) fiI 0 [.ref 0, .int x1] [] h (f_X12_count x1 h)
  unfold f_X12_count
  refine B_aload_n dX12_count_0 rfl rfl ?_
  refine B_iconst dX12_count_1 ic_0 ?_
  refine B_putI dX12_count_2 fl_X12_103 fw_X12_0 shM_0 rfl ?_
  refine B_lh (fun h1 => ?_)
  refine B_iload_n dX12_count_5 rfl rfl ?_
  refine C_ite (fun n2_0 => ?_) (fun n2_0 => ?_)
  · refine B_tswIn (tgt := 80) dX12_count_6 (by rw [n2_0]; decide) (by rw [n2_0]; decide) (by rw [n2_0]; decide) (by decide) ?_
    refine B_aload_n dX12_count_80 rfl rfl ?_
    refine B_getI dX12_count_81 fl_X12_293 shM_0 rfl ?_
    exact B_ireturn dX12_count_84 rfl rfl
  · refine C_ite (fun n2_1 => ?_) (fun n2_1 => ?_)
    · refine B_tswIn (tgt := 85) dX12_count_6 (by rw [n2_1]; decide) (by rw [n2_1]; decide) (by rw [n2_1]; decide) (by decide) ?_
      refine B_aload_n dX12_count_85 rfl rfl ?_
      refine B_getI dX12_count_86 fl_X12_285 shM_0 rfl ?_
      exact B_ireturn dX12_count_89 rfl rfl
    · refine C_ite (fun n2_2 => ?_) (fun n2_2 => ?_)
      · refine B_tswIn (tgt := 90) dX12_count_6 (by rw [n2_2]; decide) (by rw [n2_2]; decide) (by rw [n2_2]; decide) (by decide) ?_
        refine B_aload_n dX12_count_90 rfl rfl ?_
        refine B_getI dX12_count_91 fl_X12_288 shM_0 rfl ?_
        exact B_ireturn dX12_count_94 rfl rfl
      · refine C_ite (fun n2_3 => ?_) (fun n2_3 => ?_)
        · refine B_tswIn (tgt := 95) dX12_count_6 (by rw [n2_3]; decide) (by rw [n2_3]; decide) (by rw [n2_3]; decide) (by decide) ?_
          refine B_aload_n dX12_count_95 rfl rfl ?_
          refine B_getI dX12_count_96 fl_X12_116 shM_0 rfl ?_
          exact B_ireturn dX12_count_99 rfl rfl
        · refine C_ite (fun n2_4 => ?_) (fun n2_4 => ?_)
          · refine B_tswIn (tgt := 100) dX12_count_6 (by rw [n2_4]; decide) (by rw [n2_4]; decide) (by rw [n2_4]; decide) (by decide) ?_
            refine B_aload_n dX12_count_100 rfl rfl ?_
            refine B_getI dX12_count_101 fl_X12_61 shM_0 rfl ?_
            exact B_ireturn dX12_count_104 rfl rfl
          · refine C_ite (fun n2_5 => ?_) (fun n2_5 => ?_)
            · refine B_tswIn (tgt := 105) dX12_count_6 (by rw [n2_5]; decide) (by rw [n2_5]; decide) (by rw [n2_5]; decide) (by decide) ?_
              refine B_aload_n dX12_count_105 rfl rfl ?_
              refine B_getR dX12_count_106 fl_X12_55 shM_0 rfl (rfM_0_28 _) ?_
              refine B_bipush dX12_count_109 bp_27 ?_
              refine L_iald dX12_count_111 shM_11 (by decide) di_27 ?_
              exact B_ireturn dX12_count_112 rfl rfl
            · refine C_ite (fun n2_6 => ?_) (fun n2_6 => ?_)
              · refine B_tswIn (tgt := 113) dX12_count_6 (by rw [n2_6]; decide) (by rw [n2_6]; decide) (by rw [n2_6]; decide) (by decide) ?_
                refine B_aload_n dX12_count_113 rfl rfl ?_
                refine B_getR dX12_count_114 fl_X12_55 shM_0 rfl (rfM_0_28 _) ?_
                refine B_bipush dX12_count_117 bp_21 ?_
                refine L_iald dX12_count_119 shM_11 (by decide) di_21 ?_
                exact B_ireturn dX12_count_120 rfl rfl
              · refine C_ite (fun n2_7 => ?_) (fun n2_7 => ?_)
                · refine B_tswIn (tgt := 121) dX12_count_6 (by rw [n2_7]; decide) (by rw [n2_7]; decide) (by rw [n2_7]; decide) (by decide) ?_
                  refine B_aload_n dX12_count_121 rfl rfl ?_
                  refine B_getR dX12_count_122 fl_X12_55 shM_0 rfl (rfM_0_28 _) ?_
                  refine B_bipush dX12_count_125 bp_22 ?_
                  refine L_iald dX12_count_127 shM_11 (by decide) di_22 ?_
                  exact B_ireturn dX12_count_128 rfl rfl
                · refine C_ite (fun n2_8 => ?_) (fun n2_8 => ?_)
                  · refine B_tswIn (tgt := 129) dX12_count_6 (by rw [n2_8]; decide) (by rw [n2_8]; decide) (by rw [n2_8]; decide) (by decide) ?_
                    refine B_aload_n dX12_count_129 rfl rfl ?_
                    refine B_getR dX12_count_130 fl_X12_55 shM_0 rfl (rfM_0_28 _) ?_
                    refine B_St (st := []) dX12_count_133 cl_X12_311 (t_X12_where 11 shM_11 h1) (Nat.le_of_ble_eq_true rfl) rfl rfl (Nat.le_of_ble_eq_true rfl) ?_
                    exact B_ireturn dX12_count_136 rfl rfl
                  · refine C_ite (fun n2_9 => ?_) (fun n2_9 => ?_)
                    · refine B_tswIn (tgt := 137) dX12_count_6 (by rw [n2_9]; decide) (by rw [n2_9]; decide) (by rw [n2_9]; decide) (by decide) ?_
                      refine B_aload_n dX12_count_137 rfl rfl ?_
                      refine B_getR dX12_count_138 fl_X12_55 shM_0 rfl (rfM_0_28 _) ?_
                      refine B_bipush dX12_count_141 bp_24 ?_
                      refine L_iald dX12_count_143 shM_11 (by decide) di_24 ?_
                      exact B_ireturn dX12_count_144 rfl rfl
                    · refine C_ite (fun n2_10 => ?_) (fun n2_10 => ?_)
                      · refine B_tswIn (tgt := 145) dX12_count_6 (by rw [n2_10]; decide) (by rw [n2_10]; decide) (by rw [n2_10]; decide) (by decide) ?_
                        refine B_aload_n dX12_count_145 rfl rfl ?_
                        refine B_getR dX12_count_146 fl_X12_55 shM_0 rfl (rfM_0_28 _) ?_
                        refine B_bipush dX12_count_149 bp_25 ?_
                        refine L_iald dX12_count_151 shM_11 (by decide) di_25 ?_
                        exact B_ireturn dX12_count_152 rfl rfl
                      · refine C_ite (fun n2_11 => ?_) (fun n2_11 => ?_)
                        · refine B_tswIn (tgt := 153) dX12_count_6 (by rw [n2_11]; decide) (by rw [n2_11]; decide) (by rw [n2_11]; decide) (by decide) ?_
                          refine B_aload_n dX12_count_153 rfl rfl ?_
                          refine B_getI dX12_count_154 fl_X12_65 shM_0 rfl ?_
                          exact B_ireturn dX12_count_157 rfl rfl
                        · refine C_ite (fun n2_12 => ?_) (fun n2_12 => ?_)
                          · refine B_tswIn (tgt := 158) dX12_count_6 (by rw [n2_12]; decide) (by rw [n2_12]; decide) (by rw [n2_12]; decide) (by decide) ?_
                            refine B_aload_n dX12_count_158 rfl rfl ?_
                            refine B_getI dX12_count_159 fl_X12_296 shM_0 rfl ?_
                            exact B_ireturn dX12_count_162 rfl rfl
                          · refine C_ite (fun n2_13 => ?_) (fun n2_13 => ?_)
                            · refine B_tswIn (tgt := 163) dX12_count_6 (by rw [n2_13]; decide) (by rw [n2_13]; decide) (by rw [n2_13]; decide) (by decide) ?_
                              refine B_aload_n dX12_count_163 rfl rfl ?_
                              refine B_getR dX12_count_164 fl_X12_55 shM_0 rfl (rfM_0_28 _) ?_
                              refine B_bipush dX12_count_167 bp_28 ?_
                              refine L_iald dX12_count_169 shM_11 (by decide) di_28 ?_
                              exact B_ireturn dX12_count_170 rfl rfl
                            · refine C_ite (fun n2_14 => ?_) (fun n2_14 => ?_)
                              · refine B_tswIn (tgt := 171) dX12_count_6 (by rw [n2_14]; decide) (by rw [n2_14]; decide) (by rw [n2_14]; decide) (by decide) ?_
                                refine B_aload_n dX12_count_171 rfl rfl ?_
                                refine B_getI dX12_count_172 fl_X12_299 shM_0 rfl ?_
                                exact B_ireturn dX12_count_175 rfl rfl
                              · refine B_tswOut (tgt := 176) dX12_count_6 (dsw (fun c h1 h2 => ?_)) (by decide) ?_
                                · rcases (show c = 0 ∨ c = 1 ∨ c = 2 ∨ c = 3 ∨ c = 4 ∨ c = 5 ∨ c = 6 ∨ c = 7 ∨ c = 8 ∨ c = 9 ∨ c = 10 ∨ c = 11 ∨ c = 12 ∨ c = 13 ∨ c = 14 by omega) with rfl | rfl | rfl | rfl | rfl | rfl | rfl | rfl | rfl | rfl | rfl | rfl | rfl | rfl | rfl
                                  · exact n2_0
                                  · exact n2_1
                                  · exact n2_2
                                  · exact n2_3
                                  · exact n2_4
                                  · exact n2_5
                                  · exact n2_6
                                  · exact n2_7
                                  · exact n2_8
                                  · exact n2_9
                                  · exact n2_10
                                  · exact n2_11
                                  · exact n2_12
                                  · exact n2_13
                                  · exact n2_14
                                · refine B_ldcw dX12_count_176 kc_X12_400 ?_
                                  exact B_ireturn dX12_count_179 rfl rfl
