def f_X12_isGame (x1 : Int32) (x2 : Int32) (h : dH) : Bool :=
  if (f_X12_isPlace x1 h) then
  if (f_X12_isPlace x2 h) then
  if x1 = x2 then
  false
  else
  true
  else
  false
  else
  false
set_option maxRecDepth 20000 in
set_option maxHeartbeats 4000000 in
theorem t_X12_isGame (x1 : Int32) (x2 : Int32) (h : dH) : T XM 1 yX12_isGame cX12_isGame 3 (some .boolean) (fiB h) [.ref 0, .int x1, .int x2] h (some (f_X12_isGame x1 x2 h)) := by
  refine T_of [.ref 0, .int x1, .int x2] (by decide) (fun _ => rfl) (fun _ => Nat.le_of_ble_eq_true rfl) ?_
  show B XM 1 RX12 cX12_isGame 3 (some .boolean) (fiB h) 0 [.ref 0, .int x1, .int x2] [] h (some (f_X12_isGame x1 x2 h))
  unfold f_X12_isGame
  refine B_aload_n dX12_isGame_0 rfl rfl ?_
  refine B_iload_n dX12_isGame_1 rfl rfl ?_
  refine B_VTb (st := []) dX12_isGame_2 cl_X12_339 (t_X12_isPlace x1 h) (Nat.le_of_ble_eq_true rfl) shM_0 rfl rfl (Nat.le_of_ble_eq_true rfl) ?_
  refine C_some ?_
  refine C_ifb_eq (tgt := 25) dX12_isGame_5 (by decide) (fun q3 => ?_) (fun q3 => ?_)
  · refine B_iconst dX12_isGame_25 ic_0 ?_
    exact B_zreturn dX12_isGame_26 rfl rfl rfl
  · refine B_aload_n dX12_isGame_8 rfl rfl ?_
    refine B_iload_n dX12_isGame_9 rfl rfl ?_
    refine B_VTb (st := []) dX12_isGame_10 cl_X12_339 (t_X12_isPlace x2 h) (Nat.le_of_ble_eq_true rfl) shM_0 rfl rfl (Nat.le_of_ble_eq_true rfl) ?_
    refine C_some ?_
    refine C_ifb_eq (tgt := 25) dX12_isGame_13 (by decide) (fun q2 => ?_) (fun q2 => ?_)
    · refine B_iconst dX12_isGame_25 ic_0 ?_
      exact B_zreturn dX12_isGame_26 rfl rfl rfl
    · refine B_iload_n dX12_isGame_16 rfl rfl ?_
      refine B_iload_n dX12_isGame_17 rfl rfl ?_
      refine C_some ?_
      refine C_icmp_eq (tgt := 25) dX12_isGame_18 (by decide) (fun q1 => ?_) (fun q1 => ?_)
      · refine B_iconst dX12_isGame_25 ic_0 ?_
        exact B_zreturn dX12_isGame_26 rfl rfl rfl
      · refine B_iconst dX12_isGame_21 ic_1 ?_
        refine B_goto (tgt := 26) dX12_isGame_22 (by decide) ?_
        exact B_zreturn dX12_isGame_26 rfl rfl rfl
def f_X12_isFirst (x1 : Int32) (x2 : Int32) (x3 : Int32) (x4 : Int32) (h : dH) : Option (Bool) :=
  (f_X12_of x1 3 h).bind fun v1 =>
  (f_X12_of x2 3 h).bind fun v2 =>
  (some ((((v1 + x3) - v2) - x4))).bind fun v3 =>
  if v3 = 0 then
  (f_X12_far 11 x2 h).bind fun v4 =>
  (f_X12_far 11 x1 h).bind fun v5 =>
  if (v4 - v5) = 0 then
  if x1 < x2 then
  some true
  else
  some false
  else
  if 0 < (v4 - v5) then
  some true
  else
  some false
  else
  if 0 < v3 then
  some true
  else
  some false
set_option maxRecDepth 20000 in
set_option maxHeartbeats 4000000 in
theorem t_X12_isFirst (x1 : Int32) (x2 : Int32) (x3 : Int32) (x4 : Int32) (h : dH) : T XM 3 yX12_isFirst cX12_isFirst 7 (some .boolean) (fiB h) [.ref 0, .int x1, .int x2, .int x3, .int x4] h (f_X12_isFirst x1 x2 x3 x4 h) := by
  refine T_of [.ref 0, .int x1, .int x2, .int x3, .int x4, .null, .null] (by decide) (fun _ => rfl) (fun _ => Nat.le_of_ble_eq_true rfl) ?_
  show B XM 3 RX12 cX12_isFirst 7 (some .boolean) (fiB h) 0 [.ref 0, .int x1, .int x2, .int x3, .int x4, .null, .null] [] h (f_X12_isFirst x1 x2 x3 x4 h)
  unfold f_X12_isFirst
  refine B_aload_n dX12_isFirst_0 rfl rfl ?_
  refine B_iload_n dX12_isFirst_1 rfl rfl ?_
  refine B_iconst dX12_isFirst_2 ic_3 ?_
  refine B_Vp (st := []) dX12_isFirst_3 cl_X12_305 (t_X12_of x1 3 h) (Nat.le_of_ble_eq_true rfl) shM_0 rfl rfl (Nat.le_of_ble_eq_true rfl) (fun v1 _ => ?_)
  refine B_iload_n dX12_isFirst_6 rfl rfl ?_
  refine B_iadd dX12_isFirst_7 ?_
  refine B_aload_n dX12_isFirst_8 rfl rfl ?_
  refine B_iload_n dX12_isFirst_9 rfl rfl ?_
  refine B_iconst dX12_isFirst_10 ic_3 ?_
  refine B_Vp (st := [.int (v1 + x3)]) dX12_isFirst_11 cl_X12_305 (t_X12_of x2 3 h) (Nat.le_of_ble_eq_true rfl) shM_0 rfl rfl (Nat.le_of_ble_eq_true rfl) (fun v2 _ => ?_)
  refine B_isub dX12_isFirst_14 ?_
  refine B_iload dX12_isFirst_15 rfl ?_
  refine B_isub dX12_isFirst_17 ?_
  refine B_lv (fun v3 => ?_)
  refine B_istore (ls' := [.ref 0, .int x1, .int x2, .int x3, .int x4, .int v3, .null]) dX12_isFirst_18 (Nat.le_of_ble_eq_true rfl) rfl rfl ?_
  refine B_iload dX12_isFirst_20 rfl ?_
  refine C_if_eq (tgt := 36) dX12_isFirst_22 (by decide) (fun q10 => ?_) (fun q10 => ?_)
  · refine B_aload_n dX12_isFirst_36 rfl rfl ?_
    refine B_aload_n dX12_isFirst_37 rfl rfl ?_
    refine B_getR dX12_isFirst_38 fl_X12_55 shM_0 rfl (rfM_0_28 _) ?_
    refine B_iload_n dX12_isFirst_41 rfl rfl ?_
    refine B_Vp (st := []) dX12_isFirst_42 cl_X12_328 (t_X12_far 11 shM_11 x2 h) (Nat.le_of_ble_eq_true rfl) shM_0 rfl rfl (Nat.le_of_ble_eq_true rfl) (fun v4 _ => ?_)
    refine B_aload_n dX12_isFirst_45 rfl rfl ?_
    refine B_aload_n dX12_isFirst_46 rfl rfl ?_
    refine B_getR dX12_isFirst_47 fl_X12_55 shM_0 rfl (rfM_0_28 _) ?_
    refine B_iload_n dX12_isFirst_50 rfl rfl ?_
    refine B_Vp (st := [.int v4]) dX12_isFirst_51 cl_X12_328 (t_X12_far 11 shM_11 x1 h) (Nat.le_of_ble_eq_true rfl) shM_0 rfl rfl (Nat.le_of_ble_eq_true rfl) (fun v5 _ => ?_)
    refine B_isub dX12_isFirst_54 ?_
    refine B_istore (ls' := [.ref 0, .int x1, .int x2, .int x3, .int x4, .int v3, .int (v4 - v5)]) dX12_isFirst_55 (Nat.le_of_ble_eq_true rfl) rfl rfl ?_
    refine B_iload dX12_isFirst_57 rfl ?_
    refine C_if_ne (tgt := 75) dX12_isFirst_59 (by decide) (fun q8 => ?_) (fun q8 => ?_)
    · refine B_iload dX12_isFirst_75 rfl ?_
      refine C_if_le (tgt := 84) dX12_isFirst_77 (by decide) (fun q6 => ?_) (fun q6 => ?_)
      · refine B_iconst dX12_isFirst_84 ic_0 ?_
        exact B_zreturn dX12_isFirst_85 rfl rfl rfl
      · refine B_iconst dX12_isFirst_80 ic_1 ?_
        refine B_goto (tgt := 85) dX12_isFirst_81 (by decide) ?_
        exact B_zreturn dX12_isFirst_85 rfl rfl rfl
    · refine B_iload_n dX12_isFirst_62 rfl rfl ?_
      refine B_iload_n dX12_isFirst_63 rfl rfl ?_
      refine C_icmp_ge (tgt := 71) dX12_isFirst_64 (by decide) (fun q7 => ?_) (fun q7 => ?_)
      · refine B_iconst dX12_isFirst_71 ic_0 ?_
        refine B_goto (tgt := 85) dX12_isFirst_72 (by decide) ?_
        exact B_zreturn dX12_isFirst_85 rfl rfl rfl
      · refine B_iconst dX12_isFirst_67 ic_1 ?_
        refine B_goto (tgt := 85) dX12_isFirst_68 (by decide) ?_
        exact B_zreturn dX12_isFirst_85 rfl rfl rfl
  · refine B_iload dX12_isFirst_25 rfl ?_
    refine C_if_le (tgt := 34) dX12_isFirst_27 (by decide) (fun q9 => ?_) (fun q9 => ?_)
    · refine B_iconst dX12_isFirst_34 ic_0 ?_
      exact B_zreturn dX12_isFirst_35 rfl rfl rfl
    · refine B_iconst dX12_isFirst_30 ic_1 ?_
      refine B_goto (tgt := 35) dX12_isFirst_31 (by decide) ?_
      exact B_zreturn dX12_isFirst_35 rfl rfl rfl
def f_X12_gameOf_J48 (y7 : Int32) (y8 : Int32) (z0 : Bool) (z1 : Bool) (h : dH) : Option (Int32 × dH) :=
  if (bi z0) = (bi z1) then
  (f_X12_of y7 3 h).bind fun v5 =>
  (f_X12_trouble 11 y7 (v5 + y8) (h.1 5 2) h).bind fun rv6 =>
  some (((8 - rv6.1) - y8), rv6.2)
  else
  some ((-y8), h)
set_option maxRecDepth 20000 in
set_option maxHeartbeats 4000000 in
theorem b_X12_gameOf_J48 (y7 : Int32) (y8 : Int32) (z0 : Bool) (z1 : Bool) (h : dH) : B XM 85 RX12 cX12_gameOf 9 (some .int) fiI 48 [.ref 0, .null, .null, .null, .null, .null, .null, .int y7, .int y8] [.int (bi z1), .int (bi z0)] h (f_X12_gameOf_J48 y7 y8 z0 z1 h) := by
  unfold f_X12_gameOf_J48
  refine C_icmp_eq (tgt := 55) dX12_gameOf_48 (by decide) (fun q8 => ?_) (fun q8 => ?_)
  · refine B_bipush dX12_gameOf_55 bp_8 ?_
    refine B_aload_n dX12_gameOf_57 rfl rfl ?_
    refine B_aload_n dX12_gameOf_58 rfl rfl ?_
    refine B_getR dX12_gameOf_59 fl_X12_55 shM_0 rfl (rfM_0_28 _) ?_
    refine B_iload dX12_gameOf_62 rfl ?_
    refine B_aload_n dX12_gameOf_64 rfl rfl ?_
    refine B_iload dX12_gameOf_65 rfl ?_
    refine B_iconst dX12_gameOf_67 ic_3 ?_
    refine B_Vp (st := [.int y7, .ref 11, .ref 0, .int 8]) dX12_gameOf_68 cl_X12_305 (t_X12_of y7 3 h) (Nat.le_of_ble_eq_true rfl) shM_0 rfl rfl (Nat.le_of_ble_eq_true rfl) (fun v5 _ => ?_)
    refine B_iload dX12_gameOf_71 rfl ?_
    refine B_iadd dX12_gameOf_73 ?_
    refine B_aload_n dX12_gameOf_74 rfl rfl ?_
    refine B_getR dX12_gameOf_75 fl_X12_37 shM_0 rfl (rfM_0_18 _) ?_
    refine B_iconst dX12_gameOf_78 ic_2 ?_
    refine L_iald dX12_gameOf_79 shM_5 (by decide) di_2 ?_
    refine B_VI (st := [.int 8]) dX12_gameOf_80 cl_X12_342 (t_X12_trouble 11 shM_11 y7 (v5 + y8) (h.1 5 2) h) (Nat.le_of_ble_eq_true rfl) shM_0 rfl rfl (Nat.le_of_ble_eq_true rfl) (fun v6 h7 _ => ?_)
    refine B_isub dX12_gameOf_83 ?_
    refine B_iload dX12_gameOf_84 rfl ?_
    refine B_isub dX12_gameOf_86 ?_
    exact B_ireturn dX12_gameOf_87 rfl rfl
  · refine B_iload dX12_gameOf_51 rfl ?_
    refine B_ineg dX12_gameOf_53 ?_
    exact B_ireturn dX12_gameOf_54 rfl rfl
def f_X12_gameOf_J34 (y5 : Int32) (y6 : Bool) (y7 : Int32) (z0 : Int32) (h : dH) : Option (Int32 × dH) :=
  if y5 = 0 then
  f_X12_gameOf_J48 y7 z0 y6 true h
  else
  f_X12_gameOf_J48 y7 z0 y6 false h
set_option maxRecDepth 20000 in
set_option maxHeartbeats 4000000 in
theorem b_X12_gameOf_J34 (y5 : Int32) (y6 : Bool) (y7 : Int32) (z0 : Int32) (h : dH) : B XM 85 RX12 cX12_gameOf 9 (some .int) fiI 34 [.ref 0, .null, .null, .null, .null, .int y5, .int (bi y6), .int y7, .null] [.int z0] h (f_X12_gameOf_J34 y5 y6 y7 z0 h) := by
  unfold f_X12_gameOf_J34
  refine B_istore (ls' := [.ref 0, .null, .null, .null, .null, .int y5, .int (bi y6), .int y7, .int z0]) dX12_gameOf_34 (Nat.le_of_ble_eq_true rfl) rfl rfl ?_
  refine B_iload dX12_gameOf_36 rfl ?_
  refine B_iload dX12_gameOf_38 rfl ?_
  refine C_if_ne (tgt := 47) dX12_gameOf_40 (by decide) (fun q4 => ?_) (fun q4 => ?_)
  · refine B_iconst dX12_gameOf_47 ic_0 ?_
    refine B_drop 5 (ls' := [.ref 0, .null, .null, .null, .null, .null, .int (bi y6), .int y7, .int z0]) rfl ?_
    refine B_drop 6 (ls' := [.ref 0, .null, .null, .null, .null, .null, .null, .int y7, .int z0]) rfl ?_
    exact b_X12_gameOf_J48 y7 z0 y6 false h
  · refine B_iconst dX12_gameOf_43 ic_1 ?_
    refine B_goto (tgt := 48) dX12_gameOf_44 (by decide) ?_
    refine B_drop 5 (ls' := [.ref 0, .null, .null, .null, .null, .null, .int (bi y6), .int y7, .int z0]) rfl ?_
    refine B_drop 6 (ls' := [.ref 0, .null, .null, .null, .null, .null, .null, .int y7, .int z0]) rfl ?_
    exact b_X12_gameOf_J48 y7 z0 y6 true h
def f_X12_gameOf_J21 (y3 : Int32) (y4 : Int32) (y5 : Int32) (y6 : Bool) (z0 : Int32) (h : dH) : Option (Int32 × dH) :=
  if y5 = 0 then
  f_X12_gameOf_J34 y5 y6 z0 y3 h
  else
  f_X12_gameOf_J34 y5 y6 z0 y4 h
set_option maxRecDepth 20000 in
set_option maxHeartbeats 4000000 in
theorem b_X12_gameOf_J21 (y3 : Int32) (y4 : Int32) (y5 : Int32) (y6 : Bool) (z0 : Int32) (h : dH) : B XM 85 RX12 cX12_gameOf 9 (some .int) fiI 21 [.ref 0, .null, .null, .int y3, .int y4, .int y5, .int (bi y6), .null, .null] [.int z0] h (f_X12_gameOf_J21 y3 y4 y5 y6 z0 h) := by
  unfold f_X12_gameOf_J21
  refine B_istore (ls' := [.ref 0, .null, .null, .int y3, .int y4, .int y5, .int (bi y6), .int z0, .null]) dX12_gameOf_21 (Nat.le_of_ble_eq_true rfl) rfl rfl ?_
  refine B_iload dX12_gameOf_23 rfl ?_
  refine C_if_ne (tgt := 32) dX12_gameOf_25 (by decide) (fun q3 => ?_) (fun q3 => ?_)
  · refine B_iload dX12_gameOf_32 rfl ?_
    refine B_drop 3 (ls' := [.ref 0, .null, .null, .null, .int y4, .int y5, .int (bi y6), .int z0, .null]) rfl ?_
    refine B_drop 4 (ls' := [.ref 0, .null, .null, .null, .null, .int y5, .int (bi y6), .int z0, .null]) rfl ?_
    exact b_X12_gameOf_J34 y5 y6 z0 y4 h
  · refine B_iload_n dX12_gameOf_28 rfl rfl ?_
    refine B_goto (tgt := 34) dX12_gameOf_29 (by decide) ?_
    refine B_drop 3 (ls' := [.ref 0, .null, .null, .null, .int y4, .int y5, .int (bi y6), .int z0, .null]) rfl ?_
    refine B_drop 4 (ls' := [.ref 0, .null, .null, .null, .null, .int y5, .int (bi y6), .int z0, .null]) rfl ?_
    exact b_X12_gameOf_J34 y5 y6 z0 y3 h
def f_X12_gameOf (x1 : Int32) (x2 : Int32) (x3 : Int32) (x4 : Int32) (x5 : Int32) (h : dH) : Option (Int32 × dH) :=
  (f_X12_isFirst x1 x2 x3 x4 h).bind fun v1 =>
  if x5 = 0 then
  f_X12_gameOf_J21 x3 x4 x5 v1 x1 h
  else
  f_X12_gameOf_J21 x3 x4 x5 v1 x2 h
set_option maxRecDepth 20000 in
set_option maxHeartbeats 4000000 in
theorem t_X12_gameOf (x1 : Int32) (x2 : Int32) (x3 : Int32) (x4 : Int32) (x5 : Int32) (h : dH) : T XM 85 yX12_gameOf cX12_gameOf 9 (some .int) fiI [.ref 0, .int x1, .int x2, .int x3, .int x4, .int x5] h (f_X12_gameOf x1 x2 x3 x4 x5 h) := by
  refine T_of [.ref 0, .int x1, .int x2, .int x3, .int x4, .int x5, .null, .null, .null] (by decide) (fun _ => rfl) (fun _ => Nat.le_of_ble_eq_true rfl) ?_
  show B XM 85 RX12 cX12_gameOf 9 (some .int) fiI 0 [.ref 0, .int x1, .int x2, .int x3, .int x4, .int x5, .null, .null, .null] [] h (f_X12_gameOf x1 x2 x3 x4 x5 h)
  unfold f_X12_gameOf
  refine B_aload_n dX12_gameOf_0 rfl rfl ?_
  refine B_iload_n dX12_gameOf_1 rfl rfl ?_
  refine B_iload_n dX12_gameOf_2 rfl rfl ?_
  refine B_iload_n dX12_gameOf_3 rfl rfl ?_
  refine B_iload dX12_gameOf_4 rfl ?_
  refine B_Vpb (st := []) dX12_gameOf_6 cl_X12_471 (t_X12_isFirst x1 x2 x3 x4 h) (Nat.le_of_ble_eq_true rfl) shM_0 rfl rfl (Nat.le_of_ble_eq_true rfl) (fun v1 _ => ?_)
  refine B_istore (ls' := [.ref 0, .int x1, .int x2, .int x3, .int x4, .int x5, .int (bi v1), .null, .null]) dX12_gameOf_9 (Nat.le_of_ble_eq_true rfl) rfl rfl ?_
  refine B_iload dX12_gameOf_11 rfl ?_
  refine C_if_ne (tgt := 20) dX12_gameOf_13 (by decide) (fun q2 => ?_) (fun q2 => ?_)
  · refine B_iload_n dX12_gameOf_20 rfl rfl ?_
    refine B_drop 1 (ls' := [.ref 0, .null, .int x2, .int x3, .int x4, .int x5, .int (bi v1), .null, .null]) rfl ?_
    refine B_drop 2 (ls' := [.ref 0, .null, .null, .int x3, .int x4, .int x5, .int (bi v1), .null, .null]) rfl ?_
    exact b_X12_gameOf_J21 x3 x4 x5 v1 x2 h
  · refine B_iload_n dX12_gameOf_16 rfl rfl ?_
    refine B_goto (tgt := 21) dX12_gameOf_17 (by decide) ?_
    refine B_drop 1 (ls' := [.ref 0, .null, .int x2, .int x3, .int x4, .int x5, .int (bi v1), .null, .null]) rfl ?_
    refine B_drop 2 (ls' := [.ref 0, .null, .null, .int x3, .int x4, .int x5, .int (bi v1), .null, .null]) rfl ?_
    exact b_X12_gameOf_J21 x3 x4 x5 v1 x1 h
def f_X12_game (x1 : Int32) (x2 : Int32) (x3 : Int32) (x4 : Int32) (x5 : Int32) (h : dH) : Option (Int32 × dH) :=
  (some (dPut h 0 0 0)).bind fun h1 =>
  if (f_X12_isGame x1 x2 h1) then
  if (f_X12_isIn ((x3 : Int32).toInt64) 0 3 h1) then
  if (f_X12_isIn ((x4 : Int32).toInt64) 0 3 h1) then
  if (f_X12_isIn ((x5 : Int32).toInt64) 0 1 h1) then
  (f_X12_gameOf x1 x2 x3 x4 x5 h1).bind fun rv2 =>
  some (rv2.1, rv2.2)
  else
  some ((-1000000), h1)
  else
  some ((-1000000), h1)
  else
  some ((-1000000), h1)
  else
  some ((-1000000), h1)
set_option maxRecDepth 20000 in
set_option maxHeartbeats 4000000 in
theorem t_X12_game (x1 : Int32) (x2 : Int32) (x3 : Int32) (x4 : Int32) (x5 : Int32) (h : dH) : T XM 86 yX12_game cX12_game 6 (some .int) fiI [.ref 0, .int x1, .int x2, .int x3, .int x4, .int x5] h (f_X12_game x1 x2 x3 x4 x5 h) := by
  refine T_of [.ref 0, .int x1, .int x2, .int x3, .int x4, .int x5] (by decide) (fun _ => rfl) (fun _ => Nat.le_of_ble_eq_true rfl) ?_
  show B XM 86 RX12 cX12_game 6 (some .int) fiI 0 [.ref 0, .int x1, .int x2, .int x3, .int x4, .int x5] [] h (f_X12_game x1 x2 x3 x4 x5 h)
  unfold f_X12_game
  refine B_aload_n dX12_game_0 rfl rfl ?_
  refine B_iconst dX12_game_1 ic_0 ?_
  refine B_putI dX12_game_2 fl_X12_103 fw_X12_0 shM_0 rfl ?_
  refine B_lh (fun h1 => ?_)
  refine B_aload_n dX12_game_5 rfl rfl ?_
  refine B_iload_n dX12_game_6 rfl rfl ?_
  refine B_iload_n dX12_game_7 rfl rfl ?_
  refine B_VTb (st := []) dX12_game_8 cl_X12_475 (t_X12_isGame x1 x2 h1) (Nat.le_of_ble_eq_true rfl) shM_0 rfl rfl (Nat.le_of_ble_eq_true rfl) ?_
  refine C_ifb_eq (tgt := 64) dX12_game_11 (by decide) (fun q7 => ?_) (fun q7 => ?_)
  · refine B_ldcw dX12_game_64 kc_X12_400 ?_
    exact B_ireturn dX12_game_67 rfl rfl
  · refine B_iload_n dX12_game_14 rfl rfl ?_
    refine B_i2l dX12_game_15 ?_
    refine B_lconst (v := 0) dX12_game_16 (by decide) ?_
    refine B_ldc2 dX12_game_17 kc_X12_478 ?_
    refine B_STb (st := []) dX12_game_20 cl_X12_224 (t_X12_isIn ((x3 : Int32).toInt64) 0 3 h1) (Nat.le_of_ble_eq_true rfl) rfl rfl (Nat.le_of_ble_eq_true rfl) ?_
    refine C_ifb_eq (tgt := 64) dX12_game_23 (by decide) (fun q6 => ?_) (fun q6 => ?_)
    · refine B_ldcw dX12_game_64 kc_X12_400 ?_
      exact B_ireturn dX12_game_67 rfl rfl
    · refine B_iload dX12_game_26 rfl ?_
      refine B_i2l dX12_game_28 ?_
      refine B_lconst (v := 0) dX12_game_29 (by decide) ?_
      refine B_ldc2 dX12_game_30 kc_X12_478 ?_
      refine B_STb (st := []) dX12_game_33 cl_X12_224 (t_X12_isIn ((x4 : Int32).toInt64) 0 3 h1) (Nat.le_of_ble_eq_true rfl) rfl rfl (Nat.le_of_ble_eq_true rfl) ?_
      refine C_ifb_eq (tgt := 64) dX12_game_36 (by decide) (fun q5 => ?_) (fun q5 => ?_)
      · refine B_ldcw dX12_game_64 kc_X12_400 ?_
        exact B_ireturn dX12_game_67 rfl rfl
      · refine B_iload dX12_game_39 rfl ?_
        refine B_i2l dX12_game_41 ?_
        refine B_lconst (v := 0) dX12_game_42 (by decide) ?_
        refine B_lconst (v := 1) dX12_game_43 (by decide) ?_
        refine B_STb (st := []) dX12_game_44 cl_X12_224 (t_X12_isIn ((x5 : Int32).toInt64) 0 1 h1) (Nat.le_of_ble_eq_true rfl) rfl rfl (Nat.le_of_ble_eq_true rfl) ?_
        refine C_ifb_eq (tgt := 64) dX12_game_47 (by decide) (fun q4 => ?_) (fun q4 => ?_)
        · refine B_ldcw dX12_game_64 kc_X12_400 ?_
          exact B_ireturn dX12_game_67 rfl rfl
        · refine B_aload_n dX12_game_50 rfl rfl ?_
          refine B_iload_n dX12_game_51 rfl rfl ?_
          refine B_iload_n dX12_game_52 rfl rfl ?_
          refine B_iload_n dX12_game_53 rfl rfl ?_
          refine B_iload dX12_game_54 rfl ?_
          refine B_iload dX12_game_56 rfl ?_
          refine B_VI (st := []) dX12_game_58 cl_X12_480 (t_X12_gameOf x1 x2 x3 x4 x5 h1) (Nat.le_of_ble_eq_true rfl) shM_0 rfl rfl (Nat.le_of_ble_eq_true rfl) (fun v2 h3 _ => ?_)
          refine B_goto (tgt := 67) dX12_game_61 (by decide) ?_
          exact B_ireturn dX12_game_67 rfl rfl
def f_X12_rests_J114 (kL27 : Int32 → Int32 → Int32 → Int32 → Int32 → dH → Option (Int32 × dH)) (kL36 : Int32 → Int32 → Int32 → Int32 → Int32 → Int32 → dH → Option (Int32 × dH)) (kL48 : Int32 → Int32 → Int32 → Int32 → Int32 → Int32 → Bool → Int32 → dH → Option (Int32 × dH)) (y1 : Int32) (y2 : Int32) (y3 : Int32) (y4 : Int32) (y5 : Int32) (y6 : Int32) (y8 : Int32) (z0 : Bool) (h : dH) : Option (Int32 × dH) :=
  kL48 y1 y2 y3 y4 y5 y6 z0 (y8 + 1) h
set_option maxRecDepth 20000 in
set_option maxHeartbeats 4000000 in
theorem b_X12_rests_J114 {kL27 : Int32 → Int32 → Int32 → Int32 → Int32 → dH → Option (Int32 × dH)} {kL36 : Int32 → Int32 → Int32 → Int32 → Int32 → Int32 → dH → Option (Int32 × dH)} {kL48 : Int32 → Int32 → Int32 → Int32 → Int32 → Int32 → Bool → Int32 → dH → Option (Int32 × dH)} (hkL27 : ∀ (y1 : Int32) (y2 : Int32) (y3 : Int32) (y4 : Int32) (y5 : Int32) (h : dH), B XM 86 RX12 cX12_rests 9 (some .int) fiI 27 [.ref 0, .int y1, .int y2, .int y3, .int y4, .int y5, .null, .null, .null] [] h (kL27 y1 y2 y3 y4 y5 h)) (hkL36 : ∀ (y1 : Int32) (y2 : Int32) (y3 : Int32) (y4 : Int32) (y5 : Int32) (y6 : Int32) (h : dH), B XM 86 RX12 cX12_rests 9 (some .int) fiI 36 [.ref 0, .int y1, .int y2, .int y3, .int y4, .int y5, .int y6, .null, .null] [] h (kL36 y1 y2 y3 y4 y5 y6 h)) (hkL48 : ∀ (y1 : Int32) (y2 : Int32) (y3 : Int32) (y4 : Int32) (y5 : Int32) (y6 : Int32) (y7 : Bool) (y8 : Int32) (h : dH), B XM 86 RX12 cX12_rests 9 (some .int) fiI 48 [.ref 0, .int y1, .int y2, .int y3, .int y4, .int y5, .int y6, .int (bi y7), .int y8] [] h (kL48 y1 y2 y3 y4 y5 y6 y7 y8 h)) (y1 : Int32) (y2 : Int32) (y3 : Int32) (y4 : Int32) (y5 : Int32) (y6 : Int32) (y8 : Int32) (z0 : Bool) (h : dH) : B XM 86 RX12 cX12_rests 9 (some .int) fiI 114 [.ref 0, .int y1, .int y2, .int y3, .int y4, .int y5, .int y6, .null, .int y8] [.int (bi z0)] h (f_X12_rests_J114 kL27 kL36 kL48 y1 y2 y3 y4 y5 y6 y8 z0 h) := by
  unfold f_X12_rests_J114
  refine B_istore (ls' := [.ref 0, .int y1, .int y2, .int y3, .int y4, .int y5, .int y6, .int (bi z0), .int y8]) dX12_rests_114 (Nat.le_of_ble_eq_true rfl) rfl rfl ?_
  refine B_iinc (w := (y8 + 1)) (ls' := [.ref 0, .int y1, .int y2, .int y3, .int y4, .int y5, .int y6, .int (bi z0), .int (y8 + 1)]) dX12_rests_116 rfl (congrArg (fun z => y8 + z) ic_1) (Nat.le_of_ble_eq_true rfl) rfl rfl ?_
  refine B_goto (tgt := 48) dX12_rests_119 (by decide) ?_
  exact hkL48 y1 y2 y3 y4 y5 y6 z0 (y8 + 1)  h
def f_X12_rests_J113 (kL27 : Int32 → Int32 → Int32 → Int32 → Int32 → dH → Option (Int32 × dH)) (kL36 : Int32 → Int32 → Int32 → Int32 → Int32 → Int32 → dH → Option (Int32 × dH)) (kL48 : Int32 → Int32 → Int32 → Int32 → Int32 → Int32 → Bool → Int32 → dH → Option (Int32 × dH)) (y1 : Int32) (y2 : Int32) (y3 : Int32) (y4 : Int32) (y5 : Int32) (y6 : Int32) (y8 : Int32) (h : dH) : Option (Int32 × dH) :=
  f_X12_rests_J114 kL27 kL36 kL48 y1 y2 y3 y4 y5 y6 y8 false h
set_option maxRecDepth 20000 in
set_option maxHeartbeats 4000000 in
theorem b_X12_rests_J113 {kL27 : Int32 → Int32 → Int32 → Int32 → Int32 → dH → Option (Int32 × dH)} {kL36 : Int32 → Int32 → Int32 → Int32 → Int32 → Int32 → dH → Option (Int32 × dH)} {kL48 : Int32 → Int32 → Int32 → Int32 → Int32 → Int32 → Bool → Int32 → dH → Option (Int32 × dH)} (hkL27 : ∀ (y1 : Int32) (y2 : Int32) (y3 : Int32) (y4 : Int32) (y5 : Int32) (h : dH), B XM 86 RX12 cX12_rests 9 (some .int) fiI 27 [.ref 0, .int y1, .int y2, .int y3, .int y4, .int y5, .null, .null, .null] [] h (kL27 y1 y2 y3 y4 y5 h)) (hkL36 : ∀ (y1 : Int32) (y2 : Int32) (y3 : Int32) (y4 : Int32) (y5 : Int32) (y6 : Int32) (h : dH), B XM 86 RX12 cX12_rests 9 (some .int) fiI 36 [.ref 0, .int y1, .int y2, .int y3, .int y4, .int y5, .int y6, .null, .null] [] h (kL36 y1 y2 y3 y4 y5 y6 h)) (hkL48 : ∀ (y1 : Int32) (y2 : Int32) (y3 : Int32) (y4 : Int32) (y5 : Int32) (y6 : Int32) (y7 : Bool) (y8 : Int32) (h : dH), B XM 86 RX12 cX12_rests 9 (some .int) fiI 48 [.ref 0, .int y1, .int y2, .int y3, .int y4, .int y5, .int y6, .int (bi y7), .int y8] [] h (kL48 y1 y2 y3 y4 y5 y6 y7 y8 h)) (y1 : Int32) (y2 : Int32) (y3 : Int32) (y4 : Int32) (y5 : Int32) (y6 : Int32) (y8 : Int32) (h : dH) : B XM 86 RX12 cX12_rests 9 (some .int) fiI 113 [.ref 0, .int y1, .int y2, .int y3, .int y4, .int y5, .int y6, .null, .int y8] [] h (f_X12_rests_J113 kL27 kL36 kL48 y1 y2 y3 y4 y5 y6 y8 h) := by
  unfold f_X12_rests_J113
  refine B_iconst dX12_rests_113 ic_0 ?_
  exact b_X12_rests_J114 hkL27 hkL36 hkL48 y1 y2 y3 y4 y5 y6 y8 false h
def f_X12_rests_J148 (kL27 : Int32 → Int32 → Int32 → Int32 → Int32 → dH → Option (Int32 × dH)) (kL36 : Int32 → Int32 → Int32 → Int32 → Int32 → Int32 → dH → Option (Int32 × dH)) (y1 : Int32) (y2 : Int32) (y3 : Int32) (y4 : Int32) (y5 : Int32) (y6 : Int32) (h : dH) : Option (Int32 × dH) :=
  kL36 y1 y2 y3 y4 y5 (y6 + 1) h
set_option maxRecDepth 20000 in
set_option maxHeartbeats 4000000 in
theorem b_X12_rests_J148 {kL27 : Int32 → Int32 → Int32 → Int32 → Int32 → dH → Option (Int32 × dH)} {kL36 : Int32 → Int32 → Int32 → Int32 → Int32 → Int32 → dH → Option (Int32 × dH)} (hkL27 : ∀ (y1 : Int32) (y2 : Int32) (y3 : Int32) (y4 : Int32) (y5 : Int32) (h : dH), B XM 86 RX12 cX12_rests 9 (some .int) fiI 27 [.ref 0, .int y1, .int y2, .int y3, .int y4, .int y5, .null, .null, .null] [] h (kL27 y1 y2 y3 y4 y5 h)) (hkL36 : ∀ (y1 : Int32) (y2 : Int32) (y3 : Int32) (y4 : Int32) (y5 : Int32) (y6 : Int32) (h : dH), B XM 86 RX12 cX12_rests 9 (some .int) fiI 36 [.ref 0, .int y1, .int y2, .int y3, .int y4, .int y5, .int y6, .null, .null] [] h (kL36 y1 y2 y3 y4 y5 y6 h)) (y1 : Int32) (y2 : Int32) (y3 : Int32) (y4 : Int32) (y5 : Int32) (y6 : Int32) (h : dH) : B XM 86 RX12 cX12_rests 9 (some .int) fiI 148 [.ref 0, .int y1, .int y2, .int y3, .int y4, .int y5, .int y6, .null, .null] [] h (f_X12_rests_J148 kL27 kL36 y1 y2 y3 y4 y5 y6 h) := by
  unfold f_X12_rests_J148
  refine B_iinc (w := (y6 + 1)) (ls' := [.ref 0, .int y1, .int y2, .int y3, .int y4, .int y5, .int (y6 + 1), .null, .null]) dX12_rests_148 rfl (congrArg (fun z => y6 + z) ic_1) (Nat.le_of_ble_eq_true rfl) rfl rfl ?_
  refine B_goto (tgt := 36) dX12_rests_151 (by decide) ?_
  exact hkL36 y1 y2 y3 y4 y5 (y6 + 1)  h
def f_X12_rests_L48 (kL27 : Int32 → Int32 → Int32 → Int32 → Int32 → dH → Option (Int32 × dH)) (kL36 : Int32 → Int32 → Int32 → Int32 → Int32 → Int32 → dH → Option (Int32 × dH)) : Nat → Int32 → Int32 → Int32 → Int32 → Int32 → Int32 → Bool → Int32 → dH → Option (Int32 × dH)
  | 0, _, _, _, _, _, _, _, _, _ => none
  | n + 1, y1, y2, y3, y4, y5, y6, y7, y8, h =>
    if y8 < 4 then
    if y7 then
    (f_X12_gameOf y1 y2 y8 y6 0 h).bind fun rv9 =>
    (f_X12_gameOf y1 y2 y5 y6 0 rv9.2).bind fun rv11 =>
    if rv11.1 < rv9.1 then
    f_X12_rests_J113 kL27 kL36 (f_X12_rests_L48 kL27 kL36 n) y1 y2 y3 y4 y5 y6 y8 rv11.2
    else
    (f_X12_gameOf y1 y2 y5 y8 1 rv11.2).bind fun rv13 =>
    (f_X12_gameOf y1 y2 y5 y6 1 rv13.2).bind fun rv15 =>
    if rv15.1 < rv13.1 then
    f_X12_rests_J113 kL27 kL36 (f_X12_rests_L48 kL27 kL36 n) y1 y2 y3 y4 y5 y6 y8 rv15.2
    else
    f_X12_rests_J114 kL27 kL36 (f_X12_rests_L48 kL27 kL36 n) y1 y2 y3 y4 y5 y6 y8 true rv15.2
    else
    f_X12_rests_J113 kL27 kL36 (f_X12_rests_L48 kL27 kL36 n) y1 y2 y3 y4 y5 y6 y8 h
    else
    if y7 then
    if y4 = y3 then
    some (((10 * y5) + y6), h)
    else
    f_X12_rests_J148 kL27 kL36 y1 y2 y3 (y4 + 1) y5 y6 h
    else
    f_X12_rests_J148 kL27 kL36 y1 y2 y3 y4 y5 y6 h
set_option maxRecDepth 20000 in
set_option maxHeartbeats 4000000 in
theorem b_X12_rests_L48 {kL27 : Int32 → Int32 → Int32 → Int32 → Int32 → dH → Option (Int32 × dH)} {kL36 : Int32 → Int32 → Int32 → Int32 → Int32 → Int32 → dH → Option (Int32 × dH)} (hkL27 : ∀ (y1 : Int32) (y2 : Int32) (y3 : Int32) (y4 : Int32) (y5 : Int32) (h : dH), B XM 86 RX12 cX12_rests 9 (some .int) fiI 27 [.ref 0, .int y1, .int y2, .int y3, .int y4, .int y5, .null, .null, .null] [] h (kL27 y1 y2 y3 y4 y5 h)) (hkL36 : ∀ (y1 : Int32) (y2 : Int32) (y3 : Int32) (y4 : Int32) (y5 : Int32) (y6 : Int32) (h : dH), B XM 86 RX12 cX12_rests 9 (some .int) fiI 36 [.ref 0, .int y1, .int y2, .int y3, .int y4, .int y5, .int y6, .null, .null] [] h (kL36 y1 y2 y3 y4 y5 y6 h)) : ∀ (n : Nat) (y1 : Int32) (y2 : Int32) (y3 : Int32) (y4 : Int32) (y5 : Int32) (y6 : Int32) (y7 : Bool) (y8 : Int32) (h : dH), B XM 86 RX12 cX12_rests 9 (some .int) fiI 48 [.ref 0, .int y1, .int y2, .int y3, .int y4, .int y5, .int y6, .int (bi y7), .int y8] [] h (f_X12_rests_L48 kL27 kL36 n y1 y2 y3 y4 y5 y6 y7 y8 h) := by
  intro n
  induction n with
  | zero =>
    intro y1 y2 y3 y4 y5 y6 y7 y8 h
    exact B_none
  | succ n ih =>
    intro y1 y2 y3 y4 y5 y6 y7 y8 h
    rw [f_X12_rests_L48]
    refine B_iload dX12_rests_48 rfl ?_
    refine B_iconst dX12_rests_50 ic_4 ?_
    refine C_icmp_ge (tgt := 122) dX12_rests_51 (by decide) (fun q20 => ?_) (fun q20 => ?_)
    · refine B_iload dX12_rests_122 rfl ?_
      refine C_ifb_ne (tgt := 130) dX12_rests_124 (by decide) (fun q8 => ?_) (fun q8 => ?_)
      · refine B_iload dX12_rests_130 rfl ?_
        refine B_iload_n dX12_rests_132 rfl rfl ?_
        refine C_icmp_ne (tgt := 145) dX12_rests_133 (by decide) (fun q7 => ?_) (fun q7 => ?_)
        · refine B_iinc (w := (y4 + 1)) (ls' := [.ref 0, .int y1, .int y2, .int y3, .int (y4 + 1), .int y5, .int y6, .int (bi y7), .int y8]) dX12_rests_145 rfl (congrArg (fun z => y4 + z) ic_1) (Nat.le_of_ble_eq_true rfl) rfl rfl ?_
          refine B_drop 7 (ls' := [.ref 0, .int y1, .int y2, .int y3, .int (y4 + 1), .int y5, .int y6, .null, .int y8]) rfl ?_
          refine B_drop 8 (ls' := [.ref 0, .int y1, .int y2, .int y3, .int (y4 + 1), .int y5, .int y6, .null, .null]) rfl ?_
          exact b_X12_rests_J148 hkL27 hkL36 y1 y2 y3 (y4 + 1) y5 y6 h
        · refine B_bipush dX12_rests_136 bp_10 ?_
          refine B_iload dX12_rests_138 rfl ?_
          refine B_imul dX12_rests_140 ?_
          refine B_iload dX12_rests_141 rfl ?_
          refine B_iadd dX12_rests_143 ?_
          exact B_ireturn dX12_rests_144 rfl rfl
      · refine B_goto (tgt := 148) dX12_rests_127 (by decide) ?_
        refine B_drop 7 (ls' := [.ref 0, .int y1, .int y2, .int y3, .int y4, .int y5, .int y6, .null, .int y8]) rfl ?_
        refine B_drop 8 (ls' := [.ref 0, .int y1, .int y2, .int y3, .int y4, .int y5, .int y6, .null, .null]) rfl ?_
        exact b_X12_rests_J148 hkL27 hkL36 y1 y2 y3 y4 y5 y6 h
    · refine B_iload dX12_rests_54 rfl ?_
      refine C_ifb_eq (tgt := 113) dX12_rests_56 (by decide) (fun q19 => ?_) (fun q19 => ?_)
      · refine B_drop 7 (ls' := [.ref 0, .int y1, .int y2, .int y3, .int y4, .int y5, .int y6, .null, .int y8]) rfl ?_
        exact b_X12_rests_J113 hkL27 hkL36 (fun qy1 qy2 qy3 qy4 qy5 qy6 qy7 qy8 qh => ih qy1 qy2 qy3 qy4 qy5 qy6 qy7 qy8 qh) y1 y2 y3 y4 y5 y6 y8 h
      · refine B_aload_n dX12_rests_59 rfl rfl ?_
        refine B_iload_n dX12_rests_60 rfl rfl ?_
        refine B_iload_n dX12_rests_61 rfl rfl ?_
        refine B_iload dX12_rests_62 rfl ?_
        refine B_iload dX12_rests_64 rfl ?_
        refine B_iconst dX12_rests_66 ic_0 ?_
        refine B_VI (st := []) dX12_rests_67 cl_X12_480 (t_X12_gameOf y1 y2 y8 y6 0 h) (Nat.le_of_ble_eq_true rfl) shM_0 rfl rfl (Nat.le_of_ble_eq_true rfl) (fun v9 h10 _ => ?_)
        refine B_aload_n dX12_rests_70 rfl rfl ?_
        refine B_iload_n dX12_rests_71 rfl rfl ?_
        refine B_iload_n dX12_rests_72 rfl rfl ?_
        refine B_iload dX12_rests_73 rfl ?_
        refine B_iload dX12_rests_75 rfl ?_
        refine B_iconst dX12_rests_77 ic_0 ?_
        refine B_VI (st := [.int v9]) dX12_rests_78 cl_X12_480 (t_X12_gameOf y1 y2 y5 y6 0 h10) (Nat.le_of_ble_eq_true rfl) shM_0 rfl rfl (Nat.le_of_ble_eq_true rfl) (fun v11 h12 _ => ?_)
        refine C_icmp_gt (tgt := 113) dX12_rests_81 (by decide) (fun q18 => ?_) (fun q18 => ?_)
        · refine B_drop 7 (ls' := [.ref 0, .int y1, .int y2, .int y3, .int y4, .int y5, .int y6, .null, .int y8]) rfl ?_
          exact b_X12_rests_J113 hkL27 hkL36 (fun qy1 qy2 qy3 qy4 qy5 qy6 qy7 qy8 qh => ih qy1 qy2 qy3 qy4 qy5 qy6 qy7 qy8 qh) y1 y2 y3 y4 y5 y6 y8 h12
        · refine B_aload_n dX12_rests_84 rfl rfl ?_
          refine B_iload_n dX12_rests_85 rfl rfl ?_
          refine B_iload_n dX12_rests_86 rfl rfl ?_
          refine B_iload dX12_rests_87 rfl ?_
          refine B_iload dX12_rests_89 rfl ?_
          refine B_iconst dX12_rests_91 ic_1 ?_
          refine B_VI (st := []) dX12_rests_92 cl_X12_480 (t_X12_gameOf y1 y2 y5 y8 1 h12) (Nat.le_of_ble_eq_true rfl) shM_0 rfl rfl (Nat.le_of_ble_eq_true rfl) (fun v13 h14 _ => ?_)
          refine B_aload_n dX12_rests_95 rfl rfl ?_
          refine B_iload_n dX12_rests_96 rfl rfl ?_
          refine B_iload_n dX12_rests_97 rfl rfl ?_
          refine B_iload dX12_rests_98 rfl ?_
          refine B_iload dX12_rests_100 rfl ?_
          refine B_iconst dX12_rests_102 ic_1 ?_
          refine B_VI (st := [.int v13]) dX12_rests_103 cl_X12_480 (t_X12_gameOf y1 y2 y5 y6 1 h14) (Nat.le_of_ble_eq_true rfl) shM_0 rfl rfl (Nat.le_of_ble_eq_true rfl) (fun v15 h16 _ => ?_)
          refine C_icmp_gt (tgt := 113) dX12_rests_106 (by decide) (fun q17 => ?_) (fun q17 => ?_)
          · refine B_drop 7 (ls' := [.ref 0, .int y1, .int y2, .int y3, .int y4, .int y5, .int y6, .null, .int y8]) rfl ?_
            exact b_X12_rests_J113 hkL27 hkL36 (fun qy1 qy2 qy3 qy4 qy5 qy6 qy7 qy8 qh => ih qy1 qy2 qy3 qy4 qy5 qy6 qy7 qy8 qh) y1 y2 y3 y4 y5 y6 y8 h16
          · refine B_iconst dX12_rests_109 ic_1 ?_
            refine B_goto (tgt := 114) dX12_rests_110 (by decide) ?_
            refine B_drop 7 (ls' := [.ref 0, .int y1, .int y2, .int y3, .int y4, .int y5, .int y6, .null, .int y8]) rfl ?_
            exact b_X12_rests_J114 hkL27 hkL36 (fun qy1 qy2 qy3 qy4 qy5 qy6 qy7 qy8 qh => ih qy1 qy2 qy3 qy4 qy5 qy6 qy7 qy8 qh) y1 y2 y3 y4 y5 y6 y8 true h16
def f_X12_rests_L36 (kL27 : Int32 → Int32 → Int32 → Int32 → Int32 → dH → Option (Int32 × dH)) : Nat → Int32 → Int32 → Int32 → Int32 → Int32 → Int32 → dH → Option (Int32 × dH)
  | 0, _, _, _, _, _, _, _ => none
  | n + 1, y1, y2, y3, y4, y5, y6, h =>
    if y6 < 4 then
    f_X12_rests_L48 kL27 (f_X12_rests_L36 kL27 n) dFu y1 y2 y3 y4 y5 y6 true 0 h
    else
    kL27 y1 y2 y3 y4 (y5 + 1) h
set_option maxRecDepth 20000 in
set_option maxHeartbeats 4000000 in
theorem b_X12_rests_L36 {kL27 : Int32 → Int32 → Int32 → Int32 → Int32 → dH → Option (Int32 × dH)} (hkL27 : ∀ (y1 : Int32) (y2 : Int32) (y3 : Int32) (y4 : Int32) (y5 : Int32) (h : dH), B XM 86 RX12 cX12_rests 9 (some .int) fiI 27 [.ref 0, .int y1, .int y2, .int y3, .int y4, .int y5, .null, .null, .null] [] h (kL27 y1 y2 y3 y4 y5 h)) : ∀ (n : Nat) (y1 : Int32) (y2 : Int32) (y3 : Int32) (y4 : Int32) (y5 : Int32) (y6 : Int32) (h : dH), B XM 86 RX12 cX12_rests 9 (some .int) fiI 36 [.ref 0, .int y1, .int y2, .int y3, .int y4, .int y5, .int y6, .null, .null] [] h (f_X12_rests_L36 kL27 n y1 y2 y3 y4 y5 y6 h) := by
  intro n
  induction n with
  | zero =>
    intro y1 y2 y3 y4 y5 y6 h
    exact B_none
  | succ n ih =>
    intro y1 y2 y3 y4 y5 y6 h
    rw [f_X12_rests_L36]
    refine B_iload dX12_rests_36 rfl ?_
    refine B_iconst dX12_rests_38 ic_4 ?_
    refine C_icmp_ge (tgt := 154) dX12_rests_39 (by decide) (fun q6 => ?_) (fun q6 => ?_)
    · refine B_iinc (w := (y5 + 1)) (ls' := [.ref 0, .int y1, .int y2, .int y3, .int y4, .int (y5 + 1), .int y6, .null, .null]) dX12_rests_154 rfl (congrArg (fun z => y5 + z) ic_1) (Nat.le_of_ble_eq_true rfl) rfl rfl ?_
      refine B_goto (tgt := 27) dX12_rests_157 (by decide) ?_
      refine B_drop 6 (ls' := [.ref 0, .int y1, .int y2, .int y3, .int y4, .int (y5 + 1), .null, .null, .null]) rfl ?_
      exact hkL27 y1 y2 y3 y4 (y5 + 1)  h
    · refine B_iconst dX12_rests_42 ic_1 ?_
      refine B_istore (ls' := [.ref 0, .int y1, .int y2, .int y3, .int y4, .int y5, .int y6, .int 1, .null]) dX12_rests_43 (Nat.le_of_ble_eq_true rfl) rfl rfl ?_
      refine B_iconst dX12_rests_45 ic_0 ?_
      refine B_istore (ls' := [.ref 0, .int y1, .int y2, .int y3, .int y4, .int y5, .int y6, .int 1, .int 0]) dX12_rests_46 (Nat.le_of_ble_eq_true rfl) rfl rfl ?_
      exact b_X12_rests_L48 hkL27 (fun qy1 qy2 qy3 qy4 qy5 qy6 qh => ih qy1 qy2 qy3 qy4 qy5 qy6 qh) dFu y1 y2 y3 y4 y5 y6 true 0 h
def f_X12_rests_L27 : Nat → Int32 → Int32 → Int32 → Int32 → Int32 → dH → Option (Int32 × dH)
  | 0, _, _, _, _, _, _ => none
  | n + 1, y1, y2, y3, y4, y5, h =>
    if y5 < 4 then
    f_X12_rests_L36 (f_X12_rests_L27 n) dFu y1 y2 y3 y4 y5 0 h
    else
    if y3 = (-1) then
    some (y4, h)
    else
    some ((-1), h)
set_option maxRecDepth 20000 in
set_option maxHeartbeats 4000000 in
theorem b_X12_rests_L27 : ∀ (n : Nat) (y1 : Int32) (y2 : Int32) (y3 : Int32) (y4 : Int32) (y5 : Int32) (h : dH), B XM 86 RX12 cX12_rests 9 (some .int) fiI 27 [.ref 0, .int y1, .int y2, .int y3, .int y4, .int y5, .null, .null, .null] [] h (f_X12_rests_L27 n y1 y2 y3 y4 y5 h) := by
  intro n
  induction n with
  | zero =>
    intro y1 y2 y3 y4 y5 h
    exact B_none
  | succ n ih =>
    intro y1 y2 y3 y4 y5 h
    rw [f_X12_rests_L27]
    refine B_iload dX12_rests_27 rfl ?_
    refine B_iconst dX12_rests_29 ic_4 ?_
    refine C_icmp_ge (tgt := 160) dX12_rests_30 (by decide) (fun q5 => ?_) (fun q5 => ?_)
    · refine B_iload_n dX12_rests_160 rfl rfl ?_
      refine B_iconst dX12_rests_161 ic_m1 ?_
      refine C_icmp_ne (tgt := 170) dX12_rests_162 (by decide) (fun q4 => ?_) (fun q4 => ?_)
      · refine B_iconst dX12_rests_170 ic_m1 ?_
        exact B_ireturn dX12_rests_171 rfl rfl
      · refine B_iload dX12_rests_165 rfl ?_
        refine B_goto (tgt := 171) dX12_rests_167 (by decide) ?_
        exact B_ireturn dX12_rests_171 rfl rfl
    · refine B_iconst dX12_rests_33 ic_0 ?_
      refine B_istore (ls' := [.ref 0, .int y1, .int y2, .int y3, .int y4, .int y5, .int 0, .null, .null]) dX12_rests_34 (Nat.le_of_ble_eq_true rfl) rfl rfl ?_
      exact b_X12_rests_L36 (fun qy1 qy2 qy3 qy4 qy5 qh => ih qy1 qy2 qy3 qy4 qy5 qh) dFu y1 y2 y3 y4 y5 0 h
def f_X12_rests (x1 : Int32) (x2 : Int32) (x3 : Int32) (h : dH) : Option (Int32 × dH) :=
  (some (dPut h 0 0 0)).bind fun h1 =>
  if (f_X12_isGame x1 x2 h1) then
  if x3 < (-1) then
  some ((-1), h1)
  else
  f_X12_rests_L27 dFu x1 x2 x3 0 0 h1
  else
  some ((-1), h1)
set_option maxRecDepth 20000 in
set_option maxHeartbeats 4000000 in
theorem t_X12_rests (x1 : Int32) (x2 : Int32) (x3 : Int32) (h : dH) : T XM 86 yX12_rests cX12_rests 9 (some .int) fiI [.ref 0, .int x1, .int x2, .int x3] h (f_X12_rests x1 x2 x3 h) := by
  refine T_of [.ref 0, .int x1, .int x2, .int x3, .null, .null, .null, .null, .null] (by decide) (fun _ => rfl) (fun _ => Nat.le_of_ble_eq_true rfl) ?_
  show B XM 86 RX12 cX12_rests 9 (some .int) fiI 0 [.ref 0, .int x1, .int x2, .int x3, .null, .null, .null, .null, .null] [] h (f_X12_rests x1 x2 x3 h)
  unfold f_X12_rests
  refine B_aload_n dX12_rests_0 rfl rfl ?_
  refine B_iconst dX12_rests_1 ic_0 ?_
  refine B_putI dX12_rests_2 fl_X12_103 fw_X12_0 shM_0 rfl ?_
  refine B_lh (fun h1 => ?_)
  refine B_aload_n dX12_rests_5 rfl rfl ?_
  refine B_iload_n dX12_rests_6 rfl rfl ?_
  refine B_iload_n dX12_rests_7 rfl rfl ?_
  refine B_VTb (st := []) dX12_rests_8 cl_X12_475 (t_X12_isGame x1 x2 h1) (Nat.le_of_ble_eq_true rfl) shM_0 rfl rfl (Nat.le_of_ble_eq_true rfl) ?_
  refine C_ifb_eq (tgt := 19) dX12_rests_11 (by decide) (fun q3 => ?_) (fun q3 => ?_)
  · refine B_iconst dX12_rests_19 ic_m1 ?_
    exact B_ireturn dX12_rests_20 rfl rfl
  · refine B_iload_n dX12_rests_14 rfl rfl ?_
    refine B_iconst dX12_rests_15 ic_m1 ?_
    refine C_icmp_ge (tgt := 21) dX12_rests_16 (by decide) (fun q2 => ?_) (fun q2 => ?_)
    · refine B_iconst dX12_rests_21 ic_0 ?_
      refine B_istore (ls' := [.ref 0, .int x1, .int x2, .int x3, .int 0, .null, .null, .null, .null]) dX12_rests_22 (Nat.le_of_ble_eq_true rfl) rfl rfl ?_
      refine B_iconst dX12_rests_24 ic_0 ?_
      refine B_istore (ls' := [.ref 0, .int x1, .int x2, .int x3, .int 0, .int 0, .null, .null, .null]) dX12_rests_25 (Nat.le_of_ble_eq_true rfl) rfl rfl ?_
      exact b_X12_rests_L27 dFu x1 x2 x3 0 0 h1
    · refine B_iconst dX12_rests_19 ic_m1 ?_
      exact B_ireturn dX12_rests_20 rfl rfl
def f_X12_oddsFrom_J114 (rc_X12_oddsFrom : Int32 → Int32 → Int32 → Int32 → Int32 → Int32 → Int32 → dH → Option (Int32)) (y1 : Int32) (y2 : Int32) (y4 : Int32) (y5 : Int32) (y6 : Int32) (y8 : Int32) (y9 : Int32) (y10 : Int32) (y11 : Int32) (h : dH) : Option (Int32) :=
  if (h.1 5 1) < ((y4 + y9) + 2) then
  some y11
  else
  (rc_X12_oddsFrom (y1 + 1) y2 y8 ((y4 + y9) + 2) (y5 + y9) y6 y10 h).bind fun v10 =>
  (some ((y11 + v10))).bind fun v11 =>
  some v11
set_option maxRecDepth 20000 in
set_option maxHeartbeats 4000000 in
theorem b_X12_oddsFrom_J114 {Dr : Nat} {rc_X12_oddsFrom : Int32 → Int32 → Int32 → Int32 → Int32 → Int32 → Int32 → dH → Option (Int32)} (hDr : 2 ≤ Dr) (hrc_X12_oddsFrom : ∀ (x1 : Int32) (x2 : Int32) (x3 : Int32) (x4 : Int32) (x5 : Int32) (x6 : Int32) (x7 : Int32) (h : dH), T XM Dr yX12_oddsFrom cX12_oddsFrom 12 (some .int) (fiP h) [.ref 0, .int x1, .int x2, .int x3, .int x4, .int x5, .int x6, .int x7] h (rc_X12_oddsFrom x1 x2 x3 x4 x5 x6 x7 h)) (h : dH) (y1 : Int32) (y2 : Int32) (y4 : Int32) (y5 : Int32) (y6 : Int32) (y8 : Int32) (y9 : Int32) (y10 : Int32) (y11 : Int32) : B XM (Dr + 1) RX12 cX12_oddsFrom 12 (some .int) (fiP h) 114 [.ref 0, .int y1, .int y2, .null, .int y4, .int y5, .int y6, .null, .int y8, .int y9, .int y10, .int y11] [] h (f_X12_oddsFrom_J114 rc_X12_oddsFrom y1 y2 y4 y5 y6 y8 y9 y10 y11 h) := by
  unfold f_X12_oddsFrom_J114
  refine B_iload dX12_oddsFrom_114 rfl ?_
  refine B_iload dX12_oddsFrom_116 rfl ?_
  refine B_iadd dX12_oddsFrom_118 ?_
  refine B_iconst dX12_oddsFrom_119 ic_2 ?_
  refine B_iadd dX12_oddsFrom_120 ?_
  refine B_aload_n dX12_oddsFrom_121 rfl rfl ?_
  refine B_getR dX12_oddsFrom_122 fl_X12_37 shM_0 rfl (rfM_0_18 _) ?_
  refine B_iconst dX12_oddsFrom_125 ic_1 ?_
  refine L_iald dX12_oddsFrom_126 shM_5 (by decide) di_1 ?_
  refine C_icmp_gt (tgt := 161) dX12_oddsFrom_127 (by decide) (fun q12 => ?_) (fun q12 => ?_)
  · refine B_iload dX12_oddsFrom_161 rfl ?_
    exact B_ireturn dX12_oddsFrom_163 rfl rfl
  · refine B_iload dX12_oddsFrom_130 rfl ?_
    refine B_aload_n dX12_oddsFrom_132 rfl rfl ?_
    refine B_iload_n dX12_oddsFrom_133 rfl rfl ?_
    refine B_iconst dX12_oddsFrom_134 ic_1 ?_
    refine B_iadd dX12_oddsFrom_135 ?_
    refine B_iload_n dX12_oddsFrom_136 rfl rfl ?_
    refine B_iload dX12_oddsFrom_137 rfl ?_
    refine B_iload dX12_oddsFrom_139 rfl ?_
    refine B_iload dX12_oddsFrom_141 rfl ?_
    refine B_iadd dX12_oddsFrom_143 ?_
    refine B_iconst dX12_oddsFrom_144 ic_2 ?_
    refine B_iadd dX12_oddsFrom_145 ?_
    refine B_iload dX12_oddsFrom_146 rfl ?_
    refine B_iload dX12_oddsFrom_148 rfl ?_
    refine B_iadd dX12_oddsFrom_150 ?_
    refine B_iload dX12_oddsFrom_151 rfl ?_
    refine B_iload dX12_oddsFrom_153 rfl ?_
    refine B_Vp (st := [.int y11]) dX12_oddsFrom_155 cl_X12_486 (hrc_X12_oddsFrom (y1 + 1) y2 y8 ((y4 + y9) + 2) (y5 + y9) y6 y10 h) (by omega) shM_0 rfl rfl (Nat.le_of_ble_eq_true rfl) (fun v10 _ => ?_)
    refine B_iadd dX12_oddsFrom_158 ?_
    refine B_lv (fun v11 => ?_)
    refine B_istore (ls' := [.ref 0, .int y1, .int y2, .null, .int y4, .int y5, .int y6, .null, .int y8, .int y9, .int y10, .int v11]) dX12_oddsFrom_159 (Nat.le_of_ble_eq_true rfl) rfl rfl ?_
    refine B_iload dX12_oddsFrom_161 rfl ?_
    exact B_ireturn dX12_oddsFrom_163 rfl rfl
def f_X12_oddsFrom (rc_X12_oddsFrom : Int32 → Int32 → Int32 → Int32 → Int32 → Int32 → Int32 → dH → Option (Int32)) (x1 : Int32) (x2 : Int32) (x3 : Int32) (x4 : Int32) (x5 : Int32) (x6 : Int32) (x7 : Int32) (h : dH) : Option (Int32) :=
  if x1 = x2 then
  some x7
  else
  if dIn x1 7 then
  (some ((h.1 22 (dI x1)))).bind fun v2 =>
  (f_X12_between x3 v2 h).bind fun v3 =>
  if x3 = v2 then
  some 0
  else
  if (h.1 5 0) < (x5 + v3) then
  some 0
  else
  (some (((((x7 : Int32).toInt64 * (x6 : Int32).toInt64) / 100) : Int64).toInt32)).bind fun v4 =>
  if (h.1 5 1) < ((x4 + v3) + 1) then
  f_X12_oddsFrom_J114 rc_X12_oddsFrom x1 x2 x4 x5 x6 v2 v3 v4 0 h
  else
  (rc_X12_oddsFrom (x1 + 1) x2 v2 ((x4 + v3) + 1) (x5 + v3) x6 (x7 - v4) h).bind fun v5 =>
  f_X12_oddsFrom_J114 rc_X12_oddsFrom x1 x2 x4 x5 x6 v2 v3 v4 (0 + v5) h
  else none
set_option maxRecDepth 20000 in
set_option maxHeartbeats 4000000 in
theorem t_X12_oddsFrom {Dr : Nat} {rc_X12_oddsFrom : Int32 → Int32 → Int32 → Int32 → Int32 → Int32 → Int32 → dH → Option (Int32)} (hDr : 2 ≤ Dr) (hrc_X12_oddsFrom : ∀ (x1 : Int32) (x2 : Int32) (x3 : Int32) (x4 : Int32) (x5 : Int32) (x6 : Int32) (x7 : Int32) (h : dH), T XM Dr yX12_oddsFrom cX12_oddsFrom 12 (some .int) (fiP h) [.ref 0, .int x1, .int x2, .int x3, .int x4, .int x5, .int x6, .int x7] h (rc_X12_oddsFrom x1 x2 x3 x4 x5 x6 x7 h)) (x1 : Int32) (x2 : Int32) (x3 : Int32) (x4 : Int32) (x5 : Int32) (x6 : Int32) (x7 : Int32) (h : dH) : T XM (Dr + 1) yX12_oddsFrom cX12_oddsFrom 12 (some .int) (fiP h) [.ref 0, .int x1, .int x2, .int x3, .int x4, .int x5, .int x6, .int x7] h (f_X12_oddsFrom rc_X12_oddsFrom x1 x2 x3 x4 x5 x6 x7 h) := by
  refine T_of [.ref 0, .int x1, .int x2, .int x3, .int x4, .int x5, .int x6, .int x7, .null, .null, .null, .null] (by decide) (fun _ => rfl) (fun _ => Nat.le_of_ble_eq_true rfl) ?_
  show B XM (Dr + 1) RX12 cX12_oddsFrom 12 (some .int) (fiP h) 0 [.ref 0, .int x1, .int x2, .int x3, .int x4, .int x5, .int x6, .int x7, .null, .null, .null, .null] [] h (f_X12_oddsFrom rc_X12_oddsFrom x1 x2 x3 x4 x5 x6 x7 h)
  unfold f_X12_oddsFrom
  refine B_iload_n dX12_oddsFrom_0 rfl rfl ?_
  refine B_iload_n dX12_oddsFrom_1 rfl rfl ?_
  refine C_icmp_ne (tgt := 8) dX12_oddsFrom_2 (by decide) (fun q9 => ?_) (fun q9 => ?_)
  · refine B_aload_n dX12_oddsFrom_8 rfl rfl ?_
    refine B_getR dX12_oddsFrom_9 fl_X12_97 shM_0 rfl (rfM_0_52 _) ?_
    refine B_iload_n dX12_oddsFrom_12 rfl rfl ?_
    refine C_chk (fun q1 => ?_)
    refine L_iald dX12_oddsFrom_13 shM_22 q1 rfl ?_
    refine B_lv (fun v2 => ?_)
    refine B_istore (ls' := [.ref 0, .int x1, .int x2, .int x3, .int x4, .int x5, .int x6, .int x7, .int v2, .null, .null, .null]) dX12_oddsFrom_14 (Nat.le_of_ble_eq_true rfl) rfl rfl ?_
    refine B_aload_n dX12_oddsFrom_16 rfl rfl ?_
    refine B_iload_n dX12_oddsFrom_17 rfl rfl ?_
    refine B_iload dX12_oddsFrom_18 rfl ?_
    refine B_Vp (st := []) dX12_oddsFrom_20 cl_X12_315 (t_X12_between x3 v2 h) (by omega) shM_0 rfl rfl (Nat.le_of_ble_eq_true rfl) (fun v3 _ => ?_)
    refine B_istore (ls' := [.ref 0, .int x1, .int x2, .int x3, .int x4, .int x5, .int x6, .int x7, .int v2, .int v3, .null, .null]) dX12_oddsFrom_23 (Nat.le_of_ble_eq_true rfl) rfl rfl ?_
    refine B_iload_n dX12_oddsFrom_25 rfl rfl ?_
    refine B_iload dX12_oddsFrom_26 rfl ?_
    refine C_icmp_eq (tgt := 45) dX12_oddsFrom_28 (by decide) (fun q8 => ?_) (fun q8 => ?_)
    · refine B_iconst dX12_oddsFrom_45 ic_0 ?_
      exact B_ireturn dX12_oddsFrom_46 rfl rfl
    · refine B_iload dX12_oddsFrom_31 rfl ?_
      refine B_iload dX12_oddsFrom_33 rfl ?_
      refine B_iadd dX12_oddsFrom_35 ?_
      refine B_aload_n dX12_oddsFrom_36 rfl rfl ?_
      refine B_getR dX12_oddsFrom_37 fl_X12_37 shM_0 rfl (rfM_0_18 _) ?_
      refine B_iconst dX12_oddsFrom_40 ic_0 ?_
      refine L_iald dX12_oddsFrom_41 shM_5 (by decide) di_0 ?_
      refine C_icmp_le (tgt := 47) dX12_oddsFrom_42 (by decide) (fun q7 => ?_) (fun q7 => ?_)
      · refine B_iload dX12_oddsFrom_47 rfl ?_
        refine B_i2l dX12_oddsFrom_49 ?_
        refine B_iload dX12_oddsFrom_50 rfl ?_
        refine B_i2l dX12_oddsFrom_52 ?_
        refine B_lmul dX12_oddsFrom_53 ?_
        refine B_ldc2 dX12_oddsFrom_54 kc_X12_484 ?_
        refine B_ldiv dX12_oddsFrom_57 (by decide) ?_
        refine B_l2i dX12_oddsFrom_58 ?_
        refine B_lv (fun v4 => ?_)
        refine B_istore (ls' := [.ref 0, .int x1, .int x2, .int x3, .int x4, .int x5, .int x6, .int x7, .int v2, .int v3, .int v4, .null]) dX12_oddsFrom_59 (Nat.le_of_ble_eq_true rfl) rfl rfl ?_
        refine B_iconst dX12_oddsFrom_61 ic_0 ?_
        refine B_istore (ls' := [.ref 0, .int x1, .int x2, .int x3, .int x4, .int x5, .int x6, .int x7, .int v2, .int v3, .int v4, .int 0]) dX12_oddsFrom_62 (Nat.le_of_ble_eq_true rfl) rfl rfl ?_
        refine B_iload dX12_oddsFrom_64 rfl ?_
        refine B_iload dX12_oddsFrom_66 rfl ?_
        refine B_iadd dX12_oddsFrom_68 ?_
        refine B_iconst dX12_oddsFrom_69 ic_1 ?_
        refine B_iadd dX12_oddsFrom_70 ?_
        refine B_aload_n dX12_oddsFrom_71 rfl rfl ?_
        refine B_getR dX12_oddsFrom_72 fl_X12_37 shM_0 rfl (rfM_0_18 _) ?_
        refine B_iconst dX12_oddsFrom_75 ic_1 ?_
        refine L_iald dX12_oddsFrom_76 shM_5 (by decide) di_1 ?_
        refine C_icmp_gt (tgt := 114) dX12_oddsFrom_77 (by decide) (fun q6 => ?_) (fun q6 => ?_)
        · refine B_drop 3 (ls' := [.ref 0, .int x1, .int x2, .null, .int x4, .int x5, .int x6, .int x7, .int v2, .int v3, .int v4, .int 0]) rfl ?_
          refine B_drop 7 (ls' := [.ref 0, .int x1, .int x2, .null, .int x4, .int x5, .int x6, .null, .int v2, .int v3, .int v4, .int 0]) rfl ?_
          exact b_X12_oddsFrom_J114 hDr hrc_X12_oddsFrom h x1 x2 x4 x5 x6 v2 v3 v4 0
        · refine B_iload dX12_oddsFrom_80 rfl ?_
          refine B_aload_n dX12_oddsFrom_82 rfl rfl ?_
          refine B_iload_n dX12_oddsFrom_83 rfl rfl ?_
          refine B_iconst dX12_oddsFrom_84 ic_1 ?_
          refine B_iadd dX12_oddsFrom_85 ?_
          refine B_iload_n dX12_oddsFrom_86 rfl rfl ?_
          refine B_iload dX12_oddsFrom_87 rfl ?_
          refine B_iload dX12_oddsFrom_89 rfl ?_
          refine B_iload dX12_oddsFrom_91 rfl ?_
          refine B_iadd dX12_oddsFrom_93 ?_
          refine B_iconst dX12_oddsFrom_94 ic_1 ?_
          refine B_iadd dX12_oddsFrom_95 ?_
          refine B_iload dX12_oddsFrom_96 rfl ?_
          refine B_iload dX12_oddsFrom_98 rfl ?_
          refine B_iadd dX12_oddsFrom_100 ?_
          refine B_iload dX12_oddsFrom_101 rfl ?_
          refine B_iload dX12_oddsFrom_103 rfl ?_
          refine B_iload dX12_oddsFrom_105 rfl ?_
          refine B_isub dX12_oddsFrom_107 ?_
          refine B_Vp (st := [.int 0]) dX12_oddsFrom_108 cl_X12_486 (hrc_X12_oddsFrom (x1 + 1) x2 v2 ((x4 + v3) + 1) (x5 + v3) x6 (x7 - v4) h) (by omega) shM_0 rfl rfl (Nat.le_of_ble_eq_true rfl) (fun v5 _ => ?_)
          refine B_iadd dX12_oddsFrom_111 ?_
          refine B_istore (ls' := [.ref 0, .int x1, .int x2, .int x3, .int x4, .int x5, .int x6, .int x7, .int v2, .int v3, .int v4, .int (0 + v5)]) dX12_oddsFrom_112 (Nat.le_of_ble_eq_true rfl) rfl rfl ?_
          refine B_drop 3 (ls' := [.ref 0, .int x1, .int x2, .null, .int x4, .int x5, .int x6, .int x7, .int v2, .int v3, .int v4, .int (0 + v5)]) rfl ?_
          refine B_drop 7 (ls' := [.ref 0, .int x1, .int x2, .null, .int x4, .int x5, .int x6, .null, .int v2, .int v3, .int v4, .int (0 + v5)]) rfl ?_
          exact b_X12_oddsFrom_J114 hDr hrc_X12_oddsFrom h x1 x2 x4 x5 x6 v2 v3 v4 (0 + v5)
      · refine B_iconst dX12_oddsFrom_45 ic_0 ?_
        exact B_ireturn dX12_oddsFrom_46 rfl rfl
  · refine B_iload dX12_oddsFrom_5 rfl ?_
    exact B_ireturn dX12_oddsFrom_7 rfl rfl
def g_X12_oddsFrom : Nat → (Int32 → Int32 → Int32 → Int32 → Int32 → Int32 → Int32 → dH → Option (Int32))
  | 0 => (fun _ _ _ _ _ _ _ _ => none)
  | n + 1 => (f_X12_oddsFrom (g_X12_oddsFrom n))
def r_X12_oddsFrom (n : Nat) : Int32 → Int32 → Int32 → Int32 → Int32 → Int32 → Int32 → dH → Option (Int32) := (g_X12_oddsFrom n)
set_option maxRecDepth 20000 in
set_option maxHeartbeats 4000000 in
theorem t_g_X12_oddsFrom : ∀ n : Nat, (∀ (x1 : Int32) (x2 : Int32) (x3 : Int32) (x4 : Int32) (x5 : Int32) (x6 : Int32) (x7 : Int32) (h : dH), T XM (2 + n) yX12_oddsFrom cX12_oddsFrom 12 (some .int) (fiP h) [.ref 0, .int x1, .int x2, .int x3, .int x4, .int x5, .int x6, .int x7] h (r_X12_oddsFrom n x1 x2 x3 x4 x5 x6 x7 h)) := by
  intro n
  induction n with
  | zero =>
    exact fun _ _ _ _ _ _ _ _ => T_none
  | succ n ih =>
    exact fun x1 x2 x3 x4 x5 x6 x7 h => (t_X12_oddsFrom (Nat.le_add_right 2 n) ih x1 x2 x3 x4 x5 x6 x7 h : T _ (2 + n + 1) _ _ _ _ _ _ _ _)
theorem t_X12_oddsFrom_r : ∀ (x1 : Int32) (x2 : Int32) (x3 : Int32) (x4 : Int32) (x5 : Int32) (x6 : Int32) (x7 : Int32) (h : dH), T XM 11 yX12_oddsFrom cX12_oddsFrom 12 (some .int) (fiP h) [.ref 0, .int x1, .int x2, .int x3, .int x4, .int x5, .int x6, .int x7] h (r_X12_oddsFrom 9 x1 x2 x3 x4 x5 x6 x7 h) := (t_g_X12_oddsFrom 9)
def f_X12_odds (x1 : Int32) (x2 : Int32) (x3 : Int32) (h : dH) : Option (Int32 × dH) :=
  (some (dPut h 0 0 0)).bind fun h1 =>
  (f_X12_laysRow x1 x2 h1).bind fun rv2 =>
  if rv2.1 then
  if (f_X12_isIn ((x3 : Int32).toInt64) 0 100 rv2.2) then
  ((r_X12_oddsFrom 9) 0 x2 (f_X12_where 11 rv2.2) (rv2.2.1 11 21) (rv2.2.1 11 22) x3 1000000000 rv2.2).bind fun v4 =>
  some (v4, rv2.2)
  else
  some ((-1), rv2.2)
  else
  some ((-1), rv2.2)
set_option maxRecDepth 20000 in
set_option maxHeartbeats 4000000 in
theorem t_X12_odds (x1 : Int32) (x2 : Int32) (x3 : Int32) (h : dH) : T XM 12 yX12_odds cX12_odds 4 (some .int) fiI [.ref 0, .int x1, .int x2, .int x3] h (f_X12_odds x1 x2 x3 h) := by
  refine T_of [.ref 0, .int x1, .int x2, .int x3] (by decide) (fun _ => rfl) (fun _ => Nat.le_of_ble_eq_true rfl) ?_
  show B XM 12 RX12 cX12_odds 4 (some .int) fiI 0 [.ref 0, .int x1, .int x2, .int x3] [] h (f_X12_odds x1 x2 x3 h)
  unfold f_X12_odds
  refine B_aload_n dX12_odds_0 rfl rfl ?_
  refine B_iconst dX12_odds_1 ic_0 ?_
  refine B_putI dX12_odds_2 fl_X12_103 fw_X12_0 shM_0 rfl ?_
  refine B_lh (fun h1 => ?_)
  refine B_aload_n dX12_odds_5 rfl rfl ?_
  refine B_iload_n dX12_odds_6 rfl rfl ?_
  refine B_iload_n dX12_odds_7 rfl rfl ?_
  refine B_VC (st := []) dX12_odds_8 cl_X12_468 (t_X12_laysRow x1 x2 h1) (Nat.le_of_ble_eq_true rfl) shM_0 rfl rfl (Nat.le_of_ble_eq_true rfl) (fun v2 h3 _ => ?_)
  refine C_ifb_eq (tgt := 60) dX12_odds_11 (by decide) (fun q6 => ?_) (fun q6 => ?_)
  · refine B_iconst dX12_odds_60 ic_m1 ?_
    exact B_ireturn dX12_odds_61 rfl rfl
  · refine B_iload_n dX12_odds_14 rfl rfl ?_
    refine B_i2l dX12_odds_15 ?_
    refine B_lconst (v := 0) dX12_odds_16 (by decide) ?_
    refine B_ldc2 dX12_odds_17 kc_X12_484 ?_
    refine B_STb (st := []) dX12_odds_20 cl_X12_224 (t_X12_isIn ((x3 : Int32).toInt64) 0 100 h3) (Nat.le_of_ble_eq_true rfl) rfl rfl (Nat.le_of_ble_eq_true rfl) ?_
    refine C_ifb_eq (tgt := 60) dX12_odds_23 (by decide) (fun q5 => ?_) (fun q5 => ?_)
    · refine B_iconst dX12_odds_60 ic_m1 ?_
      exact B_ireturn dX12_odds_61 rfl rfl
    · refine B_aload_n dX12_odds_26 rfl rfl ?_
      refine B_iconst dX12_odds_27 ic_0 ?_
      refine B_iload_n dX12_odds_28 rfl rfl ?_
      refine B_aload_n dX12_odds_29 rfl rfl ?_
      refine B_getR dX12_odds_30 fl_X12_55 shM_0 rfl (rfM_0_28 _) ?_
      refine B_St (st := [.int x2, .int 0, .ref 0]) dX12_odds_33 cl_X12_311 (t_X12_where 11 shM_11 h3) (Nat.le_of_ble_eq_true rfl) rfl rfl (Nat.le_of_ble_eq_true rfl) ?_
      refine B_aload_n dX12_odds_36 rfl rfl ?_
      refine B_getR dX12_odds_37 fl_X12_55 shM_0 rfl (rfM_0_28 _) ?_
      refine B_bipush dX12_odds_40 bp_21 ?_
      refine L_iald dX12_odds_42 shM_11 (by decide) di_21 ?_
      refine B_aload_n dX12_odds_43 rfl rfl ?_
      refine B_getR dX12_odds_44 fl_X12_55 shM_0 rfl (rfM_0_28 _) ?_
      refine B_bipush dX12_odds_47 bp_22 ?_
      refine L_iald dX12_odds_49 shM_11 (by decide) di_22 ?_
      refine B_iload_n dX12_odds_50 rfl rfl ?_
      refine B_ldcw dX12_odds_51 kc_X12_490 ?_
      refine B_Vp (st := []) dX12_odds_54 cl_X12_486 (t_X12_oddsFrom_r 0 x2 (f_X12_where 11 h3) (h3.1 11 21) (h3.1 11 22) x3 1000000000 h3) (Nat.le_of_ble_eq_true rfl) shM_0 rfl rfl (Nat.le_of_ble_eq_true rfl) (fun v4 _ => ?_)
      refine B_goto (tgt := 61) dX12_odds_57 (by decide) ?_
      exact B_ireturn dX12_odds_61 rfl rfl
def f_X12_cost (x1 : Int32) (h : dH) : Option (Int32 × dH) :=
  (some (dPut h 0 0 0)).bind fun h1 =>
  if (f_X12_isPlace x1 h1) then
  (f_X12_far 11 x1 h1).bind fun v2 =>
  (f_X12_between (-1) x1 h1).bind fun v3 =>
  some ((v2 + v3), h1)
  else
  some ((-1), h1)
set_option maxRecDepth 20000 in
set_option maxHeartbeats 4000000 in
theorem t_X12_cost (x1 : Int32) (h : dH) : T XM 3 yX12_cost cX12_cost 2 (some .int) fiI [.ref 0, .int x1] h (f_X12_cost x1 h) := by
  refine T_of [.ref 0, .int x1] (by decide) (fun _ => rfl) (fun _ => Nat.le_of_ble_eq_true rfl) ?_
  show B XM 3 RX12 cX12_cost 2 (some .int) fiI 0 [.ref 0, .int x1] [] h (f_X12_cost x1 h)
  unfold f_X12_cost
  refine B_aload_n dX12_cost_0 rfl rfl ?_
  refine B_iconst dX12_cost_1 ic_0 ?_
  refine B_putI dX12_cost_2 fl_X12_103 fw_X12_0 shM_0 rfl ?_
  refine B_lh (fun h1 => ?_)
  refine B_aload_n dX12_cost_5 rfl rfl ?_
  refine B_iload_n dX12_cost_6 rfl rfl ?_
  refine B_VTb (st := []) dX12_cost_7 cl_X12_339 (t_X12_isPlace x1 h1) (Nat.le_of_ble_eq_true rfl) shM_0 rfl rfl (Nat.le_of_ble_eq_true rfl) ?_
  refine C_ifb_eq (tgt := 32) dX12_cost_10 (by decide) (fun q4 => ?_) (fun q4 => ?_)
  · refine B_iconst dX12_cost_32 ic_m1 ?_
    exact B_ireturn dX12_cost_33 rfl rfl
  · refine B_aload_n dX12_cost_13 rfl rfl ?_
    refine B_aload_n dX12_cost_14 rfl rfl ?_
    refine B_getR dX12_cost_15 fl_X12_55 shM_0 rfl (rfM_0_28 _) ?_
    refine B_iload_n dX12_cost_18 rfl rfl ?_
    refine B_Vp (st := []) dX12_cost_19 cl_X12_328 (t_X12_far 11 shM_11 x1 h1) (Nat.le_of_ble_eq_true rfl) shM_0 rfl rfl (Nat.le_of_ble_eq_true rfl) (fun v2 _ => ?_)
    refine B_aload_n dX12_cost_22 rfl rfl ?_
    refine B_iconst dX12_cost_23 ic_m1 ?_
    refine B_iload_n dX12_cost_24 rfl rfl ?_
    refine B_Vp (st := [.int v2]) dX12_cost_25 cl_X12_315 (t_X12_between (-1) x1 h1) (Nat.le_of_ble_eq_true rfl) shM_0 rfl rfl (Nat.le_of_ble_eq_true rfl) (fun v3 _ => ?_)
    refine B_iadd dX12_cost_28 ?_
    refine B_goto (tgt := 33) dX12_cost_29 (by decide) ?_
    exact B_ireturn dX12_cost_33 rfl rfl
def f_X12_valueOf (x1 : Int32) (x2 : Int32) (h : dH) : Option (Int32) :=
  if x1 = 2 then
  if dIn ((3 * x2) + 1) 209 then
  if dIn ((3 * x2) + 0) 209 then
  some ((h.1 11 (dI ((3 * x2) + 1))) - (h.1 11 (dI ((3 * x2) + 0))))
  else none
  else none
  else
  if x1 = 3 then
  if dIn ((3 * x2) + 0) 209 then
  some (h.1 11 (dI ((3 * x2) + 0)))
  else none
  else
  if x1 = 4 then
  (f_X12_of x2 3 h).bind fun v5 =>
  some v5
  else
  if x1 = 5 then
  (f_X12_between (-1) x2 h).bind fun v6 =>
  some v6
  else
  (f_X12_far 11 x2 h).bind fun v7 =>
  some (-v7)
set_option maxRecDepth 20000 in
set_option maxHeartbeats 4000000 in
theorem t_X12_valueOf (x1 : Int32) (x2 : Int32) (h : dH) : T XM 3 yX12_valueOf cX12_valueOf 3 (some .int) (fiP h) [.ref 0, .int x1, .int x2] h (f_X12_valueOf x1 x2 h) := by
  refine T_of [.ref 0, .int x1, .int x2] (by decide) (fun _ => rfl) (fun _ => Nat.le_of_ble_eq_true rfl) ?_
  show B XM 3 RX12 cX12_valueOf 3 (some .int) (fiP h) 0 [.ref 0, .int x1, .int x2] [] h (f_X12_valueOf x1 x2 h)
  unfold f_X12_valueOf
  refine B_iload_n dX12_valueOf_0 rfl rfl ?_
  refine C_ite (fun n1_2 => ?_) (fun n1_2 => ?_)
  · refine B_tswIn (off := 31) (tgt := 32) dX12_valueOf_1 (by rw [n1_2]; decide) (by rw [n1_2]; decide) (by rw [n1_2]; decide) (by decide) ?_
    refine B_aload_n dX12_valueOf_32 rfl rfl ?_
    refine B_getR dX12_valueOf_33 fl_X12_55 shM_0 rfl (rfM_0_28 _) ?_
    refine B_iconst dX12_valueOf_36 ic_3 ?_
    refine B_iload_n dX12_valueOf_37 rfl rfl ?_
    refine B_imul dX12_valueOf_38 ?_
    refine B_iconst dX12_valueOf_39 ic_1 ?_
    refine B_iadd dX12_valueOf_40 ?_
    refine C_chk (fun q2 => ?_)
    refine L_iald dX12_valueOf_41 shM_11 q2 rfl ?_
    refine B_aload_n dX12_valueOf_42 rfl rfl ?_
    refine B_getR dX12_valueOf_43 fl_X12_55 shM_0 rfl (rfM_0_28 _) ?_
    refine B_iconst dX12_valueOf_46 ic_3 ?_
    refine B_iload_n dX12_valueOf_47 rfl rfl ?_
    refine B_imul dX12_valueOf_48 ?_
    refine B_iconst dX12_valueOf_49 ic_0 ?_
    refine B_iadd dX12_valueOf_50 ?_
    refine C_chk (fun q3 => ?_)
    refine L_iald dX12_valueOf_51 shM_11 q3 rfl ?_
    refine B_isub dX12_valueOf_52 ?_
    exact B_ireturn dX12_valueOf_53 rfl rfl
  · refine C_ite (fun n1_3 => ?_) (fun n1_3 => ?_)
    · refine B_tswIn (off := 53) (tgt := 54) dX12_valueOf_1 (by rw [n1_3]; decide) (by rw [n1_3]; decide) (by rw [n1_3]; decide) (by decide) ?_
      refine B_aload_n dX12_valueOf_54 rfl rfl ?_
      refine B_getR dX12_valueOf_55 fl_X12_55 shM_0 rfl (rfM_0_28 _) ?_
      refine B_iconst dX12_valueOf_58 ic_3 ?_
      refine B_iload_n dX12_valueOf_59 rfl rfl ?_
      refine B_imul dX12_valueOf_60 ?_
      refine B_iconst dX12_valueOf_61 ic_0 ?_
      refine B_iadd dX12_valueOf_62 ?_
      refine C_chk (fun q4 => ?_)
      refine L_iald dX12_valueOf_63 shM_11 q4 rfl ?_
      exact B_ireturn dX12_valueOf_64 rfl rfl
    · refine C_ite (fun n1_4 => ?_) (fun n1_4 => ?_)
      · refine B_tswIn (off := 64) (tgt := 65) dX12_valueOf_1 (by rw [n1_4]; decide) (by rw [n1_4]; decide) (by rw [n1_4]; decide) (by decide) ?_
        refine B_aload_n dX12_valueOf_65 rfl rfl ?_
        refine B_iload_n dX12_valueOf_66 rfl rfl ?_
        refine B_iconst dX12_valueOf_67 ic_3 ?_
        refine B_Vp (st := []) dX12_valueOf_68 cl_X12_305 (t_X12_of x2 3 h) (Nat.le_of_ble_eq_true rfl) shM_0 rfl rfl (Nat.le_of_ble_eq_true rfl) (fun v5 _ => ?_)
        exact B_ireturn dX12_valueOf_71 rfl rfl
      · refine C_ite (fun n1_5 => ?_) (fun n1_5 => ?_)
        · refine B_tswIn (off := 71) (tgt := 72) dX12_valueOf_1 (by rw [n1_5]; decide) (by rw [n1_5]; decide) (by rw [n1_5]; decide) (by decide) ?_
          refine B_aload_n dX12_valueOf_72 rfl rfl ?_
          refine B_iconst dX12_valueOf_73 ic_m1 ?_
          refine B_iload_n dX12_valueOf_74 rfl rfl ?_
          refine B_Vp (st := []) dX12_valueOf_75 cl_X12_315 (t_X12_between (-1) x2 h) (Nat.le_of_ble_eq_true rfl) shM_0 rfl rfl (Nat.le_of_ble_eq_true rfl) (fun v6 _ => ?_)
          exact B_ireturn dX12_valueOf_78 rfl rfl
        · refine B_tswOut (tgt := 79) dX12_valueOf_1 (dsw (fun c h1 h2 => ?_)) (by decide) ?_
          · rcases (show c = 2 ∨ c = 3 ∨ c = 4 ∨ c = 5 by omega) with rfl | rfl | rfl | rfl
            · exact n1_2
            · exact n1_3
            · exact n1_4
            · exact n1_5
          · refine B_aload_n dX12_valueOf_79 rfl rfl ?_
            refine B_aload_n dX12_valueOf_80 rfl rfl ?_
            refine B_getR dX12_valueOf_81 fl_X12_55 shM_0 rfl (rfM_0_28 _) ?_
            refine B_iload_n dX12_valueOf_84 rfl rfl ?_
            refine B_Vp (st := []) dX12_valueOf_85 cl_X12_328 (t_X12_far 11 shM_11 x2 h) (Nat.le_of_ble_eq_true rfl) shM_0 rfl rfl (Nat.le_of_ble_eq_true rfl) (fun v7 _ => ?_)
            refine B_ineg dX12_valueOf_88 ?_
            exact B_ireturn dX12_valueOf_89 rfl rfl
def f_X12_greatest_J54 (kL4 : Int32 → Int32 → Int32 → Option (Int32)) (y1 : Int32) (y2 : Int32) (y3 : Int32) (h : dH) : Option (Int32) :=
  kL4 y1 y2 (y3 + 1)
set_option maxRecDepth 20000 in
set_option maxHeartbeats 4000000 in
theorem b_X12_greatest_J54 {kL4 : Int32 → Int32 → Int32 → Option (Int32)} (h : dH) (hkL4 : ∀ (y1 : Int32) (y2 : Int32) (y3 : Int32), B XM 4 RX12 cX12_greatest 4 (some .int) (fiP h) 4 [.ref 0, .int y1, .int y2, .int y3] [] h (kL4 y1 y2 y3)) (y1 : Int32) (y2 : Int32) (y3 : Int32) : B XM 4 RX12 cX12_greatest 4 (some .int) (fiP h) 54 [.ref 0, .int y1, .int y2, .int y3] [] h (f_X12_greatest_J54 kL4 y1 y2 y3 h) := by
  unfold f_X12_greatest_J54
  refine B_iinc (w := (y3 + 1)) (ls' := [.ref 0, .int y1, .int y2, .int (y3 + 1)]) dX12_greatest_54 rfl (congrArg (fun z => y3 + z) ic_1) (Nat.le_of_ble_eq_true rfl) rfl rfl ?_
  refine B_goto (tgt := 4) dX12_greatest_57 (by decide) ?_
  exact hkL4 y1 y2 (y3 + 1)  
def f_X12_greatest_J52 (kL4 : Int32 → Int32 → Int32 → Option (Int32)) (y1 : Int32) (y3 : Int32) (h : dH) : Option (Int32) :=
  f_X12_greatest_J54 kL4 y1 y3 y3 h
set_option maxRecDepth 20000 in
set_option maxHeartbeats 4000000 in
theorem b_X12_greatest_J52 {kL4 : Int32 → Int32 → Int32 → Option (Int32)} (h : dH) (hkL4 : ∀ (y1 : Int32) (y2 : Int32) (y3 : Int32), B XM 4 RX12 cX12_greatest 4 (some .int) (fiP h) 4 [.ref 0, .int y1, .int y2, .int y3] [] h (kL4 y1 y2 y3)) (y1 : Int32) (y3 : Int32) : B XM 4 RX12 cX12_greatest 4 (some .int) (fiP h) 52 [.ref 0, .int y1, .null, .int y3] [] h (f_X12_greatest_J52 kL4 y1 y3 h) := by
  unfold f_X12_greatest_J52
  refine B_iload_n dX12_greatest_52 rfl rfl ?_
  refine B_istore_n (ls' := [.ref 0, .int y1, .int y3, .int y3]) dX12_greatest_53 rfl (Nat.le_of_ble_eq_true rfl) rfl rfl ?_
  exact b_X12_greatest_J54 h hkL4 y1 y3 y3
def f_X12_greatest_J32 (kL4 : Int32 → Int32 → Int32 → Option (Int32)) (y1 : Int32) (y2 : Int32) (y3 : Int32) (h : dH) : Option (Int32) :=
  if y2 = (-1) then
  f_X12_greatest_J52 kL4 y1 y3 h
  else
  (f_X12_valueOf y1 y3 h).bind fun v4 =>
  (f_X12_valueOf y1 y2 h).bind fun v5 =>
  if v5 < v4 then
  f_X12_greatest_J52 kL4 y1 y3 h
  else
  f_X12_greatest_J54 kL4 y1 y2 y3 h
set_option maxRecDepth 20000 in
set_option maxHeartbeats 4000000 in
theorem b_X12_greatest_J32 {kL4 : Int32 → Int32 → Int32 → Option (Int32)} (h : dH) (hkL4 : ∀ (y1 : Int32) (y2 : Int32) (y3 : Int32), B XM 4 RX12 cX12_greatest 4 (some .int) (fiP h) 4 [.ref 0, .int y1, .int y2, .int y3] [] h (kL4 y1 y2 y3)) (y1 : Int32) (y2 : Int32) (y3 : Int32) : B XM 4 RX12 cX12_greatest 4 (some .int) (fiP h) 32 [.ref 0, .int y1, .int y2, .int y3] [] h (f_X12_greatest_J32 kL4 y1 y2 y3 h) := by
  unfold f_X12_greatest_J32
  refine B_iload_n dX12_greatest_32 rfl rfl ?_
  refine B_iconst dX12_greatest_33 ic_m1 ?_
  refine C_icmp_eq (tgt := 52) dX12_greatest_34 (by decide) (fun q7 => ?_) (fun q7 => ?_)
  · refine B_drop 2 (ls' := [.ref 0, .int y1, .null, .int y3]) rfl ?_
    exact b_X12_greatest_J52 h hkL4 y1 y3
  · refine B_aload_n dX12_greatest_37 rfl rfl ?_
    refine B_iload_n dX12_greatest_38 rfl rfl ?_
    refine B_iload_n dX12_greatest_39 rfl rfl ?_
    refine B_Vp (st := []) dX12_greatest_40 cl_X12_491 (t_X12_valueOf y1 y3 h) (Nat.le_of_ble_eq_true rfl) shM_0 rfl rfl (Nat.le_of_ble_eq_true rfl) (fun v4 _ => ?_)
    refine B_aload_n dX12_greatest_43 rfl rfl ?_
    refine B_iload_n dX12_greatest_44 rfl rfl ?_
    refine B_iload_n dX12_greatest_45 rfl rfl ?_
    refine B_Vp (st := [.int v4]) dX12_greatest_46 cl_X12_491 (t_X12_valueOf y1 y2 h) (Nat.le_of_ble_eq_true rfl) shM_0 rfl rfl (Nat.le_of_ble_eq_true rfl) (fun v5 _ => ?_)
    refine C_icmp_le (tgt := 54) dX12_greatest_49 (by decide) (fun q6 => ?_) (fun q6 => ?_)
    · exact b_X12_greatest_J54 h hkL4 y1 y2 y3
    · refine B_drop 2 (ls' := [.ref 0, .int y1, .null, .int y3]) rfl ?_
      exact b_X12_greatest_J52 h hkL4 y1 y3
def f_X12_greatest_L4 (h : dH) : Nat → Int32 → Int32 → Int32 → Option (Int32)
  | 0, _, _, _ => none
  | n + 1, y1, y2, y3 =>
    if y3 < (h.1 0 24) then
    if y1 = 6 then
    if y3 = (f_X12_where 11 h) then
    f_X12_greatest_J54 (f_X12_greatest_L4 h n) y1 y2 y3 h
    else
    f_X12_greatest_J32 (f_X12_greatest_L4 h n) y1 y2 y3 h
    else
    f_X12_greatest_J32 (f_X12_greatest_L4 h n) y1 y2 y3 h
    else
    some y2
set_option maxRecDepth 20000 in
set_option maxHeartbeats 4000000 in
theorem b_X12_greatest_L4 (h : dH) : ∀ (n : Nat) (y1 : Int32) (y2 : Int32) (y3 : Int32), B XM 4 RX12 cX12_greatest 4 (some .int) (fiP h) 4 [.ref 0, .int y1, .int y2, .int y3] [] h (f_X12_greatest_L4 h n y1 y2 y3) := by
  intro n
  induction n with
  | zero =>
    intro y1 y2 y3
    exact B_none
  | succ n ih =>
    intro y1 y2 y3
    rw [f_X12_greatest_L4]
    refine B_iload_n dX12_greatest_4 rfl rfl ?_
    refine B_aload_n dX12_greatest_5 rfl rfl ?_
    refine B_getI dX12_greatest_6 fl_X12_293 shM_0 rfl ?_
    refine C_icmp_ge (tgt := 60) dX12_greatest_9 (by decide) (fun q3 => ?_) (fun q3 => ?_)
    · refine B_iload_n dX12_greatest_60 rfl rfl ?_
      exact B_ireturn dX12_greatest_61 rfl rfl
    · refine B_iload_n dX12_greatest_12 rfl rfl ?_
      refine B_bipush dX12_greatest_13 bp_6 ?_
      refine C_icmp_ne (tgt := 32) dX12_greatest_15 (by decide) (fun q2 => ?_) (fun q2 => ?_)
      · exact b_X12_greatest_J32 h (fun qy1 qy2 qy3 => ih qy1 qy2 qy3) y1 y2 y3
      · refine B_iload_n dX12_greatest_18 rfl rfl ?_
        refine B_aload_n dX12_greatest_19 rfl rfl ?_
        refine B_getR dX12_greatest_20 fl_X12_55 shM_0 rfl (rfM_0_28 _) ?_
        refine B_St (st := [.int y3]) dX12_greatest_23 cl_X12_311 (t_X12_where 11 shM_11 h) (Nat.le_of_ble_eq_true rfl) rfl rfl (Nat.le_of_ble_eq_true rfl) ?_
        refine C_icmp_ne (tgt := 32) dX12_greatest_26 (by decide) (fun q1 => ?_) (fun q1 => ?_)
        · exact b_X12_greatest_J32 h (fun qy1 qy2 qy3 => ih qy1 qy2 qy3) y1 y2 y3
        · refine B_goto (tgt := 54) dX12_greatest_29 (by decide) ?_
          exact b_X12_greatest_J54 h (fun qy1 qy2 qy3 => ih qy1 qy2 qy3) y1 y2 y3
def f_X12_greatest (x1 : Int32) (h : dH) : Option (Int32) :=
  f_X12_greatest_L4 h dFu x1 (-1) 0
set_option maxRecDepth 20000 in
set_option maxHeartbeats 4000000 in
theorem t_X12_greatest (x1 : Int32) (h : dH) : T XM 4 yX12_greatest cX12_greatest 4 (some .int) (fiP h) [.ref 0, .int x1] h (f_X12_greatest x1 h) := by
  refine T_of [.ref 0, .int x1, .null, .null] (by decide) (fun _ => rfl) (fun _ => Nat.le_of_ble_eq_true rfl) ?_
  show B XM 4 RX12 cX12_greatest 4 (some .int) (fiP h) 0 [.ref 0, .int x1, .null, .null] [] h (f_X12_greatest x1 h)
  unfold f_X12_greatest
  refine B_iconst dX12_greatest_0 ic_m1 ?_
  refine B_istore_n (ls' := [.ref 0, .int x1, .int (-1), .null]) dX12_greatest_1 rfl (Nat.le_of_ble_eq_true rfl) rfl rfl ?_
  refine B_iconst dX12_greatest_2 ic_0 ?_
  refine B_istore_n (ls' := [.ref 0, .int x1, .int (-1), .int 0]) dX12_greatest_3 rfl (Nat.le_of_ble_eq_true rfl) rfl rfl ?_
  exact b_X12_greatest_L4 h dFu x1 (-1) 0
def f_X12_reach_J32 (kL4 : Int32 → Int32 → Option (Int32)) (y2 : Int32) (z0 : Int32) (z1 : Int32) (h : dH) : Option (Int32) :=
  (some ((z0 ||| z1))).bind fun v4 =>
  kL4 v4 (y2 + 1)
set_option maxRecDepth 20000 in
set_option maxHeartbeats 4000000 in
theorem b_X12_reach_J32 {kL4 : Int32 → Int32 → Option (Int32)} (h : dH) (hkL4 : ∀ (y1 : Int32) (y2 : Int32), B XM 4 RX12 cX12_reach 3 (some .int) (fiP h) 4 [.ref 0, .int y1, .int y2] [] h (kL4 y1 y2)) (y2 : Int32) (z0 : Int32) (z1 : Int32) : B XM 4 RX12 cX12_reach 3 (some .int) (fiP h) 32 [.ref 0, .null, .int y2] [.int z1, .int z0] h (f_X12_reach_J32 kL4 y2 z0 z1 h) := by
  unfold f_X12_reach_J32
  refine B_ior dX12_reach_32 ?_
  refine B_lv (fun v4 => ?_)
  refine B_istore_n (ls' := [.ref 0, .int v4, .int y2]) dX12_reach_33 rfl (Nat.le_of_ble_eq_true rfl) rfl rfl ?_
  refine B_iinc (w := (y2 + 1)) (ls' := [.ref 0, .int v4, .int (y2 + 1)]) dX12_reach_34 rfl (congrArg (fun z => y2 + z) ic_1) (Nat.le_of_ble_eq_true rfl) rfl rfl ?_
  refine B_goto (tgt := 4) dX12_reach_37 (by decide) ?_
  exact hkL4 v4 (y2 + 1)  
def f_X12_reach_L4 (h : dH) : Nat → Int32 → Int32 → Option (Int32)
  | 0, _, _ => none
  | n + 1, y1, y2 =>
    if y2 < (h.1 0 24) then
    (f_X12_canWalk 11 y2 h).bind fun v1 =>
    if v1 then
    f_X12_reach_J32 (f_X12_reach_L4 h n) y2 y1 (1 <<< (y2 &&& 31)) h
    else
    f_X12_reach_J32 (f_X12_reach_L4 h n) y2 y1 0 h
    else
    some y1
set_option maxRecDepth 20000 in
set_option maxHeartbeats 4000000 in
theorem b_X12_reach_L4 (h : dH) : ∀ (n : Nat) (y1 : Int32) (y2 : Int32), B XM 4 RX12 cX12_reach 3 (some .int) (fiP h) 4 [.ref 0, .int y1, .int y2] [] h (f_X12_reach_L4 h n y1 y2) := by
  intro n
  induction n with
  | zero =>
    intro y1 y2
    exact B_none
  | succ n ih =>
    intro y1 y2
    rw [f_X12_reach_L4]
    refine B_iload_n dX12_reach_4 rfl rfl ?_
    refine B_aload_n dX12_reach_5 rfl rfl ?_
    refine B_getI dX12_reach_6 fl_X12_293 shM_0 rfl ?_
    refine C_icmp_ge (tgt := 40) dX12_reach_9 (by decide) (fun q3 => ?_) (fun q3 => ?_)
    · refine B_iload_n dX12_reach_40 rfl rfl ?_
      exact B_ireturn dX12_reach_41 rfl rfl
    · refine B_iload_n dX12_reach_12 rfl rfl ?_
      refine B_aload_n dX12_reach_13 rfl rfl ?_
      refine B_aload_n dX12_reach_14 rfl rfl ?_
      refine B_getR dX12_reach_15 fl_X12_55 shM_0 rfl (rfM_0_28 _) ?_
      refine B_iload_n dX12_reach_18 rfl rfl ?_
      refine B_Vpb (st := [.int y1]) dX12_reach_19 cl_X12_353 (t_X12_canWalk 11 shM_11 y2 h) (Nat.le_of_ble_eq_true rfl) shM_0 rfl rfl (Nat.le_of_ble_eq_true rfl) (fun v1 _ => ?_)
      refine C_ifb_eq (tgt := 31) dX12_reach_22 (by decide) (fun q2 => ?_) (fun q2 => ?_)
      · refine B_iconst dX12_reach_31 ic_0 ?_
        refine B_drop 1 (ls' := [.ref 0, .null, .int y2]) rfl ?_
        exact b_X12_reach_J32 h (fun qy1 qy2 => ih qy1 qy2) y2 y1 0
      · refine B_iconst dX12_reach_25 ic_1 ?_
        refine B_iload_n dX12_reach_26 rfl rfl ?_
        refine B_ishl dX12_reach_27 ?_
        refine B_goto (tgt := 32) dX12_reach_28 (by decide) ?_
        refine B_drop 1 (ls' := [.ref 0, .null, .int y2]) rfl ?_
        exact b_X12_reach_J32 h (fun qy1 qy2 => ih qy1 qy2) y2 y1 (1 <<< (y2 &&& 31))
def f_X12_reach (h : dH) : Option (Int32) :=
  f_X12_reach_L4 h dFu 0 0
set_option maxRecDepth 20000 in
set_option maxHeartbeats 4000000 in
theorem t_X12_reach (h : dH) : T XM 4 yX12_reach cX12_reach 3 (some .int) (fiP h) [.ref 0] h (f_X12_reach h) := by
  refine T_of [.ref 0, .null, .null] (by decide) (fun _ => rfl) (fun _ => Nat.le_of_ble_eq_true rfl) ?_
  show B XM 4 RX12 cX12_reach 3 (some .int) (fiP h) 0 [.ref 0, .null, .null] [] h (f_X12_reach h)
  unfold f_X12_reach
  refine B_iconst dX12_reach_0 ic_0 ?_
  refine B_istore_n (ls' := [.ref 0, .int 0, .null]) dX12_reach_1 rfl (Nat.le_of_ble_eq_true rfl) rfl rfl ?_
  refine B_iconst dX12_reach_2 ic_0 ?_
  refine B_istore_n (ls' := [.ref 0, .int 0, .int 0]) dX12_reach_3 rfl (Nat.le_of_ble_eq_true rfl) rfl rfl ?_
  exact b_X12_reach_L4 h dFu 0 0
def f_X12_spread_L14 (kL4 : Int32 → Int32 → Option (Int32)) (h : dH) : Nat → Int32 → Int32 → Int32 → Option (Int32)
  | 0, _, _, _ => none
  | n + 1, y1, y2, y3 =>
    if y3 < y2 then
    (f_X12_between y2 y3 h).bind fun v2 =>
    (some ((jmax y1 v2))).bind fun v3 =>
    (f_X12_spread_L14 kL4 h n) v3 y2 (y3 + 1)
    else
    kL4 y1 (y2 + 1)
set_option maxRecDepth 20000 in
set_option maxHeartbeats 4000000 in
theorem b_X12_spread_L14 {kL4 : Int32 → Int32 → Option (Int32)} (h : dH) (hkL4 : ∀ (y1 : Int32) (y2 : Int32), B XM 2 RX12 cX12_spread 4 (some .int) (fiP h) 4 [.ref 0, .int y1, .int y2, .null] [] h (kL4 y1 y2)) : ∀ (n : Nat) (y1 : Int32) (y2 : Int32) (y3 : Int32), B XM 2 RX12 cX12_spread 4 (some .int) (fiP h) 14 [.ref 0, .int y1, .int y2, .int y3] [] h (f_X12_spread_L14 kL4 h n y1 y2 y3) := by
  intro n
  induction n with
  | zero =>
    intro y1 y2 y3
    exact B_none
  | succ n ih =>
    intro y1 y2 y3
    rw [f_X12_spread_L14]
    refine B_iload_n dX12_spread_14 rfl rfl ?_
    refine B_iload_n dX12_spread_15 rfl rfl ?_
    refine C_icmp_ge (tgt := 36) dX12_spread_16 (by decide) (fun q4 => ?_) (fun q4 => ?_)
    · refine B_iinc (w := (y2 + 1)) (ls' := [.ref 0, .int y1, .int (y2 + 1), .int y3]) dX12_spread_36 rfl (congrArg (fun z => y2 + z) ic_1) (Nat.le_of_ble_eq_true rfl) rfl rfl ?_
      refine B_goto (tgt := 4) dX12_spread_39 (by decide) ?_
      refine B_drop 3 (ls' := [.ref 0, .int y1, .int (y2 + 1), .null]) rfl ?_
      exact hkL4 y1 (y2 + 1)  
    · refine B_iload_n dX12_spread_19 rfl rfl ?_
      refine B_aload_n dX12_spread_20 rfl rfl ?_
      refine B_iload_n dX12_spread_21 rfl rfl ?_
      refine B_iload_n dX12_spread_22 rfl rfl ?_
      refine B_Vp (st := [.int y1]) dX12_spread_23 cl_X12_315 (t_X12_between y2 y3 h) (Nat.le_of_ble_eq_true rfl) shM_0 rfl rfl (Nat.le_of_ble_eq_true rfl) (fun v2 _ => ?_)
      refine B_mmax dX12_spread_26 mt_X12_337 (Nat.le_of_ble_eq_true rfl) (Nat.le_of_ble_eq_true rfl) ?_
      refine B_lv (fun v3 => ?_)
      refine B_istore_n (ls' := [.ref 0, .int v3, .int y2, .int y3]) dX12_spread_29 rfl (Nat.le_of_ble_eq_true rfl) rfl rfl ?_
      refine B_iinc (w := (y3 + 1)) (ls' := [.ref 0, .int v3, .int y2, .int (y3 + 1)]) dX12_spread_30 rfl (congrArg (fun z => y3 + z) ic_1) (Nat.le_of_ble_eq_true rfl) rfl rfl ?_
      refine B_goto (tgt := 14) dX12_spread_33 (by decide) ?_
      exact ih v3 y2 (y3 + 1)  
def f_X12_spread_L4 (h : dH) : Nat → Int32 → Int32 → Option (Int32)
  | 0, _, _ => none
  | n + 1, y1, y2 =>
    if y2 < (h.1 0 24) then
    f_X12_spread_L14 (f_X12_spread_L4 h n) h dFu y1 y2 0
    else
    some y1
set_option maxRecDepth 20000 in
set_option maxHeartbeats 4000000 in
theorem b_X12_spread_L4 (h : dH) : ∀ (n : Nat) (y1 : Int32) (y2 : Int32), B XM 2 RX12 cX12_spread 4 (some .int) (fiP h) 4 [.ref 0, .int y1, .int y2, .null] [] h (f_X12_spread_L4 h n y1 y2) := by
  intro n
  induction n with
  | zero =>
    intro y1 y2
    exact B_none
  | succ n ih =>
    intro y1 y2
    rw [f_X12_spread_L4]
    refine B_iload_n dX12_spread_4 rfl rfl ?_
    refine B_aload_n dX12_spread_5 rfl rfl ?_
    refine B_getI dX12_spread_6 fl_X12_293 shM_0 rfl ?_
    refine C_icmp_ge (tgt := 42) dX12_spread_9 (by decide) (fun q1 => ?_) (fun q1 => ?_)
    · refine B_iload_n dX12_spread_42 rfl rfl ?_
      exact B_ireturn dX12_spread_43 rfl rfl
    · refine B_iconst dX12_spread_12 ic_0 ?_
      refine B_istore_n (ls' := [.ref 0, .int y1, .int y2, .int 0]) dX12_spread_13 rfl (Nat.le_of_ble_eq_true rfl) rfl rfl ?_
      exact b_X12_spread_L14 h (fun qy1 qy2 => ih qy1 qy2) dFu y1 y2 0
def f_X12_spread (h : dH) : Option (Int32) :=
  f_X12_spread_L4 h dFu 0 0
set_option maxRecDepth 20000 in
set_option maxHeartbeats 4000000 in
theorem t_X12_spread (h : dH) : T XM 2 yX12_spread cX12_spread 4 (some .int) (fiP h) [.ref 0] h (f_X12_spread h) := by
  refine T_of [.ref 0, .null, .null, .null] (by decide) (fun _ => rfl) (fun _ => Nat.le_of_ble_eq_true rfl) ?_
  show B XM 2 RX12 cX12_spread 4 (some .int) (fiP h) 0 [.ref 0, .null, .null, .null] [] h (f_X12_spread h)
  unfold f_X12_spread
  refine B_iconst dX12_spread_0 ic_0 ?_
  refine B_istore_n (ls' := [.ref 0, .int 0, .null, .null]) dX12_spread_1 rfl (Nat.le_of_ble_eq_true rfl) rfl rfl ?_
  refine B_iconst dX12_spread_2 ic_0 ?_
  refine B_istore_n (ls' := [.ref 0, .int 0, .int 0, .null]) dX12_spread_3 rfl (Nat.le_of_ble_eq_true rfl) rfl rfl ?_
  exact b_X12_spread_L4 h dFu 0 0
def f_X12_all (x1 : Int32) (h : dH) : Option (Int32 × dH) :=
  (some (dPut h 0 0 0)).bind fun h1 =>
  if (h1.1 0 24) = 0 then
  some ((-1), h1)
  else
  if x1 = 0 then
  some ((h1.1 11 26), h1)
  else
  if x1 = 1 then
  (f_X12_tooMuch 11 h1).bind fun v3 =>
  some (v3, h1)
  else
  if x1 = 2 then
  (f_X12_greatest x1 h1).bind fun v4 =>
  some (v4, h1)
  else
  if x1 = 3 then
  (f_X12_greatest x1 h1).bind fun v5 =>
  some (v5, h1)
  else
  if x1 = 4 then
  (f_X12_greatest x1 h1).bind fun v6 =>
  some (v6, h1)
  else
  if x1 = 5 then
  (f_X12_greatest x1 h1).bind fun v7 =>
  some (v7, h1)
  else
  if x1 = 6 then
  (f_X12_greatest x1 h1).bind fun v8 =>
  some (v8, h1)
  else
  if x1 = 7 then
  (f_X12_reach h1).bind fun v9 =>
  some (v9, h1)
  else
  if x1 = 8 then
  some (((h1.1 5 0) - (h1.1 11 22)), h1)
  else
  if x1 = 9 then
  (f_X12_spread h1).bind fun v10 =>
  some (v10, h1)
  else
  some ((-1), h1)
set_option maxRecDepth 20000 in
set_option maxHeartbeats 4000000 in
theorem t_X12_all (x1 : Int32) (h : dH) : T XM 5 yX12_all cX12_all 2 (some .int) fiI [.ref 0, .int x1] h (f_X12_all x1 h) := by
  refine T_of [.ref 0, .int x1] (by decide) (fun _ => rfl) (fun _ => Nat.le_of_ble_eq_true rfl) ?_
  show B XM 5 RX12 cX12_all 2 (some .int) fiI 0 [.ref 0, .int x1] [] h (f_X12_all x1 h)
  unfold f_X12_all
  refine B_aload_n dX12_all_0 rfl rfl ?_
  refine B_iconst dX12_all_1 ic_0 ?_
  refine B_putI dX12_all_2 fl_X12_103 fw_X12_0 shM_0 rfl ?_
  refine B_lh (fun h1 => ?_)
  refine B_aload_n dX12_all_5 rfl rfl ?_
  refine B_getI dX12_all_6 fl_X12_293 shM_0 rfl ?_
  refine C_if_ne (tgt := 14) dX12_all_9 (by decide) (fun q11 => ?_) (fun q11 => ?_)
  · refine B_iload_n dX12_all_14 rfl rfl ?_
    refine C_ite (fun n2_0 => ?_) (fun n2_0 => ?_)
    · refine B_tswIn (off := 53) (tgt := 68) dX12_all_15 (by rw [n2_0]; decide) (by rw [n2_0]; decide) (by rw [n2_0]; decide) (by decide) ?_
      refine B_aload_n dX12_all_68 rfl rfl ?_
      refine B_getR dX12_all_69 fl_X12_55 shM_0 rfl (rfM_0_28 _) ?_
      refine B_bipush dX12_all_72 bp_26 ?_
      refine L_iald dX12_all_74 shM_11 (by decide) di_26 ?_
      exact B_ireturn dX12_all_75 rfl rfl
    · refine C_ite (fun n2_1 => ?_) (fun n2_1 => ?_)
      · refine B_tswIn (off := 61) (tgt := 76) dX12_all_15 (by rw [n2_1]; decide) (by rw [n2_1]; decide) (by rw [n2_1]; decide) (by decide) ?_
        refine B_aload_n dX12_all_76 rfl rfl ?_
        refine B_aload_n dX12_all_77 rfl rfl ?_
        refine B_getR dX12_all_78 fl_X12_55 shM_0 rfl (rfM_0_28 _) ?_
        refine B_Vp (st := []) dX12_all_81 cl_X12_346 (t_X12_tooMuch 11 shM_11 h1) (Nat.le_of_ble_eq_true rfl) shM_0 rfl rfl (Nat.le_of_ble_eq_true rfl) (fun v3 _ => ?_)
        exact B_ireturn dX12_all_84 rfl rfl
      · refine C_ite (fun n2_2 => ?_) (fun n2_2 => ?_)
        · refine B_tswIn (off := 70) (tgt := 85) dX12_all_15 (by rw [n2_2]; decide) (by rw [n2_2]; decide) (by rw [n2_2]; decide) (by decide) ?_
          refine B_aload_n dX12_all_85 rfl rfl ?_
          refine B_iload_n dX12_all_86 rfl rfl ?_
          refine B_Vp (st := []) dX12_all_87 cl_X12_494 (t_X12_greatest x1 h1) (Nat.le_of_ble_eq_true rfl) shM_0 rfl rfl (Nat.le_of_ble_eq_true rfl) (fun v4 _ => ?_)
          exact B_ireturn dX12_all_90 rfl rfl
        · refine C_ite (fun n2_3 => ?_) (fun n2_3 => ?_)
          · refine B_tswIn (off := 70) (tgt := 85) dX12_all_15 (by rw [n2_3]; decide) (by rw [n2_3]; decide) (by rw [n2_3]; decide) (by decide) ?_
            refine B_aload_n dX12_all_85 rfl rfl ?_
            refine B_iload_n dX12_all_86 rfl rfl ?_
            refine B_Vp (st := []) dX12_all_87 cl_X12_494 (t_X12_greatest x1 h1) (Nat.le_of_ble_eq_true rfl) shM_0 rfl rfl (Nat.le_of_ble_eq_true rfl) (fun v5 _ => ?_)
            exact B_ireturn dX12_all_90 rfl rfl
          · refine C_ite (fun n2_4 => ?_) (fun n2_4 => ?_)
            · refine B_tswIn (off := 70) (tgt := 85) dX12_all_15 (by rw [n2_4]; decide) (by rw [n2_4]; decide) (by rw [n2_4]; decide) (by decide) ?_
              refine B_aload_n dX12_all_85 rfl rfl ?_
              refine B_iload_n dX12_all_86 rfl rfl ?_
              refine B_Vp (st := []) dX12_all_87 cl_X12_494 (t_X12_greatest x1 h1) (Nat.le_of_ble_eq_true rfl) shM_0 rfl rfl (Nat.le_of_ble_eq_true rfl) (fun v6 _ => ?_)
              exact B_ireturn dX12_all_90 rfl rfl
            · refine C_ite (fun n2_5 => ?_) (fun n2_5 => ?_)
              · refine B_tswIn (off := 70) (tgt := 85) dX12_all_15 (by rw [n2_5]; decide) (by rw [n2_5]; decide) (by rw [n2_5]; decide) (by decide) ?_
                refine B_aload_n dX12_all_85 rfl rfl ?_
                refine B_iload_n dX12_all_86 rfl rfl ?_
                refine B_Vp (st := []) dX12_all_87 cl_X12_494 (t_X12_greatest x1 h1) (Nat.le_of_ble_eq_true rfl) shM_0 rfl rfl (Nat.le_of_ble_eq_true rfl) (fun v7 _ => ?_)
                exact B_ireturn dX12_all_90 rfl rfl
              · refine C_ite (fun n2_6 => ?_) (fun n2_6 => ?_)
                · refine B_tswIn (off := 70) (tgt := 85) dX12_all_15 (by rw [n2_6]; decide) (by rw [n2_6]; decide) (by rw [n2_6]; decide) (by decide) ?_
                  refine B_aload_n dX12_all_85 rfl rfl ?_
                  refine B_iload_n dX12_all_86 rfl rfl ?_
                  refine B_Vp (st := []) dX12_all_87 cl_X12_494 (t_X12_greatest x1 h1) (Nat.le_of_ble_eq_true rfl) shM_0 rfl rfl (Nat.le_of_ble_eq_true rfl) (fun v8 _ => ?_)
                  exact B_ireturn dX12_all_90 rfl rfl
                · refine C_ite (fun n2_7 => ?_) (fun n2_7 => ?_)
                  · refine B_tswIn (off := 76) (tgt := 91) dX12_all_15 (by rw [n2_7]; decide) (by rw [n2_7]; decide) (by rw [n2_7]; decide) (by decide) ?_
                    refine B_aload_n dX12_all_91 rfl rfl ?_
                    refine B_Vp (st := []) dX12_all_92 cl_X12_497 (t_X12_reach h1) (Nat.le_of_ble_eq_true rfl) shM_0 rfl rfl (Nat.le_of_ble_eq_true rfl) (fun v9 _ => ?_)
                    exact B_ireturn dX12_all_95 rfl rfl
                  · refine C_ite (fun n2_8 => ?_) (fun n2_8 => ?_)
                    · refine B_tswIn (off := 81) (tgt := 96) dX12_all_15 (by rw [n2_8]; decide) (by rw [n2_8]; decide) (by rw [n2_8]; decide) (by decide) ?_
                      refine B_aload_n dX12_all_96 rfl rfl ?_
                      refine B_getR dX12_all_97 fl_X12_37 shM_0 rfl (rfM_0_18 _) ?_
                      refine B_iconst dX12_all_100 ic_0 ?_
                      refine L_iald dX12_all_101 shM_5 (by decide) di_0 ?_
                      refine B_aload_n dX12_all_102 rfl rfl ?_
                      refine B_getR dX12_all_103 fl_X12_55 shM_0 rfl (rfM_0_28 _) ?_
                      refine B_bipush dX12_all_106 bp_22 ?_
                      refine L_iald dX12_all_108 shM_11 (by decide) di_22 ?_
                      refine B_isub dX12_all_109 ?_
                      exact B_ireturn dX12_all_110 rfl rfl
                    · refine C_ite (fun n2_9 => ?_) (fun n2_9 => ?_)
                      · refine B_tswIn (off := 96) (tgt := 111) dX12_all_15 (by rw [n2_9]; decide) (by rw [n2_9]; decide) (by rw [n2_9]; decide) (by decide) ?_
                        refine B_aload_n dX12_all_111 rfl rfl ?_
                        refine B_Vp (st := []) dX12_all_112 cl_X12_500 (t_X12_spread h1) (Nat.le_of_ble_eq_true rfl) shM_0 rfl rfl (Nat.le_of_ble_eq_true rfl) (fun v10 _ => ?_)
                        exact B_ireturn dX12_all_115 rfl rfl
                      · refine B_tswOut (tgt := 116) dX12_all_15 (dsw (fun c h1 h2 => ?_)) (by decide) ?_
                        · rcases (show c = 0 ∨ c = 1 ∨ c = 2 ∨ c = 3 ∨ c = 4 ∨ c = 5 ∨ c = 6 ∨ c = 7 ∨ c = 8 ∨ c = 9 by omega) with rfl | rfl | rfl | rfl | rfl | rfl | rfl | rfl | rfl | rfl
                          · exact n2_0
                          · exact n2_1
                          · exact n2_2
                          · exact n2_3
                          · exact n2_4
                          · exact n2_5
                          · exact n2_6
                          · exact n2_7
                          · exact n2_8
                          · exact n2_9
                        · refine B_iconst dX12_all_116 ic_m1 ?_
                          exact B_ireturn dX12_all_117 rfl rfl
  · refine B_iconst dX12_all_12 ic_m1 ?_
    exact B_ireturn dX12_all_13 rfl rfl
def f_X12_kinds_J56 (kL30 : Int32 → Int32 → Int32 → dH → Option (Int32 × dH)) (y1 : Int32) (y3 : Int32) (z0 : Int32) (z1 : Int32) (h : dH) : Option (Int32 × dH) :=
  (some ((z0 ||| z1))).bind fun v7 =>
  kL30 y1 v7 (y3 + 1) h
set_option maxRecDepth 20000 in
set_option maxHeartbeats 4000000 in
theorem b_X12_kinds_J56 {kL30 : Int32 → Int32 → Int32 → dH → Option (Int32 × dH)} (hkL30 : ∀ (y1 : Int32) (y2 : Int32) (y3 : Int32) (h : dH), B XM 1 RX12 cX12_kinds 4 (some .int) fiI 30 [.ref 0, .int y1, .int y2, .int y3] [] h (kL30 y1 y2 y3 h)) (y1 : Int32) (y3 : Int32) (z0 : Int32) (z1 : Int32) (h : dH) : B XM 1 RX12 cX12_kinds 4 (some .int) fiI 56 [.ref 0, .int y1, .null, .int y3] [.int z1, .int z0] h (f_X12_kinds_J56 kL30 y1 y3 z0 z1 h) := by
  unfold f_X12_kinds_J56
  refine B_ior dX12_kinds_56 ?_
  refine B_lv (fun v7 => ?_)
  refine B_istore_n (ls' := [.ref 0, .int y1, .int v7, .int y3]) dX12_kinds_57 rfl (Nat.le_of_ble_eq_true rfl) rfl rfl ?_
  refine B_iinc (w := (y3 + 1)) (ls' := [.ref 0, .int y1, .int v7, .int (y3 + 1)]) dX12_kinds_58 rfl (congrArg (fun z => y3 + z) ic_1) (Nat.le_of_ble_eq_true rfl) rfl rfl ?_
  refine B_goto (tgt := 30) dX12_kinds_61 (by decide) ?_
  exact hkL30 y1 v7 (y3 + 1)  h
def f_X12_kinds_L30 : Nat → Int32 → Int32 → Int32 → dH → Option (Int32 × dH)
  | 0, _, _, _, _ => none
  | n + 1, y1, y2, y3, h =>
    if y3 < (h.1 0 24) then
    (f_X12_of y3 2 h).bind fun v4 =>
    if v4 = y1 then
    f_X12_kinds_J56 (f_X12_kinds_L30 n) y1 y3 y2 (1 <<< (y3 &&& 31)) h
    else
    f_X12_kinds_J56 (f_X12_kinds_L30 n) y1 y3 y2 0 h
    else
    some (y2, h)
set_option maxRecDepth 20000 in
set_option maxHeartbeats 4000000 in
theorem b_X12_kinds_L30 : ∀ (n : Nat) (y1 : Int32) (y2 : Int32) (y3 : Int32) (h : dH), B XM 1 RX12 cX12_kinds 4 (some .int) fiI 30 [.ref 0, .int y1, .int y2, .int y3] [] h (f_X12_kinds_L30 n y1 y2 y3 h) := by
  intro n
  induction n with
  | zero =>
    intro y1 y2 y3 h
    exact B_none
  | succ n ih =>
    intro y1 y2 y3 h
    rw [f_X12_kinds_L30]
    refine B_iload_n dX12_kinds_30 rfl rfl ?_
    refine B_aload_n dX12_kinds_31 rfl rfl ?_
    refine B_getI dX12_kinds_32 fl_X12_293 shM_0 rfl ?_
    refine C_icmp_ge (tgt := 64) dX12_kinds_35 (by decide) (fun q6 => ?_) (fun q6 => ?_)
    · refine B_iload_n dX12_kinds_64 rfl rfl ?_
      exact B_ireturn dX12_kinds_65 rfl rfl
    · refine B_iload_n dX12_kinds_38 rfl rfl ?_
      refine B_aload_n dX12_kinds_39 rfl rfl ?_
      refine B_iload_n dX12_kinds_40 rfl rfl ?_
      refine B_iconst dX12_kinds_41 ic_2 ?_
      refine B_Vp (st := [.int y2]) dX12_kinds_42 cl_X12_305 (t_X12_of y3 2 h) (Nat.le_of_ble_eq_true rfl) shM_0 rfl rfl (Nat.le_of_ble_eq_true rfl) (fun v4 _ => ?_)
      refine B_iload_n dX12_kinds_45 rfl rfl ?_
      refine C_icmp_ne (tgt := 55) dX12_kinds_46 (by decide) (fun q5 => ?_) (fun q5 => ?_)
      · refine B_iconst dX12_kinds_55 ic_0 ?_
        refine B_drop 2 (ls' := [.ref 0, .int y1, .null, .int y3]) rfl ?_
        exact b_X12_kinds_J56 (fun qy1 qy2 qy3 qh => ih qy1 qy2 qy3 qh) y1 y3 y2 0 h
      · refine B_iconst dX12_kinds_49 ic_1 ?_
        refine B_iload_n dX12_kinds_50 rfl rfl ?_
        refine B_ishl dX12_kinds_51 ?_
        refine B_goto (tgt := 56) dX12_kinds_52 (by decide) ?_
        refine B_drop 2 (ls' := [.ref 0, .int y1, .null, .int y3]) rfl ?_
        exact b_X12_kinds_J56 (fun qy1 qy2 qy3 qh => ih qy1 qy2 qy3 qh) y1 y3 y2 (1 <<< (y3 &&& 31)) h
def f_X12_kinds (x1 : Int32) (h : dH) : Option (Int32 × dH) :=
  (some (dPut h 0 0 0)).bind fun h1 =>
  if (h1.1 0 24) = 0 then
  some ((-1), h1)
  else
  if (f_X12_isIn ((x1 : Int32).toInt64) 0 3 h1) then
  f_X12_kinds_L30 dFu x1 0 0 h1
  else
  some ((-1), h1)
set_option maxRecDepth 20000 in
set_option maxHeartbeats 4000000 in
theorem t_X12_kinds (x1 : Int32) (h : dH) : T XM 1 yX12_kinds cX12_kinds 4 (some .int) fiI [.ref 0, .int x1] h (f_X12_kinds x1 h) := by
  refine T_of [.ref 0, .int x1, .null, .null] (by decide) (fun _ => rfl) (fun _ => Nat.le_of_ble_eq_true rfl) ?_
  show B XM 1 RX12 cX12_kinds 4 (some .int) fiI 0 [.ref 0, .int x1, .null, .null] [] h (f_X12_kinds x1 h)
  unfold f_X12_kinds
  refine B_aload_n dX12_kinds_0 rfl rfl ?_
  refine B_iconst dX12_kinds_1 ic_0 ?_
  refine B_putI dX12_kinds_2 fl_X12_103 fw_X12_0 shM_0 rfl ?_
  refine B_lh (fun h1 => ?_)
  refine B_aload_n dX12_kinds_5 rfl rfl ?_
  refine B_getI dX12_kinds_6 fl_X12_293 shM_0 rfl ?_
  refine C_if_eq (tgt := 24) dX12_kinds_9 (by decide) (fun q3 => ?_) (fun q3 => ?_)
  · refine B_iconst dX12_kinds_24 ic_m1 ?_
    exact B_ireturn dX12_kinds_25 rfl rfl
  · refine B_iload_n dX12_kinds_12 rfl rfl ?_
    refine B_i2l dX12_kinds_13 ?_
    refine B_lconst (v := 0) dX12_kinds_14 (by decide) ?_
    refine B_ldc2 dX12_kinds_15 kc_X12_478 ?_
    refine B_STb (st := []) dX12_kinds_18 cl_X12_224 (t_X12_isIn ((x1 : Int32).toInt64) 0 3 h1) (Nat.le_of_ble_eq_true rfl) rfl rfl (Nat.le_of_ble_eq_true rfl) ?_
    refine C_ifb_ne (tgt := 26) dX12_kinds_21 (by decide) (fun q2 => ?_) (fun q2 => ?_)
    · refine B_iconst dX12_kinds_26 ic_0 ?_
      refine B_istore_n (ls' := [.ref 0, .int x1, .int 0, .null]) dX12_kinds_27 rfl (Nat.le_of_ble_eq_true rfl) rfl rfl ?_
      refine B_iconst dX12_kinds_28 ic_0 ?_
      refine B_istore_n (ls' := [.ref 0, .int x1, .int 0, .int 0]) dX12_kinds_29 rfl (Nat.le_of_ble_eq_true rfl) rfl rfl ?_
      exact b_X12_kinds_L30 dFu x1 0 0 h1
    · refine B_iconst dX12_kinds_24 ic_m1 ?_
      exact B_ireturn dX12_kinds_25 rfl rfl
def f_X12_calm_L17 : Nat → Int32 → Int32 → dH → Option (Int32 × dH)
  | 0, _, _, _ => none
  | n + 1, y1, y2, h =>
    if 60 < y2 then
    some ((-1), h)
    else
    if dIn ((3 * y1) + 0) 209 then
    if dIn ((3 * y1) + 1) 209 then
    if (h.1 11 (dI ((3 * y1) + 1))) < (jmax 0 ((h.1 11 (dI ((3 * y1) + 0))) - (y2 * (h.1 5 2)))) then
    (f_X12_calm_L17 n) y1 (y2 + 1) h
    else
    some (y2, h)
    else none
    else none
set_option maxRecDepth 20000 in
set_option maxHeartbeats 4000000 in
theorem b_X12_calm_L17 : ∀ (n : Nat) (y1 : Int32) (y2 : Int32) (h : dH), B XM 1 RX12 cX12_calm 3 (some .int) fiI 17 [.ref 0, .int y1, .int y2] [] h (f_X12_calm_L17 n y1 y2 h) := by
  intro n
  induction n with
  | zero =>
    intro y1 y2 h
    exact B_none
  | succ n ih =>
    intro y1 y2 h
    rw [f_X12_calm_L17]
    refine B_iload_n dX12_calm_17 rfl rfl ?_
    refine B_bipush dX12_calm_18 bp_60 ?_
    refine C_icmp_gt (tgt := 67) dX12_calm_20 (by decide) (fun q6 => ?_) (fun q6 => ?_)
    · refine B_iconst dX12_calm_67 ic_m1 ?_
      exact B_ireturn dX12_calm_68 rfl rfl
    · refine B_iconst dX12_calm_23 ic_0 ?_
      refine B_aload_n dX12_calm_24 rfl rfl ?_
      refine B_getR dX12_calm_25 fl_X12_55 shM_0 rfl (rfM_0_28 _) ?_
      refine B_iconst dX12_calm_28 ic_3 ?_
      refine B_iload_n dX12_calm_29 rfl rfl ?_
      refine B_imul dX12_calm_30 ?_
      refine B_iconst dX12_calm_31 ic_0 ?_
      refine B_iadd dX12_calm_32 ?_
      refine C_chk (fun q3 => ?_)
      refine L_iald dX12_calm_33 shM_11 q3 rfl ?_
      refine B_iload_n dX12_calm_34 rfl rfl ?_
      refine B_aload_n dX12_calm_35 rfl rfl ?_
      refine B_getR dX12_calm_36 fl_X12_37 shM_0 rfl (rfM_0_18 _) ?_
      refine B_iconst dX12_calm_39 ic_2 ?_
      refine L_iald dX12_calm_40 shM_5 (by decide) di_2 ?_
      refine B_imul dX12_calm_41 ?_
      refine B_isub dX12_calm_42 ?_
      refine B_mmax dX12_calm_43 mt_X12_337 (Nat.le_of_ble_eq_true rfl) (Nat.le_of_ble_eq_true rfl) ?_
      refine B_aload_n dX12_calm_46 rfl rfl ?_
      refine B_getR dX12_calm_47 fl_X12_55 shM_0 rfl (rfM_0_28 _) ?_
      refine B_iconst dX12_calm_50 ic_3 ?_
      refine B_iload_n dX12_calm_51 rfl rfl ?_
      refine B_imul dX12_calm_52 ?_
      refine B_iconst dX12_calm_53 ic_1 ?_
      refine B_iadd dX12_calm_54 ?_
      refine C_chk (fun q4 => ?_)
      refine L_iald dX12_calm_55 shM_11 q4 rfl ?_
      refine C_icmp_gt (tgt := 61) dX12_calm_56 (by decide) (fun q5 => ?_) (fun q5 => ?_)
      · refine B_iinc (w := (y2 + 1)) (ls' := [.ref 0, .int y1, .int (y2 + 1)]) dX12_calm_61 rfl (congrArg (fun z => y2 + z) ic_1) (Nat.le_of_ble_eq_true rfl) rfl rfl ?_
        refine B_goto (tgt := 17) dX12_calm_64 (by decide) ?_
        exact ih y1 (y2 + 1)  h
      · refine B_iload_n dX12_calm_59 rfl rfl ?_
        exact B_ireturn dX12_calm_60 rfl rfl
def f_X12_calm (x1 : Int32) (h : dH) : Option (Int32 × dH) :=
  (some (dPut h 0 0 0)).bind fun h1 =>
  if (f_X12_isPlace x1 h1) then
  f_X12_calm_L17 dFu x1 0 h1
  else
  some ((-1), h1)
set_option maxRecDepth 20000 in
set_option maxHeartbeats 4000000 in
theorem t_X12_calm (x1 : Int32) (h : dH) : T XM 1 yX12_calm cX12_calm 3 (some .int) fiI [.ref 0, .int x1] h (f_X12_calm x1 h) := by
  refine T_of [.ref 0, .int x1, .null] (by decide) (fun _ => rfl) (fun _ => Nat.le_of_ble_eq_true rfl) ?_
  show B XM 1 RX12 cX12_calm 3 (some .int) fiI 0 [.ref 0, .int x1, .null] [] h (f_X12_calm x1 h)
  unfold f_X12_calm
  refine B_aload_n dX12_calm_0 rfl rfl ?_
  refine B_iconst dX12_calm_1 ic_0 ?_
  refine B_putI dX12_calm_2 fl_X12_103 fw_X12_0 shM_0 rfl ?_
  refine B_lh (fun h1 => ?_)
  refine B_aload_n dX12_calm_5 rfl rfl ?_
  refine B_iload_n dX12_calm_6 rfl rfl ?_
  refine B_VTb (st := []) dX12_calm_7 cl_X12_339 (t_X12_isPlace x1 h1) (Nat.le_of_ble_eq_true rfl) shM_0 rfl rfl (Nat.le_of_ble_eq_true rfl) ?_
  refine C_ifb_ne (tgt := 15) dX12_calm_10 (by decide) (fun q2 => ?_) (fun q2 => ?_)
  · refine B_iconst dX12_calm_15 ic_0 ?_
    refine B_istore_n (ls' := [.ref 0, .int x1, .int 0]) dX12_calm_16 rfl (Nat.le_of_ble_eq_true rfl) rfl rfl ?_
    exact b_X12_calm_L17 dFu x1 0 h1
  · refine B_iconst dX12_calm_13 ic_m1 ?_
    exact B_ireturn dX12_calm_14 rfl rfl
def f_X12_image_L16 : Nat → Int32 → dH → Option (Int32 × dH)
  | 0, _, _ => none
  | n + 1, y1, h =>
    if y1 < 209 then
    if dIn y1 209 then
    if dIn y1 209 then
    (some (dPut h 23 (dI y1) (h.1 11 (dI y1)))).bind fun h5 =>
    (f_X12_image_L16 n) (y1 + 1) h5
    else none
    else none
    else
    some (((dPut h 0 54 1).1 11 27), (dPut h 0 54 1))
set_option maxRecDepth 20000 in
set_option maxHeartbeats 4000000 in
theorem b_X12_image_L16 : ∀ (n : Nat) (y1 : Int32) (h : dH), B XM 0 RX12 cX12_image 2 (some .int) fiI 16 [.ref 0, .int y1] [] h (f_X12_image_L16 n y1 h) := by
  intro n
  induction n with
  | zero =>
    intro y1 h
    exact B_none
  | succ n ih =>
    intro y1 h
    rw [f_X12_image_L16]
    refine B_iload_n dX12_image_16 rfl rfl ?_
    refine B_sipush dX12_image_17 sp_209 ?_
    refine C_icmp_ge (tgt := 41) dX12_image_20 (by decide) (fun q6 => ?_) (fun q6 => ?_)
    · refine B_aload_n dX12_image_41 rfl rfl ?_
      refine B_iconst dX12_image_42 ic_1 ?_
      refine B_putZ dX12_image_43 fl_X12_302 fw_X12_54 shM_0 rfl (Or.inr rfl) ?_
      refine B_aload_n dX12_image_46 rfl rfl ?_
      refine B_getR dX12_image_47 fl_X12_55 shM_0 rfl (rfM_0_28 _) ?_
      refine B_bipush dX12_image_50 bp_27 ?_
      refine L_iald dX12_image_52 shM_11 (by decide) di_27 ?_
      exact B_ireturn dX12_image_53 rfl rfl
    · refine B_aload_n dX12_image_23 rfl rfl ?_
      refine B_getR dX12_image_24 fl_X12_100 shM_0 rfl (rfM_0_53 _) ?_
      refine B_iload_n dX12_image_27 rfl rfl ?_
      refine B_aload_n dX12_image_28 rfl rfl ?_
      refine B_getR dX12_image_29 fl_X12_55 shM_0 rfl (rfM_0_28 _) ?_
      refine B_iload_n dX12_image_32 rfl rfl ?_
      refine C_chk (fun q3 => ?_)
      refine L_iald dX12_image_33 shM_11 q3 rfl ?_
      refine C_chk (fun q4 => ?_)
      refine L_iast dX12_image_34 shM_23 q4 rfl ?_
      refine B_lh (fun h5 => ?_)
      refine B_iinc (w := (y1 + 1)) (ls' := [.ref 0, .int (y1 + 1)]) dX12_image_35 rfl (congrArg (fun z => y1 + z) ic_1) (Nat.le_of_ble_eq_true rfl) rfl rfl ?_
      refine B_goto (tgt := 16) dX12_image_38 (by decide) ?_
      exact ih (y1 + 1)  h5
def f_X12_image (h : dH) : Option (Int32 × dH) :=
  (some (dPut h 0 0 0)).bind fun h1 =>
  if (h1.1 0 24) = 0 then
  some ((-1), h1)
  else
  f_X12_image_L16 dFu 0 h1
set_option maxRecDepth 20000 in
set_option maxHeartbeats 4000000 in
theorem t_X12_image (h : dH) : T XM 0 yX12_image cX12_image 2 (some .int) fiI [.ref 0] h (f_X12_image h) := by
  refine T_of [.ref 0, .null] (by decide) (fun _ => rfl) (fun _ => Nat.le_of_ble_eq_true rfl) ?_
  show B XM 0 RX12 cX12_image 2 (some .int) fiI 0 [.ref 0, .null] [] h (f_X12_image h)
  unfold f_X12_image
  refine B_aload_n dX12_image_0 rfl rfl ?_
  refine B_iconst dX12_image_1 ic_0 ?_
  refine B_putI dX12_image_2 fl_X12_103 fw_X12_0 shM_0 rfl ?_
  refine B_lh (fun h1 => ?_)
  refine B_aload_n dX12_image_5 rfl rfl ?_
  refine B_getI dX12_image_6 fl_X12_293 shM_0 rfl ?_
  refine C_if_ne (tgt := 14) dX12_image_9 (by decide) (fun q2 => ?_) (fun q2 => ?_)
  · refine B_iconst dX12_image_14 ic_0 ?_
    refine B_istore_n (ls' := [.ref 0, .int 0]) dX12_image_15 rfl (Nat.le_of_ble_eq_true rfl) rfl rfl ?_
    exact b_X12_image_L16 dFu 0 h1
  · refine B_iconst dX12_image_12 ic_m1 ?_
    exact B_ireturn dX12_image_13 rfl rfl
def f_X12_back_L16 : Nat → Int32 → dH → Option (Int32 × dH)
  | 0, _, _ => none
  | n + 1, y1, h =>
    if y1 < 209 then
    if dIn y1 209 then
    if dIn y1 209 then
    (some (dPut h 11 (dI y1) (h.1 23 (dI y1)))).bind fun h5 =>
    (f_X12_back_L16 n) (y1 + 1) h5
    else none
    else none
    else
    some (((dPut h 0 35 0).1 11 27), (dPut h 0 35 0))
set_option maxRecDepth 20000 in
set_option maxHeartbeats 4000000 in
theorem b_X12_back_L16 : ∀ (n : Nat) (y1 : Int32) (h : dH), B XM 0 RX12 cX12_back 2 (some .int) fiI 16 [.ref 0, .int y1] [] h (f_X12_back_L16 n y1 h) := by
  intro n
  induction n with
  | zero =>
    intro y1 h
    exact B_none
  | succ n ih =>
    intro y1 h
    rw [f_X12_back_L16]
    refine B_iload_n dX12_back_16 rfl rfl ?_
    refine B_sipush dX12_back_17 sp_209 ?_
    refine C_icmp_ge (tgt := 41) dX12_back_20 (by decide) (fun q6 => ?_) (fun q6 => ?_)
    · refine B_aload_n dX12_back_41 rfl rfl ?_
      refine B_iconst dX12_back_42 ic_0 ?_
      refine B_putI dX12_back_43 fl_X12_299 fw_X12_35 shM_0 rfl ?_
      refine B_aload_n dX12_back_46 rfl rfl ?_
      refine B_getR dX12_back_47 fl_X12_55 shM_0 rfl (rfM_0_28 _) ?_
      refine B_bipush dX12_back_50 bp_27 ?_
      refine L_iald dX12_back_52 shM_11 (by decide) di_27 ?_
      exact B_ireturn dX12_back_53 rfl rfl
    · refine B_aload_n dX12_back_23 rfl rfl ?_
      refine B_getR dX12_back_24 fl_X12_55 shM_0 rfl (rfM_0_28 _) ?_
      refine B_iload_n dX12_back_27 rfl rfl ?_
      refine B_aload_n dX12_back_28 rfl rfl ?_
      refine B_getR dX12_back_29 fl_X12_100 shM_0 rfl (rfM_0_53 _) ?_
      refine B_iload_n dX12_back_32 rfl rfl ?_
      refine C_chk (fun q3 => ?_)
      refine L_iald dX12_back_33 shM_23 q3 rfl ?_
      refine C_chk (fun q4 => ?_)
      refine L_iast dX12_back_34 shM_11 q4 rfl ?_
      refine B_lh (fun h5 => ?_)
      refine B_iinc (w := (y1 + 1)) (ls' := [.ref 0, .int (y1 + 1)]) dX12_back_35 rfl (congrArg (fun z => y1 + z) ic_1) (Nat.le_of_ble_eq_true rfl) rfl rfl ?_
      refine B_goto (tgt := 16) dX12_back_38 (by decide) ?_
      exact ih (y1 + 1)  h5
def f_X12_back (h : dH) : Option (Int32 × dH) :=
  (some (dPut h 0 0 0)).bind fun h1 =>
  if (h1.1 0 54) = 0 then
  some ((-1), h1)
  else
  f_X12_back_L16 dFu 0 h1
set_option maxRecDepth 20000 in
set_option maxHeartbeats 4000000 in
theorem t_X12_back (h : dH) : T XM 0 yX12_back cX12_back 2 (some .int) fiI [.ref 0] h (f_X12_back h) := by
  refine T_of [.ref 0, .null] (by decide) (fun _ => rfl) (fun _ => Nat.le_of_ble_eq_true rfl) ?_
  show B XM 0 RX12 cX12_back 2 (some .int) fiI 0 [.ref 0, .null] [] h (f_X12_back h)
  unfold f_X12_back
  refine B_aload_n dX12_back_0 rfl rfl ?_
  refine B_iconst dX12_back_1 ic_0 ?_
  refine B_putI dX12_back_2 fl_X12_103 fw_X12_0 shM_0 rfl ?_
  refine B_lh (fun h1 => ?_)
  refine B_aload_n dX12_back_5 rfl rfl ?_
  refine B_getZ dX12_back_6 fl_X12_302 shM_0 rfl ?_
  refine C_if_ne (tgt := 14) dX12_back_9 (by decide) (fun q2 => ?_) (fun q2 => ?_)
  · refine B_iconst dX12_back_14 ic_0 ?_
    refine B_istore_n (ls' := [.ref 0, .int 0]) dX12_back_15 rfl (Nat.le_of_ble_eq_true rfl) rfl rfl ?_
    exact b_X12_back_L16 dFu 0 h1
  · refine B_iconst dX12_back_12 ic_m1 ?_
    exact B_ireturn dX12_back_13 rfl rfl
def f_X12_count (x1 : Int32) (h : dH) : Option (Int32 × dH) :=
  (some (dPut h 0 0 0)).bind fun h1 =>
  if x1 = 0 then
  some ((h1.1 0 24), h1)
  else
  if x1 = 1 then
  some ((h1.1 0 7), h1)
  else
  if x1 = 2 then
  some ((h1.1 0 26), h1)
  else
  if x1 = 3 then
  some ((h1.1 0 6), h1)
  else
  if x1 = 4 then
  some ((h1.1 0 30), h1)
  else
  if x1 = 5 then
  some ((h1.1 11 27), h1)
  else
  if x1 = 6 then
  some ((h1.1 11 21), h1)
  else
  if x1 = 7 then
  some ((h1.1 11 22), h1)
  else
  if x1 = 8 then
  some ((f_X12_where 11 h1), h1)
  else
  if x1 = 9 then
  some ((h1.1 11 24), h1)
  else
  if x1 = 10 then
  some ((h1.1 11 25), h1)
  else
  if x1 = 11 then
  some ((h1.1 0 31), h1)
  else
  if x1 = 12 then
  some ((h1.1 0 47), h1)
  else
  if x1 = 13 then
  some ((h1.1 11 28), h1)
  else
  if x1 = 14 then
  some ((h1.1 0 35), h1)
  else
  some ((-1000000), h1)
set_option maxRecDepth 20000 in
set_option maxHeartbeats 4000000 in
theorem t_X12_count (x1 : Int32) (h : dH) : T XM 1 yX12_count cX12_count 2 (some .int) fiI [.ref 0, .int x1] h (f_X12_count x1 h) := by
  refine T_of [.ref 0, .int x1] (by decide) (fun _ => rfl) (fun _ => Nat.le_of_ble_eq_true rfl) ?_
  show B XM 1 RX12 cX12_count 2 (some .int) fiI 0 [.ref 0, .int x1] [] h (f_X12_count x1 h)
  unfold f_X12_count
  refine B_aload_n dX12_count_0 rfl rfl ?_
  refine B_iconst dX12_count_1 ic_0 ?_
  refine B_putI dX12_count_2 fl_X12_103 fw_X12_0 shM_0 rfl ?_
  refine B_lh (fun h1 => ?_)
  refine B_iload_n dX12_count_5 rfl rfl ?_
  refine C_ite (fun n2_0 => ?_) (fun n2_0 => ?_)
  · refine B_tswIn (off := 74) (tgt := 80) dX12_count_6 (by rw [n2_0]; decide) (by rw [n2_0]; decide) (by rw [n2_0]; decide) (by decide) ?_
    refine B_aload_n dX12_count_80 rfl rfl ?_
    refine B_getI dX12_count_81 fl_X12_293 shM_0 rfl ?_
    exact B_ireturn dX12_count_84 rfl rfl
  · refine C_ite (fun n2_1 => ?_) (fun n2_1 => ?_)
    · refine B_tswIn (off := 79) (tgt := 85) dX12_count_6 (by rw [n2_1]; decide) (by rw [n2_1]; decide) (by rw [n2_1]; decide) (by decide) ?_
      refine B_aload_n dX12_count_85 rfl rfl ?_
      refine B_getI dX12_count_86 fl_X12_285 shM_0 rfl ?_
      exact B_ireturn dX12_count_89 rfl rfl
    · refine C_ite (fun n2_2 => ?_) (fun n2_2 => ?_)
      · refine B_tswIn (off := 84) (tgt := 90) dX12_count_6 (by rw [n2_2]; decide) (by rw [n2_2]; decide) (by rw [n2_2]; decide) (by decide) ?_
        refine B_aload_n dX12_count_90 rfl rfl ?_
        refine B_getI dX12_count_91 fl_X12_288 shM_0 rfl ?_
        exact B_ireturn dX12_count_94 rfl rfl
      · refine C_ite (fun n2_3 => ?_) (fun n2_3 => ?_)
        · refine B_tswIn (off := 89) (tgt := 95) dX12_count_6 (by rw [n2_3]; decide) (by rw [n2_3]; decide) (by rw [n2_3]; decide) (by decide) ?_
          refine B_aload_n dX12_count_95 rfl rfl ?_
          refine B_getI dX12_count_96 fl_X12_116 shM_0 rfl ?_
          exact B_ireturn dX12_count_99 rfl rfl
        · refine C_ite (fun n2_4 => ?_) (fun n2_4 => ?_)
          · refine B_tswIn (off := 94) (tgt := 100) dX12_count_6 (by rw [n2_4]; decide) (by rw [n2_4]; decide) (by rw [n2_4]; decide) (by decide) ?_
            refine B_aload_n dX12_count_100 rfl rfl ?_
            refine B_getI dX12_count_101 fl_X12_61 shM_0 rfl ?_
            exact B_ireturn dX12_count_104 rfl rfl
          · refine C_ite (fun n2_5 => ?_) (fun n2_5 => ?_)
            · refine B_tswIn (off := 99) (tgt := 105) dX12_count_6 (by rw [n2_5]; decide) (by rw [n2_5]; decide) (by rw [n2_5]; decide) (by decide) ?_
              refine B_aload_n dX12_count_105 rfl rfl ?_
              refine B_getR dX12_count_106 fl_X12_55 shM_0 rfl (rfM_0_28 _) ?_
              refine B_bipush dX12_count_109 bp_27 ?_
              refine L_iald dX12_count_111 shM_11 (by decide) di_27 ?_
              exact B_ireturn dX12_count_112 rfl rfl
            · refine C_ite (fun n2_6 => ?_) (fun n2_6 => ?_)
              · refine B_tswIn (off := 107) (tgt := 113) dX12_count_6 (by rw [n2_6]; decide) (by rw [n2_6]; decide) (by rw [n2_6]; decide) (by decide) ?_
                refine B_aload_n dX12_count_113 rfl rfl ?_
                refine B_getR dX12_count_114 fl_X12_55 shM_0 rfl (rfM_0_28 _) ?_
                refine B_bipush dX12_count_117 bp_21 ?_
                refine L_iald dX12_count_119 shM_11 (by decide) di_21 ?_
                exact B_ireturn dX12_count_120 rfl rfl
              · refine C_ite (fun n2_7 => ?_) (fun n2_7 => ?_)
                · refine B_tswIn (off := 115) (tgt := 121) dX12_count_6 (by rw [n2_7]; decide) (by rw [n2_7]; decide) (by rw [n2_7]; decide) (by decide) ?_
                  refine B_aload_n dX12_count_121 rfl rfl ?_
                  refine B_getR dX12_count_122 fl_X12_55 shM_0 rfl (rfM_0_28 _) ?_
                  refine B_bipush dX12_count_125 bp_22 ?_
                  refine L_iald dX12_count_127 shM_11 (by decide) di_22 ?_
                  exact B_ireturn dX12_count_128 rfl rfl
                · refine C_ite (fun n2_8 => ?_) (fun n2_8 => ?_)
                  · refine B_tswIn (off := 123) (tgt := 129) dX12_count_6 (by rw [n2_8]; decide) (by rw [n2_8]; decide) (by rw [n2_8]; decide) (by decide) ?_
                    refine B_aload_n dX12_count_129 rfl rfl ?_
                    refine B_getR dX12_count_130 fl_X12_55 shM_0 rfl (rfM_0_28 _) ?_
                    refine B_St (st := []) dX12_count_133 cl_X12_311 (t_X12_where 11 shM_11 h1) (Nat.le_of_ble_eq_true rfl) rfl rfl (Nat.le_of_ble_eq_true rfl) ?_
                    exact B_ireturn dX12_count_136 rfl rfl
                  · refine C_ite (fun n2_9 => ?_) (fun n2_9 => ?_)
                    · refine B_tswIn (off := 131) (tgt := 137) dX12_count_6 (by rw [n2_9]; decide) (by rw [n2_9]; decide) (by rw [n2_9]; decide) (by decide) ?_
                      refine B_aload_n dX12_count_137 rfl rfl ?_
                      refine B_getR dX12_count_138 fl_X12_55 shM_0 rfl (rfM_0_28 _) ?_
                      refine B_bipush dX12_count_141 bp_24 ?_
                      refine L_iald dX12_count_143 shM_11 (by decide) di_24 ?_
                      exact B_ireturn dX12_count_144 rfl rfl
                    · refine C_ite (fun n2_10 => ?_) (fun n2_10 => ?_)
                      · refine B_tswIn (off := 139) (tgt := 145) dX12_count_6 (by rw [n2_10]; decide) (by rw [n2_10]; decide) (by rw [n2_10]; decide) (by decide) ?_
                        refine B_aload_n dX12_count_145 rfl rfl ?_
                        refine B_getR dX12_count_146 fl_X12_55 shM_0 rfl (rfM_0_28 _) ?_
                        refine B_bipush dX12_count_149 bp_25 ?_
                        refine L_iald dX12_count_151 shM_11 (by decide) di_25 ?_
                        exact B_ireturn dX12_count_152 rfl rfl
                      · refine C_ite (fun n2_11 => ?_) (fun n2_11 => ?_)
                        · refine B_tswIn (off := 147) (tgt := 153) dX12_count_6 (by rw [n2_11]; decide) (by rw [n2_11]; decide) (by rw [n2_11]; decide) (by decide) ?_
                          refine B_aload_n dX12_count_153 rfl rfl ?_
                          refine B_getI dX12_count_154 fl_X12_65 shM_0 rfl ?_
                          exact B_ireturn dX12_count_157 rfl rfl
                        · refine C_ite (fun n2_12 => ?_) (fun n2_12 => ?_)
                          · refine B_tswIn (off := 152) (tgt := 158) dX12_count_6 (by rw [n2_12]; decide) (by rw [n2_12]; decide) (by rw [n2_12]; decide) (by decide) ?_
                            refine B_aload_n dX12_count_158 rfl rfl ?_
                            refine B_getI dX12_count_159 fl_X12_296 shM_0 rfl ?_
                            exact B_ireturn dX12_count_162 rfl rfl
                          · refine C_ite (fun n2_13 => ?_) (fun n2_13 => ?_)
                            · refine B_tswIn (off := 157) (tgt := 163) dX12_count_6 (by rw [n2_13]; decide) (by rw [n2_13]; decide) (by rw [n2_13]; decide) (by decide) ?_
                              refine B_aload_n dX12_count_163 rfl rfl ?_
                              refine B_getR dX12_count_164 fl_X12_55 shM_0 rfl (rfM_0_28 _) ?_
                              refine B_bipush dX12_count_167 bp_28 ?_
                              refine L_iald dX12_count_169 shM_11 (by decide) di_28 ?_
                              exact B_ireturn dX12_count_170 rfl rfl
                            · refine C_ite (fun n2_14 => ?_) (fun n2_14 => ?_)
                              · refine B_tswIn (off := 165) (tgt := 171) dX12_count_6 (by rw [n2_14]; decide) (by rw [n2_14]; decide) (by rw [n2_14]; decide) (by decide) ?_
                                refine B_aload_n dX12_count_171 rfl rfl ?_
                                refine B_getI dX12_count_172 fl_X12_299 shM_0 rfl ?_
                                exact B_ireturn dX12_count_175 rfl rfl
                              · refine B_tswOut (tgt := 176) dX12_count_6 (dsw (fun c h1 h2 => ?_)) (by decide) ?_
                                · rcases (show c = 0 ∨ c = 1 ∨ c = 2 ∨ c = 3 ∨ c = 4 ∨ c = 5 ∨ c = 6 ∨ c = 7 ∨ c = 8 ∨ c = 9 ∨ c = 10 ∨ c = 11 ∨ c = 12 ∨ c = 13 ∨ c = 14 by omega) with rfl | rfl | rfl | rfl | rfl | rfl | rfl | rfl | rfl | rfl | rfl | rfl | rfl | rfl | rfl
                                  · exact n2_0
                                  · exact n2_1
                                  · exact n2_2
                                  · exact n2_3
                                  · exact n2_4
                                  · exact n2_5
                                  · exact n2_6
                                  · exact n2_7
                                  · exact n2_8
                                  · exact n2_9
                                  · exact n2_10
                                  · exact n2_11
                                  · exact n2_12
                                  · exact n2_13
                                  · exact n2_14
                                · refine B_ldcw dX12_count_176 kc_X12_400 ?_
                                  exact B_ireturn dX12_count_179 rfl rfl
